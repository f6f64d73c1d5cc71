/-! APART: the class -/
theorem ft_skip {N Q F : Nat → Nat} {r s : Nat} (h : Q (r * 14 + s) % MP = 0) (p : Nat) : ∀ t, ftA N Q r s F t p % MP = F p % MP
  | 0 => rfl
  | t + 1 => by
    rw [ftA]
    by_cases e : pl N r t = pl N s t
    · rw [if_pos e]; exact ft_skip h p t
    · rw [if_neg e]
      by_cases q : p = pl N r t * 14 + pl N s t
      · rw [q, un_s, mp_skip h]; exact ft_skip h _ t
      · rw [un_n q]; exact ft_skip h p t
abbrev AM (g : ai_H) (p : Nat) (F : Nat → Nat) : Prop := AN g p 196 196 (fun j => F j % MP)
theorem updI_un {f : Nat → Int32} {y : Nat → Nat} {a v : Nat} (H : ∀ s, s < 196 → f s = nI (y s % MP)) : ∀ s, s < 196 → upd f a (nI (v % MP)) s = nI (un y a v s % MP) := by
  intro s hs
  simp only [upd, un]
  by_cases q : s = a
  · rw [if_pos q, if_pos q]
  · rw [if_neg q, if_neg q]; exact H s hs
theorem rem_mp {x q : Nat} : (nI (x % MP + q % MP)) - (nI (x % MP + q % MP)) / nI MP * nI MP = nI ((x + q) % MP) := by
  have b1 := Nat.mod_lt x (show 0 < MP by decide)
  have b2 := Nat.mod_lt q (show 0 < MP by decide)
  have := pk_rem (a := x % MP + q % MP) (d := MP) (by unfold MP at b1 b2 ⊢; omega) (by decide) (by decide)
  rw [mp_add] at this
  exact this
theorem l64t {X : ai_X} {h : ai_H} {N Q : Nat → Nat} (hN : HN N) (C : CH h 3 N) (d27 : h[27]? = some cPa) {r s : Nat} {F1 : Nat → Nat} (hr : r < N 0) (hs : s < N 0) {P : ai_O → Prop} (z : ∀ g c5 c6 c7, Fr 31 32 h g → AM g 31 (ftA N Q r s F1 (N 1)) → Rk X am_64 65 [some (.ref 27), some (.ref 3), some (.int (nI r)), some (.int (nI s)), some (.int (nI (Q (r * 14 + s) % MP))), c5, c6, c7] [] g P) : ∀ (d : Nat) (t : Nat) (g : ai_H) (c6 c7 : Option Value), N 1 < t + d → (t ≤ N 1) → (Fr 31 32 h g) → (AM g 31 (ftA N Q r s F1 t)) → Rk X am_64 26 [some (.ref 27), some (.ref 3), some (.int (nI r)), some (.int (nI s)), some (.int (nI (Q (r * 14 + s) % MP))), some (.int (nI t)), c6, c7] [] g (P) := by
  intro d
  induction d with
  | zero => intro t g c6 c7 hd ht F A1; exfalso; omega
  | succ d ih =>
    intro t g c6 c7 hd ht F A1
    have C2 := C.fr2 F (by omega)
    have e3 := C2.1
    have e27 := (F.2 27 (by omega)).trans d27
    have hn := hN.n
    have h6 := hN.t
    have F0 : Fr 31 32 h g := F
    obtain ⟨f1, c31, hf1⟩ := id A1
    have hq := Nat.mod_lt (Q (r * 14 + s)) (show 0 < MP by decide)
    have hq2 : Q (r * 14 + s) % MP < 2 ^ 31 := Nat.lt_trans hq (by decide)
    have hpr := hN.xpl (r := r) (i := t) hr
    have hps := hN.xpl (r := s) (i := t) hs
    have hft : ftA N Q r s F1 (t + 1) = if pl N r t = pl N s t then ftA N Q r s F1 t else un (ftA N Q r s F1 t) (pl N r t * 14 + pl N s t) (ftA N Q r s F1 t (pl N r t * 14 + pl N s t) + Q (r * 14 + s)) := rfl
    refine rk_iload rfl rfl ?_
    refine rk_aload_n rfl rfl ?_
    refine rk_get rfl (by assumption) rfl ?_
    refine rk_icmp_ge rfl rfl (fun hc29 => ?_) (fun hc29 => ?_)
    · replace hc29 := (nI_leI (by omega) (by omega)).mp hc29
      refine z g _ _ _ F ?_
      by_cases y : t = N 1
      · rw [← y]; exact A1
      · refine A1.congr (fun j _ => ?_)
        have hz : Q (r * 14 + s) % MP = 0 := by omega
        rw [ft_skip hz, ft_skip hz]
    · replace hc29 := mt (nI_leI (by omega) (by omega)).mpr hc29
      refine rk_iload rfl rfl ?_
      refine rk_if_eq rfl rfl (fun hc31 => ?_) (fun hc31 => ?_)
      · replace hc31 := (n0_eq (by omega)).mp hc31
        refine z g _ _ _ F ?_
        by_cases y : t = N 1
        · rw [← y]; exact A1
        · refine A1.congr (fun j _ => ?_)
          have hz : Q (r * 14 + s) % MP = 0 := by omega
          rw [ft_skip hz, ft_skip hz]
      · replace hc31 := mt (n0_eq (by omega)).mpr hc31
        refine rk_aload_n rfl rfl ?_
        refine rk_iload_n rfl rfl ?_
        refine rk_iload rfl rfl ?_
        refine rk_cv2e rfl rfl (by assumption) rfl rfl (Nat.le_of_ble_eq_true rfl) (Nat.le_of_ble_eq_true rfl) (s27N C2 hN hr (by omega)) ?_
        replace hpr := hpr (by omega)
        refine rk_istore rfl (Nat.le_of_ble_eq_true rfl) rfl ?_
        refine rk_aload_n rfl rfl ?_
        refine rk_iload_n rfl rfl ?_
        refine rk_iload rfl rfl ?_
        refine rk_cv2e rfl rfl (by assumption) rfl rfl (Nat.le_of_ble_eq_true rfl) (Nat.le_of_ble_eq_true rfl) (s27N C2 hN hs (by omega)) ?_
        replace hps := hps (by omega)
        refine rk_istore rfl (Nat.le_of_ble_eq_true rfl) rfl ?_
        refine rk_iload rfl rfl ?_
        refine rk_iload rfl rfl ?_
        refine rk_icmp_eq rfl rfl (fun hc44 => ?_) (fun hc44 => ?_)
        · replace hc44 := (nI_eq (by omega) (by omega)).mp hc44
          refine rk_iinc rfl rfl (n_inc _) rfl ?_
          refine rk_goto rfl rfl ?_
          first
            | exact ih (t + 1) g _ _ (by omega) (by omega) F (by rw [hft, if_pos hc44]; exact A1)
            | exact ih (t + 1) _ _ _ (by omega) (by omega) F0 ⟨_, c31, by rw [hft, if_neg hc44]; exact updI_un hf1⟩
        · replace hc44 := mt (nI_eq (by omega) (by omega)).mpr hc44
          refine rk_aload_n rfl rfl ?_
          refine rk_get rfl (by assumption) rfl ?_
          refine rk_aload_n rfl rfl ?_
          refine rk_iload rfl rfl ?_
          refine rk_iload rfl rfl ?_
          refine rk_cv2e rfl rfl (by assumption) rfl rfl (Nat.le_of_ble_eq_true rfl) (Nat.le_of_ble_eq_true rfl) (s50n) ?_
          refine rk_aload_n rfl rfl ?_
          refine rk_get rfl (by assumption) rfl ?_
          refine rk_aload_n rfl rfl ?_
          refine rk_iload rfl rfl ?_
          refine rk_iload rfl rfl ?_
          refine rk_cv2e rfl rfl (by assumption) rfl rfl (Nat.le_of_ble_eq_true rfl) (Nat.le_of_ble_eq_true rfl) (s50n) ?_
          refine rk_iald rfl (by assumption) (rfl) (by omega) (by decide) ?_
          rw [hf1 _ (by omega)]
          refine rk_iload rfl rfl ?_
          refine rk_iadd rfl (nI_add _ _) ?_
          refine rk_ldc rfl ?_
          rw [show (1000000007 : Int32) = nI MP by decide]
          refine rk_irem rfl (nI_ne0 (by decide) (by decide)) rem_mp ?_
          refine rk_iast rfl c31 (rfl) (by omega) (by decide) ?_
          refine hp_gen c31 (fun h1 g1 hk1 hl1 => ?_)
          replace e3 := (hk1 _ (by omega)).trans e3
          replace e27 := (hk1 _ (by omega)).trans e27
          replace C2 := C2.fr (fun q _ _ => hk1 q (by omega))
          replace F0 := F0.tr (Fr.mk1 hk1 hl1 (by omega) (by omega))
          replace c31 := g1
          refine rk_iinc rfl rfl (n_inc _) rfl ?_
          refine rk_goto rfl rfl ?_
          first
            | exact ih (t + 1) g _ _ (by omega) (by omega) F (by rw [hft, if_pos hc44]; exact A1)
            | exact ih (t + 1) _ _ _ (by omega) (by omega) F0 ⟨_, c31, by rw [hft, if_neg hc44]; exact updI_un hf1⟩
theorem l64s {X : ai_X} {h : ai_H} {N Q : Nat → Nat} (hN : HN N) (C : CH h 3 N) (d27 : h[27]? = some cPa) {r : Nat} {F1 : Nat → Nat} (hr : r < N 0) (A0 : AM h 30 Q) {P : ai_O → Prop} (z : ∀ g c3 c4 c5 c6 c7, Fr 31 32 h g → AM g 31 (fsA N Q r F1 (N 0)) → Rk X am_64 67 [some (.ref 27), some (.ref 3), some (.int (nI r)), c3, c4, c5, c6, c7] [] g P) : ∀ (d : Nat) (s : Nat) (g : ai_H) (c4 c5 c6 c7 : Option Value), N 0 < s + d → (s ≤ N 0) → (Fr 31 32 h g) → (AM g 31 (fsA N Q r F1 s)) → Rk X am_64 12 [some (.ref 27), some (.ref 3), some (.int (nI r)), some (.int (nI s)), c4, c5, c6, c7] [] g (P) := by
  intro d
  induction d with
  | zero => intro s g c4 c5 c6 c7 hd hs F A1; exfalso; omega
  | succ d ih =>
    intro s g c4 c5 c6 c7 hd hs F A1
    have C2 := C.fr2 F (by omega)
    have e3 := C2.1
    have e27 := (F.2 27 (by omega)).trans d27
    have hn := hN.n
    have h6 := hN.t
    obtain ⟨f0, c30, hf0⟩ := A0.fr (F.2 30 (by omega))
    refine rk_iload_n rfl rfl ?_
    refine rk_aload_n rfl rfl ?_
    refine rk_get rfl (by assumption) rfl ?_
    refine rk_icmp_ge rfl rfl (fun hc15 => ?_) (fun hc15 => ?_)
    · replace hc15 := (nI_leI (by omega) (by omega)).mp hc15
      have hs2 : s = N 0 := by omega
      subst hs2
      exact z g _ _ _ _ _ F A1
    · replace hc15 := mt (nI_leI (by omega) (by omega)).mpr hc15
      refine rk_aload_n rfl rfl ?_
      refine rk_get rfl (by assumption) rfl ?_
      refine rk_aload_n rfl rfl ?_
      refine rk_iload_n rfl rfl ?_
      refine rk_iload_n rfl rfl ?_
      refine rk_cv2e rfl rfl (by assumption) rfl rfl (Nat.le_of_ble_eq_true rfl) (Nat.le_of_ble_eq_true rfl) (s50n) ?_
      refine rk_iald rfl (by assumption) (rfl) (by omega) (by decide) ?_
      rw [hf0 _ (by omega)]
      refine rk_istore rfl (Nat.le_of_ble_eq_true rfl) rfl ?_
      refine rk_iconst (v := nI 0) rfl (by decide) ?_
      refine rk_istore rfl (Nat.le_of_ble_eq_true rfl) rfl ?_
      refine l64t (h := h) hN C d27 hr (by omega) (fun g2 c5 c6 c7 F2 A2 => ?_) (N 1 + 1) 0 g _ _ (by omega) (Nat.zero_le _) F A1
      refine rk_iinc rfl rfl (n_inc _) rfl ?_
      refine rk_goto rfl rfl ?_
      exact ih (s + 1) g2 _ _ _ _ (by omega) (by omega) F2 A2
theorem l64r {X : ai_X} {h : ai_H} {N Q : Nat → Nat} (hN : HN N) (C : CH h 3 N) (d27 : h[27]? = some cPa) (A0 : AM h 30 Q) {P : ai_O → Prop} (z : ∀ g c2 c3 c4 c5 c6 c7, Fr 31 32 h g → AM g 31 (frA N Q (N 0)) → Rk X am_64 69 [some (.ref 27), some (.ref 3), c2, c3, c4, c5, c6, c7] [] g P) : ∀ (d : Nat) (r : Nat) (g : ai_H) (c3 c4 c5 c6 c7 : Option Value), N 0 < r + d → (r ≤ N 0) → (Fr 31 32 h g) → (AM g 31 (frA N Q r)) → Rk X am_64 6 [some (.ref 27), some (.ref 3), some (.int (nI r)), c3, c4, c5, c6, c7] [] g (P) := by
  intro d
  induction d with
  | zero => intro r g c3 c4 c5 c6 c7 hd hr F A1; exfalso; omega
  | succ d ih =>
    intro r g c3 c4 c5 c6 c7 hd hr F A1
    have C2 := C.fr2 F (by omega)
    have e3 := C2.1
    have e27 := (F.2 27 (by omega)).trans d27
    have hn := hN.n
    have h6 := hN.t
    refine rk_iload_n rfl rfl ?_
    refine rk_aload_n rfl rfl ?_
    refine rk_get rfl (by assumption) rfl ?_
    refine rk_icmp_ge rfl rfl (fun hc9 => ?_) (fun hc9 => ?_)
    · replace hc9 := (nI_leI (by omega) (by omega)).mp hc9
      have hr2 : r = N 0 := by omega
      subst hr2
      exact z g _ _ _ _ _ _ F A1
    · replace hc9 := mt (nI_leI (by omega) (by omega)).mpr hc9
      refine rk_iconst (v := nI 0) rfl (by decide) ?_
      refine rk_istore_n rfl (Nat.le_of_ble_eq_true rfl) rfl ?_
      refine l64s (h := h) hN C d27 (by omega) A0 (fun g2 c3 c4 c5 c6 c7 F2 A2 => ?_) (N 0 + 1) 0 g _ _ _ _ (by omega) (Nat.zero_le _) F A1
      refine rk_iinc rfl rfl (n_inc _) rfl ?_
      refine rk_goto rfl rfl ?_
      exact ih (r + 1) g2 _ _ _ _ _ (by omega) (by omega) F2 A2
theorem s64 {X : ai_X} {h : ai_H} {N Q : Nat → Nat} (hN : HN N) (C : CH h 3 N) (d27 : h[27]? = some cPa) (A0 : AM h 30 Q) (S31 : ShI h 31 196) : Mt X am_64 [.ref 27, .ref 3] h (Qv (fun h1 => Fr 30 32 h h1 ∧ AM h1 30 (frA N Q (N 0)) ∧ ShI h1 31 196)) := by
  obtain ⟨f31, c31⟩ := S31
  have e3 := C.1
  refine rk_aload_n rfl rfl ?_
  refine rk_get rfl (by assumption) rfl ?_
  refine rk_iconst (v := nI 0) rfl (by decide) ?_
  refine rk_cs2v rfl rfl rfl (Nat.le_of_ble_eq_true rfl) (Nat.le_of_ble_eq_true rfl) (s292 (v := nI 0) (by decide) c31) (fun h1 hF => ?_)
  obtain ⟨F1, f1, d31, hf1⟩ := hF
  refine rk_iconst (v := nI 0) rfl (by decide) ?_
  refine rk_istore_n rfl (Nat.le_of_ble_eq_true rfl) rfl ?_
  refine l64r (h := h) hN C d27 A0 (fun g c2 c3 c4 c5 c6 c7 F A1 => ?_) (N 0 + 1) 0 _ _ _ _ _ _ (by omega) (Nat.zero_le _) (F1.mono (by omega) (by omega)) ⟨f1, d31, fun j hj => hf1 j hj⟩
  have e27 := (F.2 27 (by omega)).trans d27
  obtain ⟨fa, ca, hfa⟩ := A1
  obtain ⟨fb, cb, hfb⟩ := A0.fr (F.2 30 (by omega))
  refine rk_aload_n rfl rfl ?_
  refine rk_get rfl (by assumption) rfl ?_
  refine rk_iconst (v := nI 0) rfl (by decide) ?_
  refine rk_aload_n rfl rfl ?_
  refine rk_get rfl (by assumption) rfl ?_
  refine rk_iconst (v := nI 0) rfl (by decide) ?_
  refine rk_sipush (v := nI 196) rfl (by decide) ?_
  refine rk_cpyI rfl ca cb (by omega) (by omega) (by decide) (by decide) (Nat.le_of_ble_eq_true rfl) ?_
  refine hp_gen cb (fun h2 g2 hk2 hl2 => ?_)
  refine rk_return rfl rfl ⟨_, rfl, (F.mono (by omega) (by omega)).tr (Fr.mk1 hk2 hl2 (by omega) (by omega)), ⟨_, g2, fun j hj => ?_⟩, fa, (hk2 31 (by omega)).trans ca⟩
  rw [va_full (by omega)]
  exact hfa j hj
