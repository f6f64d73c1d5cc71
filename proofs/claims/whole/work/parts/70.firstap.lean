/-! APARTS: the row, tone by tone -/
def tO (N : Nat → Nat) (k r s : Nat) : Nat := ffi (fun t => decide (okP N k r s t)) (N 1) 0
theorem tO_ok {N : Nat → Nat} {k r s : Nat} (h : ∃ t, t < N 1 ∧ okP N k r s t) : tO N k r s < N 1 ∧ okP N k r s (tO N k r s) ∧ ∀ j, j < tO N k r s → ¬ okP N k r s j := by
  obtain ⟨t, h1, h2⟩ := h
  obtain ⟨a, b, c, d⟩ := ffi_ex (p := fun t => decide (okP N k r s t)) (N 1) 0 ⟨t, by omega, by omega, decide_eq_true h2⟩
  exact ⟨by unfold tO; omega, of_decide_eq_true c, fun q q2 z => d q (by omega) q2 (decide_eq_true z)⟩
theorem tO_eq {N : Nat → Nat} {k r s t : Nat} (h1 : t < N 1) (h2 : okP N k r s t) (h3 : ∀ j, j < t → ¬ okP N k r s j) : t = tO N k r s := by
  obtain ⟨a, b, c⟩ := tO_ok ⟨t, h1, h2⟩
  rcases Nat.lt_trichotomy t (tO N k r s) with q | q | q
  · exact absurd h2 (c t q)
  · exact q
  · exact absurd b (h3 _ q)
def prA (N : Nat → Nat) (L a b : Nat) : Nat → Nat × Nat
  | 0 => (a, b)
  | i + 1 => (pl N (prA N L a b i).1 (tO N (L - (i + 1)) (prA N L a b i).1 (prA N L a b i).2), pl N (prA N L a b i).2 (tO N (L - (i + 1)) (prA N L a b i).1 (prA N L a b i).2))
abbrev gxA (N : Nat → Nat) (L a b i : Nat) : Nat := tO N (L - (i + 1)) (prA N L a b i).1 (prA N L a b i).2
theorem pr_ok {N : Nat → Nat} {L a b : Nat} (hN : HN N) (ha : a < N 0) (hb : b < N 0) (hp : 0 < wA N L (a * 14 + b)) : ∀ i, i ≤ L → (prA N L a b i).1 < N 0 ∧ (prA N L a b i).2 < N 0 ∧ 0 < wA N (L - i) ((prA N L a b i).1 * 14 + (prA N L a b i).2)
  | 0, _ => ⟨ha, hb, hp⟩
  | i + 1, hi => by
    have hn := hN.n
    obtain ⟨h1, h2, h3⟩ := pr_ok hN ha hb hp i (by omega)
    rw [show L - i = (L - (i + 1)) + 1 by omega] at h3
    obtain ⟨t1, t2, -⟩ := tO_ok ((wA_pos (by omega)).mp h3)
    exact ⟨hN.xpl h1 t1, hN.xpl h2 t1, t2.2⟩
theorem gx_ok {N : Nat → Nat} {L a b i : Nat} (hN : HN N) (ha : a < N 0) (hb : b < N 0) (hp : 0 < wA N L (a * 14 + b)) (hi : i < L) : gxA N L a b i < N 1 ∧ okP N (L - (i + 1)) (prA N L a b i).1 (prA N L a b i).2 (gxA N L a b i) ∧ ∀ j, j < gxA N L a b i → ¬ okP N (L - (i + 1)) (prA N L a b i).1 (prA N L a b i).2 j := by
  have hn := hN.n
  obtain ⟨h1, h2, h3⟩ := pr_ok hN ha hb hp i (by omega)
  rw [show L - i = (L - (i + 1)) + 1 by omega] at h3
  exact tO_ok ((wA_pos (by omega)).mp h3)
theorem l65a {X : ai_X} {h : ai_H} {N : Nat → Nat} {a b L : Nat} (hN : HN N) (C : CH h 3 N) (d27 : h[27]? = some cPa) (ha : a < N 0) (hb : b < N 0) (hL : L ≤ 40) {P : ai_O → Prop} (z : ∀ g f, Fr 32 33 h g → g[32]? = some (cJ 196 f) → MA N f (L + 1) 0 → Rk X am_65 15 [some (.ref 27), some (.ref 3), some (.int (nI a)), some (.int (nI b)), some (.int (nI L)), some (.ref 15), some (.int (nI (L + 1))), none, none, none] [] g P) : ∀ (d : Nat) (k : Nat) (g : ai_H) (f : Nat → Int64), L + 1 < k + d → (1 ≤ k) → (k ≤ L + 1) → (Fr 32 33 h g) → (g[32]? = some (cJ 196 f)) → (MA N f k 0) → Rk X am_65 6 [some (.ref 27), some (.ref 3), some (.int (nI a)), some (.int (nI b)), some (.int (nI L)), some (.ref 15), some (.int (nI k)), none, none, none] [] g (P) := by
  intro d
  induction d with
  | zero => intro k g f hd hk1 hk F c32 H; exfalso; omega
  | succ d ih =>
    intro k g f hd hk1 hk F c32 H
    have C2 := C.fr2 F (by omega)
    have e27 := (F.2 27 (by omega)).trans d27
    refine rk_iload rfl rfl ?_
    refine rk_iload rfl rfl ?_
    refine rk_icmp_gt rfl rfl (fun hc8 => ?_) (fun hc8 => ?_)
    · replace hc8 := (nI_ltI (by omega) (by omega)).mp hc8
      have hk2 : k = L + 1 := by omega
      subst hk2
      exact z g f F c32 H
    · replace hc8 := mt (nI_ltI (by omega) (by omega)).mpr hc8
      refine rk_aload_n rfl rfl ?_
      refine rk_aload_n rfl rfl ?_
      refine rk_iload rfl rfl ?_
      refine rk_cv2v rfl rfl (by assumption) rfl rfl (Nat.le_of_ble_eq_true rfl) (Nat.le_of_ble_eq_true rfl) (s66 hN C2 e27 hk1 (by omega) c32 H) (fun h1 hF => ?_)
      obtain ⟨F3, f3, d32, H3⟩ := hF
      refine rk_iinc rfl rfl (n_inc _) rfl ?_
      refine rk_goto rfl rfl ?_
      exact ih (k + 1) _ _ (by omega) (by omega) (by omega) (F.tr F3) d32 H3
theorem l65b {X : ai_X} {h : ai_H} {N : Nat → Nat} {a b L : Nat} (hN : HN N) (C : CH h 3 N) (d27 : h[27]? = some cPa) (ha : a < N 0) (hb : b < N 0) (hL : L ≤ 40) {f : Nat → Int64} (c32 : h[32]? = some (cJ 196 f)) (H : MA N f (L + 1) 0) (hp : 0 < wA N L (a * 14 + b)) : ∀ (d : Nat) (i : Nat) (g : ai_H) (c9 : Option Value), L < i + d → (i ≤ L) → (Fr 15 17 h g) → (RtAt g 15 i (gxA N L a b)) → Rk X am_65 39 [some (.ref 27), some (.ref 3), some (.int (nI a)), some (.int (nI b)), some (.int (nI L)), some (.ref 15), some (.int (nI (prA N L a b i).1)), some (.int (nI (prA N L a b i).2)), some (.int (nI (L - i))), c9] [] g (Qi (fun w h1 => w = nI L ∧ Fr 15 17 h h1 ∧ RtAt h1 15 L (gxA N L a b))) := by
  intro d
  induction d with
  | zero => intro i g c9 hd hi F R; exfalso; omega
  | succ d ih =>
    intro i g c9 hd hi F R
    have C2 := C.fr2 F (by omega)
    have e3 := C2.1
    have e27 := (F.2 27 (by omega)).trans d27
    have e32 := (F.2 32 (by omega)).trans c32
    have hn := hN.n
    have h6 := hN.t
    obtain ⟨p1, p2, p3⟩ := pr_ok hN ha hb hp i hi
    obtain ⟨f15, r15, hf15⟩ := id R
    have e15 := r15.1
    have hgx := gx_ok (i := i) hN ha hb hp
    refine rk_iload rfl rfl ?_
    refine rk_if_le rfl rfl (fun hc40 => ?_) (fun hc40 => ?_)
    · replace hc40 := (n0_le (by omega)).mp hc40
      refine rk_iload rfl rfl ?_
      have hi2 : i = L := by omega
      subst hi2
      exact rk_ireturn rfl rfl ⟨_, _, rfl, rfl, F, R⟩
    · replace hc40 := mt (n0_le (by omega)).mpr hc40
      refine rk_aload_n rfl rfl ?_
      refine rk_aload_n rfl rfl ?_
      refine rk_iload rfl rfl ?_
      refine rk_iload rfl rfl ?_
      refine rk_iload rfl rfl ?_
      refine rk_iconst (v := nI 1) rfl (by decide) ?_
      refine rk_isub rfl (pk_sub (by omega)) ?_
      refine rk_cv4i rfl rfl (by assumption) rfl rfl (Nat.le_of_ble_eq_true rfl) (Nat.le_of_ble_eq_true rfl) (s67 hN C2 e27 e32 (by omega) H (k := L - i - 1) (by omega) p1 p2) (fun w h1 hF => ?_)
      obtain ⟨rfl, hw⟩ := hF
      replace hgx := hgx (by omega)
      have hwe : w = nI (gxA N L a b i) := by
        rw [show L - i - 1 = L - (i + 1) by omega] at hw
        rcases hw with ⟨-, y⟩ | ⟨t, y1, y2, y3, y4⟩
        · exact absurd hgx.2.1 (y _ hgx.1)
        · rw [y2, tO_eq y1 y3 y4]
      subst hwe
      refine rk_istore rfl (Nat.le_of_ble_eq_true rfl) rfl ?_
      refine rk_iload rfl rfl ?_
      refine rk_iconst (v := -1) rfl (by decide) ?_
      refine rk_icmp_ne rfl rfl (fun hc52 => ?_) (fun hc52 => ?_)
      · refine rk_aload rfl rfl ?_
        refine rk_iload rfl rfl ?_
        refine rk_cv1v rfl rfl (by assumption) rfl rfl (Nat.le_of_ble_eq_true rfl) (Nat.le_of_ble_eq_true rfl) (s89g r15 (by omega)) (fun h1 hF => ?_)
        obtain ⟨F3, r3⟩ := hF
        rw [if_pos (by omega)] at r3
        have R3 : RtAt h1 15 (i + 1) (gxA N L a b) := ⟨_, r3, fun j hj => by
          simp only [upd]
          by_cases y : j = i
          · rw [if_pos y, y]
          · rw [if_neg y]; exact hf15 j (by omega)⟩
        have C3 := C2.fr2 F3 (by omega)
        replace e3 := C3.1
        refine rk_aload_n rfl rfl ?_
        refine rk_iload rfl rfl ?_
        refine rk_iload rfl rfl ?_
        refine rk_cv2e rfl rfl (by assumption) rfl rfl (Nat.le_of_ble_eq_true rfl) (Nat.le_of_ble_eq_true rfl) (s27N C3 hN p1 hgx.1) ?_
        refine rk_istore rfl (Nat.le_of_ble_eq_true rfl) rfl ?_
        refine rk_aload_n rfl rfl ?_
        refine rk_iload rfl rfl ?_
        refine rk_iload rfl rfl ?_
        refine rk_cv2e rfl rfl (by assumption) rfl rfl (Nat.le_of_ble_eq_true rfl) (Nat.le_of_ble_eq_true rfl) (s27N C3 hN p2 hgx.1) ?_
        refine rk_istore rfl (Nat.le_of_ble_eq_true rfl) rfl ?_
        refine rk_iinc rfl rfl (n_dec (by omega)) rfl ?_
        refine rk_goto rfl rfl ?_
        exact ih (i + 1) _ _ (by omega) (by omega) (F.tr F3) R3
      · replace hc52 := Decidable.not_not.mp hc52
        exact absurd hc52 (nI_m1 (by omega))
theorem s65 {X : ai_X} {h : ai_H} {N : Nat → Nat} {a b L : Nat} (hN : HN N) (C : CH h 3 N) (d27 : h[27]? = some cPa) (ha : a < N 0) (hb : b < N 0) (hL : L ≤ 40) (S32 : ShJ h 32 196) (R15 : ∃ n f, RouteAt h 15 n f) : Mt X am_65 [.ref 27, .ref 3, .int (nI a), .int (nI b), .int (nI L), .ref 15] h (Qi (fun w h1 => h1.length = h.length ∧ (∀ q : Nat, q ≠ 15 → q ≠ 16 → q ≠ 32 → h1[q]? = h[q]?) ∧ ((¬ 0 < wA N L (a * 14 + b) ∧ w = -1 ∧ h1[15]? = h[15]? ∧ h1[16]? = h[16]?) ∨ (0 < wA N L (a * 14 + b) ∧ w = nI L ∧ RtAt h1 15 L (gxA N L a b))))) := by
  obtain ⟨f32, c32⟩ := S32
  have hn := hN.n
  refine rk_aload_n rfl rfl ?_
  refine rk_get rfl (by assumption) rfl ?_
  refine rk_lconst (v := 1) rfl (by decide) ?_
  refine rk_cs2v rfl rfl rfl (Nat.le_of_ble_eq_true rfl) (Nat.le_of_ble_eq_true rfl) (s291 (v := 1) (by decide) c32) (fun h1 hF => ?_)
  obtain ⟨F1, f1, d32, hf1⟩ := hF
  refine rk_iconst (v := nI 1) rfl (by decide) ?_
  refine rk_istore rfl (Nat.le_of_ble_eq_true rfl) rfl ?_
  refine l65a (h := h) hN C d27 ha hb hL (fun g f F g32 H => ?_) (L + 1) 1 _ f1 (by omega) (by omega) (by omega) F1 d32 (fun p _ _ => ?_)
  · have e27 := (F.2 27 (by omega)).trans d27
    have C2 := C.fr2 F (by omega)
    have hm64 : uA N (a * 14 + b) (L + 1) < 2 ^ 63 := uA_64 (by omega)
    have hbit := uA_bit (N := N) (p := a * 14 + b) (j := L) (L + 1)
    obtain ⟨n15, f15, r15⟩ := R15
    have r15' := r15.fr (h1 := g) (fun q _ _ => F.2 q (by omega))
    have e15 := r15'.1
    refine rk_aload_n rfl rfl ?_
    refine rk_get rfl (by assumption) rfl ?_
    refine rk_aload_n rfl rfl ?_
    refine rk_iload_n rfl rfl ?_
    refine rk_iload_n rfl rfl ?_
    refine rk_cv2e rfl rfl (by assumption) rfl rfl (Nat.le_of_ble_eq_true rfl) (Nat.le_of_ble_eq_true rfl) (s50n) ?_
    refine rk_lald rfl (by assumption) (rfl) (by omega) (by decide) ?_
    rw [H _ (by omega) (by omega), mA_0]
    refine rk_iload rfl rfl ?_
    refine rk_lushr rfl (l_ushr (by omega) (by omega)) ?_
    refine rk_lconst (v := 1) rfl (by decide) ?_
    refine rk_land rfl (l_and1U _) ?_
    refine rk_lconst (v := 0) rfl (by decide) ?_
    refine rk_lcmp rfl rfl ?_
    refine rk_if_ne rfl rfl (fun hc28 => ?_) (fun hc28 => ?_)
    · refine rk_aload rfl rfl ?_
      refine rk_cv0v rfl rfl (by assumption) rfl rfl (Nat.le_of_ble_eq_true rfl) (Nat.le_of_ble_eq_true rfl) (s88 r15') (fun h1 hF => ?_)
      obtain ⟨F3, r3⟩ := hF
      refine rk_iload_n rfl rfl ?_
      refine rk_istore rfl (Nat.le_of_ble_eq_true rfl) rfl ?_
      refine rk_iload_n rfl rfl ?_
      refine rk_istore rfl (Nat.le_of_ble_eq_true rfl) rfl ?_
      refine rk_iload rfl rfl ?_
      refine rk_istore rfl (Nat.le_of_ble_eq_true rfl) rfl ?_
      have hp : 0 < wA N L (a * 14 + b) := by
        rcases Nat.mod_two_eq_zero_or_one (uA N (a * 14 + b) (L + 1) / 2 ^ L) with y | y
        · rw [y] at hc28
          exact absurd (by decide) hc28
        · exact (hbit.mp y).2
      refine (l65b (h := h1) hN (C2.fr2 F3 (by omega)) ((F3.2 27 (by omega)).trans e27) ha hb hL ((F3.2 32 (by omega)).trans g32) H hp (L + 1) 0 h1 _ (by omega) (Nat.zero_le _) Fr.rfl' ⟨_, r3, fun j hj => absurd hj (by omega)⟩).mono ?_
      rintro o ⟨w, h2, rfl, rfl, F4, R4⟩
      exact ⟨_, _, rfl, (F4.1.trans F3.1).trans F.1, fun q a1 a2 a3 => ((F4.2 q (by omega)).trans (F3.2 q (by omega))).trans (F.2 q (by omega)), Or.inr ⟨hp, rfl, R4⟩⟩
    · replace hc28 := Decidable.not_not.mp hc28
      refine rk_iconst (v := (-1)) rfl (by decide) ?_
      refine rk_ireturn rfl rfl ⟨_, _, rfl, F.1, fun q _ _ a3 => F.2 q (by omega), Or.inl ⟨fun y => ?_, rfl, F.2 15 (by omega), F.2 16 (by omega)⟩⟩
      rw [hbit.mpr ⟨by omega, y⟩] at hc28
      exact absurd hc28 (by decide)
  · rw [hf1 p (by omega), mA_0, show uA N p 1 = 1 from (if_pos (show 0 < wA N 0 p from (by show 0 < 1; omega))).trans (by show 0 ||| 2 ^ 0 = 1; decide)]; rfl
