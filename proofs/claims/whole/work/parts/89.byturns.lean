/-! BY TURNS: the class as a whole, the obligation -/
theorem l115a {X : ai_X} {h : ai_H} {p pv m : Nat} {st : Nat → Nat} {n1 n2 : Int32} (d24 : h[24]? = some (cSets n1 n2 (.ref pv) (.ref (pv + 1)))) (S : SU h p m st) (hm : m < 16384) (hs80 : 80 ≤ p ∧ 80 ≤ pv ∧ (pv + 2 ≤ p ∨ p + 3 ≤ pv)) {P : ai_O → Prop} (z : ∀ g f, Fr pv (pv + 1) h g → g[pv]? = some (cI 16384 f) → (∀ s, s < 16384 → (s = 0 ∨ ∃ r, r < 14 ∧ s = 2 ^ r) → f s = nI 0) → (∀ s, s < 16384 → ¬ (s = 0 ∨ ∃ r, r < 14 ∧ s = 2 ^ r) → f s = -1) → Rk X am_115 25 [some (.ref 24), some (.int (nI 14))] [] g P) : ∀ (d : Nat) (r : Nat) (g : ai_H) (f : Nat → Int32), 14 < r + d → (r ≤ 14) → (Fr pv (pv + 1) h g) → (g[pv]? = some (cI 16384 f)) → (∀ s, s < 16384 → (s = 0 ∨ ∃ r', r' < r ∧ s = 2 ^ r') → f s = nI 0) → (∀ s, s < 16384 → ¬ (s = 0 ∨ ∃ r', r' < r ∧ s = 2 ^ r') → f s = -1) → Rk X am_115 13 [some (.ref 24), some (.int (nI r))] [] g (P) := by
  intro d
  induction d with
  | zero => intro r g f hd hr Fg cv hz1 hz2; exfalso; omega
  | succ d ih =>
    intro r g f hd hr Fg cv hz1 hz2
    have e24 := (Fg.2 24 (by omega)).trans d24
    have h2r : r < 14 → 2 ^ r ≤ 8192 := fun y => Nat.pow_le_pow_right (n := 2) (by decide) (show r ≤ 13 by omega)
    refine rk_iload_n rfl rfl ?_
    refine rk_bipush (v := nI 14) rfl (by decide) ?_
    refine rk_icmp_ge rfl rfl (fun hc15 => ?_) (fun hc15 => ?_)
    · replace hc15 := (nI_leI (by omega) (by omega)).mp hc15
      have hr2 : r = 14 := by omega
      subst hr2
      exact z g f Fg cv hz1 hz2
    · replace hc15 := mt (nI_leI (by omega) (by omega)).mpr hc15
      refine rk_aload_n rfl rfl ?_
      refine rk_get rfl (by assumption) rfl ?_
      refine rk_iconst (v := nI 1) rfl (by decide) ?_
      refine rk_iload_n rfl rfl ?_
      refine rk_ishl rfl (b_1shlU (by omega)) ?_
      replace h2r := h2r (by omega)
      refine rk_iconst (v := nI 0) rfl (by decide) ?_
      refine rk_iast rfl cv (rfl) (by omega) (by decide) ?_
      refine hp_gen cv (fun h1 g1 hk1 hl1 => ?_)
      replace e24 := (hk1 _ (by omega)).trans e24
      replace cv := g1
      refine rk_iinc rfl rfl (n_inc _) rfl ?_
      refine rk_goto rfl rfl ?_
      refine ih (r + 1) _ _ (by omega) (by omega) (Fg.tr (Fr.mk1 hk1 hl1 (by omega) (by omega))) cv (fun s hs y => ?_) (fun s hs y => ?_)
      · simp only [upd]
        by_cases q : s = 2 ^ r
        · rw [if_pos q]
        · rw [if_neg q]
          refine hz1 s hs ?_
          rcases y with y | ⟨r', y1, y2⟩
          · exact Or.inl y
          · by_cases q2 : r' = r
            · rw [q2] at y2; exact absurd y2 q
            · exact Or.inr ⟨r', by omega, y2⟩
      · simp only [upd]
        by_cases q : s = 2 ^ r
        · exact absurd (Or.inr ⟨r, by omega, q⟩) y
        · rw [if_neg q]
          refine hz2 s hs (fun w => y ?_)
          rcases w with w | ⟨r', w1, w2⟩
          · exact Or.inl w
          · exact Or.inr ⟨r', by omega, w2⟩
theorem l115b {X : ai_X} {h : ai_H} {p pv m : Nat} {st : Nat → Nat} {n1 n2 : Int32} (d24 : h[24]? = some (cSets n1 (nI m) (.ref pv) (.ref (pv + 1)))) (S : SU h p m st) (hm : m < 16384) (hs80 : 80 ≤ p ∧ 80 ≤ pv ∧ (pv + 2 ≤ p ∨ p + 3 ≤ pv)) : ∀ (d : Nat) (i : Nat) (g : ai_H) (f : Nat → Int32), m < i + d → (i ≤ m) → (Fr (pv + 1) (pv + 2) h g) → (g[pv + 1]? = some (cI 16384 f)) → (∀ j, j < i → f j = nI (st j)) → Rk X am_115 32 [some (.ref 24), some (.int (nI i))] [] g (Qv (fun h1 => Fr (pv + 1) (pv + 2) h h1 ∧ ∃ f, h1[pv + 1]? = some (cI 16384 f) ∧ ∀ j, j < m → f j = nI (st j))) := by
  intro d
  induction d with
  | zero => intro i g f hd hi Fg co hf; exfalso; omega
  | succ d ih =>
    intro i g f hd hi Fg co hf
    have e24 := (Fg.2 24 (by omega)).trans d24
    have S2 : SU g p m st := S.fr (Fg.2 22 (by omega)) (fun q _ _ => Fg.2 q (by omega))
    obtain ⟨base, e22⟩ := S2.obj
    refine rk_iload_n rfl rfl ?_
    refine rk_aload_n rfl rfl ?_
    refine rk_get rfl (by assumption) rfl ?_
    refine rk_icmp_ge rfl rfl (fun hc35 => ?_) (fun hc35 => ?_)
    · replace hc35 := (nI_leI (by omega) (by omega)).mp hc35
      exact rk_return rfl rfl ⟨_, rfl, Fg, f, co, fun j hj => hf j (by omega)⟩
    · replace hc35 := mt (nI_leI (by omega) (by omega)).mpr hc35
      refine rk_aload_n rfl rfl ?_
      refine rk_get rfl (by assumption) rfl ?_
      refine rk_iload_n rfl rfl ?_
      refine rk_aload_n rfl rfl ?_
      refine rk_get rfl (by assumption) rfl ?_
      refine rk_iload_n rfl rfl ?_
      refine rk_cv1e rfl rfl (by assumption) rfl rfl (Nat.le_of_ble_eq_true rfl) (Nat.le_of_ble_eq_true rfl) (s98U S2 (by omega)) ?_
      refine rk_iast rfl co (rfl) (by omega) (by decide) ?_
      refine hp_gen co (fun h1 g1 hk1 hl1 => ?_)
      replace e24 := (hk1 _ (by omega)).trans e24
      replace e22 := (hk1 _ (by omega)).trans e22
      replace co := g1
      refine rk_iinc rfl rfl (n_inc _) rfl ?_
      refine rk_goto rfl rfl ?_
      refine ih (i + 1) _ _ (by omega) (by omega) (Fg.tr (Fr.mk1 hk1 hl1 (by omega) (by omega))) co (fun j hj => ?_)
      simp only [upd]
      by_cases q : j = i
      · rw [if_pos q, q]
      · rw [if_neg q]; exact hf j (by omega)
theorem s115 {X : ai_X} {h : ai_H} {p m : Nat} {st : Nat → Nat} {n1 n2 : Int32} {xa xb : Value} {b : Option Nat} (N : Nat → Nat) (d24 : h[24]? = some (cSets n1 n2 xa xb)) (hv : (b = none ∧ xa = .null ∧ xb = .null) ∨ ∃ p, b = some p ∧ xa = .ref p ∧ xb = .ref (p + 1) ∧ ShI h p 16384 ∧ ShI h (p + 1) 16384) (hl : 80 ≤ h.length) (S : SU h p m st) (hm : m < 16384) (hs80 : 80 ≤ p ∧ 80 ≤ np b h.length ∧ (np b h.length + 2 ≤ p ∨ p + 3 ≤ np b h.length)) (hpl : p + 3 ≤ h.length) : Mt X am_115 [.ref 24] h (Qn (nv b) (ns b 32768) (Qv (fun h1 => h1.length = h.length + nv b ∧ (∀ q : Nat, q < h.length → q ≠ 24 → ¬ (np b h.length ≤ q ∧ q < np b h.length + 2) → h1[q]? = h[q]?) ∧ h1[24]? = some (cSets n1 (nI m) (.ref (np b h.length)) (.ref (np b h.length + 1))) ∧ ∃ fv fo, h1[np b h.length]? = some (cI 16384 fv) ∧ h1[np b h.length + 1]? = some (cI 16384 fo) ∧ (∀ s, s < 16384 → fv s = if pop s 14 ≤ 1 then nI 0 else -1) ∧ ∀ j, j < m → fo j = nI (st j)))) := by
  refine rk_aload_n rfl rfl ?_
  refine rk_cq0v rfl rfl d24 rfl rfl (Nat.le_of_ble_eq_true rfl) (Nat.le_of_ble_eq_true rfl) (s111 d24 hv hl) (fun h1 hF => ?_)
  obtain ⟨x1, x2, x3, ⟨f4, x4⟩, f5, x5⟩ := hF
  generalize np b h.length = pv at *
  have S1 : SU h1 p m st := S.fr (x2 22 (by omega) (by omega)) (fun q _ _ => x2 q (by omega) (by omega))
  refine rk_aload_n rfl rfl ?_
  refine rk_get rfl x3 rfl ?_
  refine rk_iconst (v := (-1)) rfl (by decide) ?_
  refine rk_cs2v rfl rfl rfl (Nat.le_of_ble_eq_true rfl) (Nat.le_of_ble_eq_true rfl) (s292 (by decide) x4) (fun h3 hF => ?_)
  obtain ⟨F3, f6, g3, hf6⟩ := hF
  have e3 := (F3.2 24 (by omega)).trans x3
  refine rk_aload_n rfl rfl ?_
  refine rk_get rfl e3 rfl ?_
  refine rk_iconst (v := nI 0) rfl (by decide) ?_
  refine rk_iconst (v := nI 0) rfl (by decide) ?_
  refine rk_iast rfl g3 rfl (by omega) (by decide) ?_
  refine hp_gen g3 (fun h4 g4 k4 l4 => ?_)
  have F4 : Fr pv (pv + 1) h1 h4 := F3.tr (Fr.mk1 k4 l4 (by omega) (by omega))
  refine rk_iconst (v := nI 0) rfl (by decide) ?_
  refine rk_istore_n rfl (Nat.le_of_ble_eq_true rfl) rfl ?_
  refine l115a (h := h1) x3 S1 hm hs80 (fun g f F5 c5 q1 q2 => ?_) 15 0 h4 _ (by omega) (by omega) F4 g4 (fun s hs y => ?_) (fun s hs y => ?_)
  · have S5 : SU g p m st := S1.fr (F5.2 22 (by omega)) (fun q _ _ => F5.2 q (by omega))
    obtain ⟨base, e22⟩ := S5.obj
    have e24 := (F5.2 24 (by omega)).trans x3
    refine rk_aload_n rfl rfl ?_
    refine rk_aload_n rfl rfl ?_
    refine rk_get rfl e24 rfl ?_
    refine rk_cv0e rfl rfl e22 rfl rfl (Nat.le_of_ble_eq_true rfl) (Nat.le_of_ble_eq_true rfl) (s97U S5) ?_
    refine rk_put rfl e24 (Nat.le_of_ble_eq_true rfl) ft_8_5 rfl (Or.inl rfl) rfl ?_
    refine hp_gen e24 (fun h6 g6 k6 l6 => ?_)
    refine rk_iconst (v := nI 0) rfl (by decide) ?_
    refine rk_istore_n rfl (Nat.le_of_ble_eq_true rfl) rfl ?_
    have S6 : SU h6 p m st := S5.fr (k6 22 (by omega)) (fun q _ _ => k6 q (by omega))
    have c6 := (k6 (pv + 1) (by omega)).trans ((F5.2 (pv + 1) (by omega)).trans x5)
    refine (l115b (h := h6) (n1 := n1) (n2 := nI m) g6 S6 hm hs80 (m + 1) 0 h6 f5 (by omega) (Nat.zero_le _) Fr.rfl' c6 (fun j hj => absurd hj (by omega))).mono ?_
    rintro o ⟨h7, rfl, F7, f7, c7, hf7⟩
    refine ⟨_, rfl, ?_, fun q a1 a2 a3 => ?_, (F7.2 24 (by omega)).trans g6, f, f7, ?_, c7, fun s hs => ?_, hf7⟩
    · rw [F7.1, l6, F5.1, x1]
    · exact (F7.2 q (by omega)).trans ((k6 q a2).trans ((F5.2 q (by omega)).trans (x2 q a1 a2)))
    · exact (F7.2 pv (by omega)).trans ((k6 pv (by omega)).trans c5)
    · by_cases y : pop s 14 ≤ 1
      · rw [if_pos y]; exact q1 s hs ((pop_le1 hs).mp y)
      · rw [if_neg y]; exact q2 s hs (fun w => y ((pop_le1 hs).mpr w))
  · simp only [upd]
    rcases y with y | ⟨r', y, -⟩
    · rw [if_pos y]
    · omega
  · simp only [upd]
    rw [if_neg (fun w => y (Or.inl w))]
    exact hf6 s hs
/-- where a pass settled none of these no later one would -/
theorem kn_stopR {N : Nat → Nat} {d m : Nat} {st : Nat → Nat} (K : CLO N m m st) (h : ∀ i, i < m → kn N (d + 1) (st i) = true → kn N d (st i) = true) : ∀ e i, i < m → kn N (d + e) (st i) = true → kn N d (st i) = true
  | 0, i, _, hk => hk
  | e + 1, i, hi, hk => by
    rcases kn_s.mp hk with q | ⟨t, ht, q⟩
    · exact kn_stopR K h e i hi q
    · refine h i hi (kn_s.mpr (Or.inr ⟨t, ht, fun g hg => ?_⟩))
      rcases K i t hi ht g hg with y | ⟨j, j1, j2⟩
      · exact kn_p y d
      · rw [← j2]
        exact kn_stopR K h e j j1 (by rw [j2]; exact q g hg)
theorem CW.ch {h h1 : ai_H} {N : Nat → Nat} {sc p pv m : Nat} {n2 n3 : Int32} {st bs : Nat → Nat} (K : ∀ q : Nat, q ≠ 24 → ¬ (pv ≤ q ∧ q < pv + 2) → h1[q]? = h[q]?) (d : h1[24]? = some (cSets (nI sc) n3 (.ref pv) (.ref (pv + 1)))) (H : CW h N sc n2 p pv m st bs) : CW h1 N sc n3 p pv m st bs := by
  obtain ⟨a, b, ⟨f, c1, c2⟩, d', e, f1, f2, f3, r⟩ := H
  exact ⟨a.fr (fun q _ _ => K q (by omega) (by omega)), d, ⟨f, (K 26 (by omega) (by omega)).trans c1, c2⟩, d'.fr (K 22 (by omega) (by omega)) (fun q _ _ => K q (by omega) (by omega)), e.fr (K 25 (by omega) (by omega)), f1, f2, f3, r⟩
theorem l114m {X : ai_X} {h : ai_H} {N bs st : Nat → Nat} {sc p pv m ms S : Nat} {n0 : Int32} (hN : HN N) (W : CW h N sc n0 p pv m st bs) (hms : ms ≤ m) (hS : S < 2 ^ N 0) (hst : ∀ i, i < ms → ∃ g, g < 10 ∧ st i = S &&& sgn N g) (hPS : PPt N ms st S) : ∀ (d : Nat) (e oc : Nat) (ol : Nat → Nat) (g : ai_H) (fv fo : Nat → Int32) (y3 : Int32), 40 < e + d → (e ≤ 40) → ((g.length = h.length ∧ ∀ q : Nat, q ≠ 24 → ¬ (pv ≤ q ∧ q < pv + 2) → g[q]? = h[q]?)) → (CW g N sc (nI oc) p pv m st bs) → (g[pv]? = some (cI 16384 fv)) → (g[pv + 1]? = some (cI 16384 fo)) → (∀ s, VS m st s → fv s = val N e s) → (OLt N e m st ol oc) → (∀ j, j < oc → fo j = nI (ol j)) → ((y3 = -1 ∧ ¬ ALT N e S) ∨ (¬ y3 = -1 ∧ y3 = ansT N S)) → Rk X am_114 59 [some (.ref 24), some (.int (nI S)), some (.int (nI ms)), some (.int y3), some (.int (nI (e + 1)))] [] g (Qi (fun w h1 => w = ansT N S ∧ h1.length = h.length ∧ (∀ q : Nat, q ≠ 24 → ¬ (pv ≤ q ∧ q < pv + 2) → h1[q]? = h[q]?) ∧ ∃ n2, VAL h1 (nI sc) n2 pv)) := by
  intro d
  induction d with
  | zero => intro e oc ol g fv fo y3 hd he F W2 cv co hfv O hfo H; exfalso; omega
  | succ d ih =>
    intro e oc ol g fv fo y3 hd he F W2 cv co hfv O hfo H
    have d24 := W2.2.1
    have hv80 := W2.2.2.2.2.2.2.1
    have hK := W2.2.2.2.2.2.2.2.2.2.2
    refine rk_iload rfl rfl ?_
    refine rk_bipush (v := nI 40) rfl (by decide) ?_
    refine rk_icmp_gt rfl rfl (fun hc61 => ?_) (fun hc61 => ?_)
    · replace hc61 := (nI_ltI (by omega) (by omega)).mp hc61
      refine rk_iload_n rfl rfl ?_
      refine rk_ireturn rfl rfl ⟨_, _, rfl, ?_, F.1, F.2, _, d24, ⟨_, cv⟩, _, co⟩
      rcases H with y | y
      · rw [y.1]
        have he40 : e = 40 := by first | omega | exact absurd y.1 hc64
        rw [he40] at y
        exact (ansT_no y.2).symm
      · exact y.2
    · replace hc61 := mt (nI_ltI (by omega) (by omega)).mpr hc61
      refine rk_iload_n rfl rfl ?_
      refine rk_iconst (v := (-1)) rfl (by decide) ?_
      refine rk_icmp_ne rfl rfl (fun hc64 => ?_) (fun hc64 => ?_)
      · refine rk_iload_n rfl rfl ?_
        refine rk_ireturn rfl rfl ⟨_, _, rfl, ?_, F.1, F.2, _, d24, ⟨_, cv⟩, _, co⟩
        rcases H with y | y
        · rw [y.1]
          have he40 : e = 40 := by first | omega | exact absurd y.1 hc64
          rw [he40] at y
          exact (ansT_no y.2).symm
        · exact y.2
      · replace hc64 := Decidable.not_not.mp hc64
        refine rk_aload_n rfl rfl ?_
        refine rk_iload rfl rfl ?_
        refine rk_cv1i rfl rfl (by assumption) rfl rfl (Nat.le_of_ble_eq_true rfl) (Nat.le_of_ble_eq_true rfl) (s118 hN W2 (by omega) O cv co hfv hfo) (fun w h1 hF => ?_)
        obtain ⟨l1, K1, lf, nl, fv2, fo2, d24', cv2, co2, hfv2, O2, hfo2, hw⟩ := hF
        have W3 := W2.ch K1 d24'
        refine rk_if_ne rfl rfl (fun hc68 => ?_) (fun hc68 => ?_)
        · refine rk_aload_n rfl rfl ?_
          refine rk_iload_n rfl rfl ?_
          refine rk_cv1i rfl rfl (by assumption) rfl rfl (Nat.le_of_ble_eq_true rfl) (Nat.le_of_ble_eq_true rfl) (s120 hN W3 (by omega) cv2 hfv2 hms) (fun w h1 hF => ?_)
          obtain ⟨rfl, hz⟩ := hF
          refine rk_if_eq rfl rfl (fun hc74 => ?_) (fun hc74 => ?_)
          · refine rk_iconst (v := (-1)) rfl (by decide) ?_
            refine rk_istore_n rfl (Nat.le_of_ble_eq_true rfl) rfl ?_
            refine rk_iinc rfl rfl (n_inc _) rfl ?_
            refine rk_goto rfl rfl ?_
            have hnA : ¬ ALT N e S := by
              rcases H with y | y
              · exact y.2
              · exact absurd hc64 y.1
            have F2 : h1.length = h.length ∧ ∀ q : Nat, q ≠ 24 → ¬ (pv ≤ q ∧ q < pv + 2) → h1[q]? = h[q]? := ⟨l1.trans F.1, fun q a1 a2 => (K1 q a1 a2).trans (F.2 q a1 a2)⟩
            first
              | (have hall : ∀ i, i < ms → kn N (e + 1) (st i) = true := by
                   rcases hz with y | y
                   · exact y.2
                   · rw [y.1] at hc74; exact absurd nI_0 hc74
                 have hans : ansT N S = nI (e + 1) := ansT_at (by omega) (fun g' hg' => by
                   rcases hPS g' hg' with q | ⟨j, j1, j2⟩
                   · exact kn_p q _
                   · rw [← j2]; exact hall j j1) (fun j hj y => hnA (fun g' hg' => kn_le (y g' hg') (by omega)))
                 exact ih (e + 1) lf nl h1 fv2 fo2 _ (by omega) (by omega) F2 W3 cv2 co2 hfv2 O2 hfo2 (Or.inr ⟨nm_eq (by omega), hans.symm⟩))
              | (have hex : ∃ i, i < ms ∧ ¬ kn N (e + 1) (st i) = true := by
                   rcases hz with y | y
                   · rw [y.1] at hc74; exact absurd hc74 (by decide)
                   · exact y.2
                 refine ih (e + 1) lf nl h1 fv2 fo2 _ (by omega) (by omega) F2 W3 cv2 co2 hfv2 O2 hfo2 (Or.inl ⟨rfl, fun y => ?_⟩)
                 obtain ⟨i, i1, i2⟩ := hex
                 obtain ⟨g', g1, g2⟩ := hst i i1
                 rw [g2] at i2
                 exact i2 (y g' g1))
          · refine rk_iload rfl rfl ?_
            refine rk_goto rfl rfl ?_
            refine rk_istore_n rfl (Nat.le_of_ble_eq_true rfl) rfl ?_
            refine rk_iinc rfl rfl (n_inc _) rfl ?_
            refine rk_goto rfl rfl ?_
            have hnA : ¬ ALT N e S := by
              rcases H with y | y
              · exact y.2
              · exact absurd hc64 y.1
            have F2 : h1.length = h.length ∧ ∀ q : Nat, q ≠ 24 → ¬ (pv ≤ q ∧ q < pv + 2) → h1[q]? = h[q]? := ⟨l1.trans F.1, fun q a1 a2 => (K1 q a1 a2).trans (F.2 q a1 a2)⟩
            first
              | (have hall : ∀ i, i < ms → kn N (e + 1) (st i) = true := by
                   rcases hz with y | y
                   · exact y.2
                   · rw [y.1] at hc74; exact absurd nI_0 hc74
                 have hans : ansT N S = nI (e + 1) := ansT_at (by omega) (fun g' hg' => by
                   rcases hPS g' hg' with q | ⟨j, j1, j2⟩
                   · exact kn_p q _
                   · rw [← j2]; exact hall j j1) (fun j hj y => hnA (fun g' hg' => kn_le (y g' hg') (by omega)))
                 exact ih (e + 1) lf nl h1 fv2 fo2 _ (by omega) (by omega) F2 W3 cv2 co2 hfv2 O2 hfo2 (Or.inr ⟨nm_eq (by omega), hans.symm⟩))
              | (have hex : ∃ i, i < ms ∧ ¬ kn N (e + 1) (st i) = true := by
                   rcases hz with y | y
                   · rw [y.1] at hc74; exact absurd hc74 (by decide)
                   · exact y.2
                 refine ih (e + 1) lf nl h1 fv2 fo2 _ (by omega) (by omega) F2 W3 cv2 co2 hfv2 O2 hfo2 (Or.inl ⟨rfl, fun y => ?_⟩)
                 obtain ⟨i, i1, i2⟩ := hex
                 obtain ⟨g', g1, g2⟩ := hst i i1
                 rw [g2] at i2
                 exact i2 (y g' g1))
        · replace hc68 := Decidable.not_not.mp hc68
          refine rk_iconst (v := (-1)) rfl (by decide) ?_
          have hnA : ¬ ALT N e S := by
            rcases H with y | y
            · exact y.2
            · exact absurd hc64 y.1
          have hst0 : ∀ i, i < m → kn N (e + 1) (st i) = true → kn N e (st i) = true := by
            rcases hw with y | y
            · rw [y] at hc68; exact absurd hc68 (by decide)
            · exact y.2
          have hans : ansT N S = -1 := ansT_no (fun y => hnA (fun g' hg' => by
            rcases hPS g' hg' with q | ⟨j, j1, j2⟩
            · exact kn_p q e
            · have q2 := y g' hg'
              rw [← j2] at q2 ⊢
              refine kn_stopR hK hst0 (40 - e) j (by omega) ?_
              rw [show e + (40 - e) = 40 by omega]
              exact q2))
          exact rk_ireturn rfl rfl ⟨_, _, rfl, hans.symm, l1.trans F.1, fun q a1 a2 => (K1 q a1 a2).trans (F.2 q a1 a2), _, d24', ⟨_, cv2⟩, _, co2⟩
theorem s114 {X : ai_X} {h : ai_H} {N : Nat → Nat} {n1 n2 : Int32} {xa xb : Value} {f25 : Nat → Int32} {b : Nat → Option Nat} {S : Nat} (hN : HN N) (C : CH h 3 N) (d24 : h[24]? = some (cSets n1 n2 xa xb)) (hvals : (b 4 = none ∧ xa = .null ∧ xb = .null) ∨ ∃ p, b 4 = some p ∧ xa = .ref p ∧ xb = .ref (p + 1) ∧ ShI h p 16384 ∧ ShI h (p + 1) 16384) (c25 : h[25]? = some (cI 1536 f25)) (hf : ∀ j, j < 12 → f25 (128 * j) = 0) (S26 : ShI h 26 10) (S22 : SrchAt h 22 16384 16384 (b 2)) (hD : DynOk h b) (h80 : 80 ≤ h.length) (hS : S < 2 ^ N 0) : Mt X am_114 [.ref 24, .int (nI S)] h (Qn (nc (b 2)) (ns (b 2) 49152) (Qn (nv (b 4)) (ns (b 4) 32768) (Qi (fun w h1 => w = ansT N S ∧ CVE h h1 (b 2) (b 4))))) := by
  have hb2 : ∀ p, b 2 = some p → 80 ≤ p := fun p e => (hD 2 p (by omega) e).1
  obtain ⟨q1, q2, q3⟩ := np_sep hD h80
  refine rk_aload_n rfl rfl ?_
  refine rk_iconst (v := nI 0) rfl (by decide) ?_
  refine rk_cv1v rfl rfl d24 rfl rfl (Nat.le_of_ble_eq_true rfl) (Nat.le_of_ble_eq_true rfl) (s104 (may := false) hN C d24 c25 hf (by rw [bI_f (by decide)]; exact nI_0)) (fun h1 hF => ?_)
  obtain ⟨F1, I1⟩ := hF
  have e24 := (F1.2 24 (by omega)).trans d24
  have C1 := C.fr2 F1 (by omega)
  refine rk_aload_n rfl rfl ?_
  refine rk_cv0v rfl rfl e24 rfl rfl (Nat.le_of_ble_eq_true rfl) (Nat.le_of_ble_eq_true rfl) (s116 hN C1 e24 (S26.fr (F1.2 26 (by omega)))) (fun h2 hF => ?_)
  obtain ⟨l2, K2, sc, bs, g24, B2, hSG⟩ := hF
  have C2 : CH h2 3 N := C1.fr (fun q _ _ => K2 q (by omega) (by omega))
  have I2 : IM h2 (tf N false) (N 1) := I1.fr (K2 25 (by omega) (by omega))
  have hl2 : h2.length = h.length := l2.trans F1.1
  have S2 : SrchAt h2 22 16384 16384 (b 2) := S22.fr ((K2 22 (by omega) (by omega)).trans (F1.2 22 (by omega))) (fun p e q a1 a2 => by
    have := hb2 p e
    exact (K2 q (by omega) (by omega)).trans (F1.2 q (by omega)))
  have E2 := s96b (X := X) S2 (fun p e => by have := hb2 p e; omega) (Or.inl rfl) (by omega) (by omega)
  rw [hl2] at E2
  refine rk_aload_n rfl rfl ?_
  refine rk_get rfl g24 rfl ?_
  obtain ⟨y, hy⟩ : ∃ fs, h2[22]? = some (.inr (7, fs)) := by
    rcases S2 with ⟨-, z⟩ | ⟨p, base, many, sl, s1, s2, -, z, -⟩
    · exact ⟨_, z⟩
    · exact ⟨_, z⟩
  refine rk_cq0v rfl rfl hy rfl rfl (Nat.le_of_ble_eq_true rfl) (Nat.le_of_ble_eq_true rfl) E2 (fun h3 hF => ?_)
  obtain ⟨F3, E3⟩ := hF
  have hl3 : h3.length = h.length + nc (b 2) := by rw [F3.1, hl2]
  have k3 : ∀ q : Nat, q < h.length → q ≠ 22 → ¬ (np (b 2) h.length ≤ q ∧ q < np (b 2) h.length + 3) → h3[q]? = h2[q]? := fun q a1 a2 a3 => F3.2 q (by omega) a2 a3
  generalize hpv : np (b 4) (h.length + nc (b 2)) = pv at *
  have hlp : np (b 2) h.length + 3 ≤ h3.length := by
    rw [hl3]
    cases e2 : b 2 with
    | none => exact Nat.le_refl _
    | some p => exact (hD 2 p (by omega) e2).2.1
  have hb4 : ∀ p, b 4 = some p → p = pv ∧ p + 2 ≤ h.length := fun p e => by
    rw [e] at hpv
    have := hD 4 p (by omega) e
    rw [show blN 4 = 2 from rfl] at this
    exact ⟨hpv, this.2.1⟩
  generalize hpp : np (b 2) h.length = pp at *
  have e24 : h3[24]? = some (cSets (nI sc) n2 xa xb) := (k3 24 (by omega) (by omega) (by omega)).trans g24
  have C3 : CH h3 3 N := C2.fr (fun q _ _ => k3 q (by omega) (by omega) (by omega))
  have I3 : IM h3 (tf N false) (N 1) := I2.fr (k3 25 (by omega) (by omega) (by omega))
  have B3 : BSg h3 bs sc := by
    obtain ⟨f26, c26, hf26⟩ := B2
    exact ⟨f26, (k3 26 (by omega) (by omega) (by omega)).trans c26, hf26⟩
  have S3 : SU h3 pp 0 (fun _ => 0) := by
    obtain ⟨base, sl, s1, s2, T, a⟩ := E3
    exact ⟨base, sl, s1, s2, T, a⟩
  refine rk_aload_n rfl rfl ?_
  refine rk_iload_n rfl rfl ?_
  refine rk_iconst (v := (-1)) rfl (by decide) ?_
  refine rk_iconst (v := nI 0) rfl (by decide) ?_
  refine rk_cv3v rfl rfl e24 rfl rfl (Nat.le_of_ble_eq_true rfl) (Nat.le_of_ble_eq_true rfl) (s117 (m0 := 0) (st0 := fun _ => 0) hN e24 B3 hSG q1 hS (Or.inl rfl) S3 ⟨fun i hi => absurd hi (by omega), fun i j hi => absurd hi (by omega)⟩) (fun h4 hF => ?_)
  obtain ⟨F4, ms, sts, S4, U4, E4, P4⟩ := hF
  have f24 := (F4.2 24 (by omega) (by omega)).trans e24
  obtain ⟨base4, e22⟩ := S4.obj
  have hms := U4.m hN
  refine rk_aload_n rfl rfl ?_
  refine rk_get rfl f24 rfl ?_
  refine rk_cv0e rfl rfl e22 rfl rfl (Nat.le_of_ble_eq_true rfl) (Nat.le_of_ble_eq_true rfl) (s97U S4) ?_
  refine rk_istore_n rfl (Nat.le_of_ble_eq_true rfl) rfl ?_
  refine rk_iconst (v := nI 0) rfl (by decide) ?_
  refine rk_istore_n rfl (Nat.le_of_ble_eq_true rfl) rfl ?_
  refine l114h (h := h3) (sts := sts) (ms := ms) hN C3 e24 B3 hSG q1 I3 (fun g m st c3 c4 F5 S5 U5 E5 K5 => ?_) 16385 0 ms sts h4 _ (by omega) F4 S4 U4 ⟨Nat.le_refl _, fun _ _ => rfl⟩ (Nat.zero_le _) (fun i t hi => absurd hi (by omega)) (by omega)
  have i24 := (F5.2 24 (by omega) (by omega)).trans e24
  have hm := U5.m hN
  have hv' : (b 4 = none ∧ xa = .null ∧ xb = .null) ∨ ∃ p, b 4 = some p ∧ xa = .ref p ∧ xb = .ref (p + 1) ∧ ShI g p 16384 ∧ ShI g (p + 1) 16384 := by
    rcases hvals with z | ⟨p, w1, w2, w3, w4, w5⟩
    · exact Or.inl z
    · obtain ⟨u1, u2⟩ := hb4 p w1
      have kq : ∀ q : Nat, p ≤ q → q < p + 2 → g[q]? = h[q]? := fun q a1 a2 => (F5.2 q (by omega) (by omega)).trans ((k3 q (by omega) (by omega) (by omega)).trans ((K2 q (by omega) (by omega)).trans (F1.2 q (by omega))))
      exact Or.inr ⟨p, w1, w2, w3, w4.fr (kq p (by omega) (by omega)), w5.fr (kq (p + 1) (by omega) (by omega))⟩
  have hgl : g.length = h.length + nc (b 2) := F5.1.trans hl3
  have E6 := s115 (X := X) N i24 hv' (by omega) S5 hm (by rw [hgl, hpv]; exact ⟨q1, q2, q3⟩) (by rw [F5.1]; exact hlp)
  rw [hgl, hpv] at E6
  refine rk_aload_n rfl rfl ?_
  refine rk_cq0v rfl rfl i24 rfl rfl (Nat.le_of_ble_eq_true rfl) (Nat.le_of_ble_eq_true rfl) E6 (fun h6 hF => ?_)
  obtain ⟨l6, k6, d6, fv, fo, cv, co, hfv, hfo⟩ := hF
  have K36 : ∀ q : Nat, q < h.length + nc (b 2) → q ≠ 22 → q ≠ 24 → ¬ (pp ≤ q ∧ q < pp + 3) → ¬ (pv ≤ q ∧ q < pv + 2) → h6[q]? = h3[q]? := fun q a1 a2 a3 a4 a5 => (k6 q a1 a3 a5).trans (F5.2 q a2 a4)
  have W6 : CW h6 N sc (nI m) pp pv m st bs := by
    refine ⟨C3.fr (fun q _ _ => K36 q (by omega) (by omega) (by omega) (by omega) (by omega)), d6, ?_, S5.fr (k6 22 (by omega) (by omega) (by omega)) (fun q a1 a2 => k6 q (by rw [F5.1] at hgl; omega) (by omega) (by omega)), I3.fr (K36 25 (by omega) (by omega) (by omega) (by omega) (by omega)), q1, q2, q3, hSG, U5, K5⟩
    obtain ⟨f26, c26, hf26⟩ := B3
    exact ⟨f26, (K36 26 (by omega) (by omega) (by omega) (by omega) (by omega)).trans c26, hf26⟩
  have hst : ∀ i, i < ms → ∃ g, g < 10 ∧ st i = S &&& sgn N g := fun i hi => by
    obtain ⟨g', g1, g2⟩ := E4.2.2 i (by omega) hi
    exact ⟨g', g1, by rw [E5.2 i hi]; exact g2⟩
  have hPS : PPt N ms st S := P4.up (Nat.le_refl _) E5.2
  have hfv0 : ∀ s, VS m st s → fv s = val N 0 s := fun s hvs => by
    rw [hfv s hvs.1]
    by_cases y : pop s 14 ≤ 1
    · rw [if_pos y, val_p y]
    · rw [if_neg y]
      exact ((val_m1 (N := N) (d := 0) (s := s) (by omega)).mpr (fun z => y (of_decide_eq_true z))).symm
  have hO : OLt N 0 m st st m := ⟨fun j hj => ⟨j, hj, rfl, fun z => by have := (U5.1 j hj).1; have := of_decide_eq_true z; omega⟩, fun i hi _ => ⟨i, hi, rfl⟩, Nat.le_refl _⟩
  have hfin : ∀ y3 : Int32, ((y3 = -1 ∧ ¬ ALT N 0 S) ∨ (¬ y3 = -1 ∧ y3 = ansT N S)) → Rk X am_114 59 [some (.ref 24), some (.int (nI S)), some (.int (nI ms)), some (.int y3), some (.int (nI 1))] [] h6 (Qi (fun w h1 => w = ansT N S ∧ CVE h h1 (b 2) (b 4))) := fun y3 hy3 => by
    refine (l114m (h := h6) hN W6 E5.1 hS hst hPS 41 0 m st h6 fv fo y3 (by omega) (by omega) ⟨rfl, fun _ _ _ => rfl⟩ W6 cv co hfv0 hO hfo hy3).mono ?_
    rintro o ⟨w, h7, rfl, rfl, l7, K7, n9, hval⟩
    have K67 : ∀ q : Nat, q < h.length + nc (b 2) → q ≠ 22 → q ≠ 24 → ¬ (pp ≤ q ∧ q < pp + 3) → ¬ (pv ≤ q ∧ q < pv + 2) → h7[q]? = h3[q]? := fun q a1 a2 a3 a4 a5 => (K7 q a3 a5).trans (K36 q a1 a2 a3 a4 a5)
    have S7 : SU h7 pp m st := W6.2.2.2.1.fr (K7 22 (by omega) (by omega)) (fun q a1 a2 => K7 q (by omega) (by omega))
    obtain ⟨f, j1, j2, -⟩ := I3
    refine ⟨_, _, rfl, rfl, by rw [l7, l6], fun q a1 a2 a3 a4 a5 a6 a7 => ?_, ?_, ⟨nI sc, n9, by rw [hpv]; exact hval⟩, f, (K67 25 (by omega) (by omega) (by omega) (by omega) (by omega)).trans j1, j2⟩
    · rw [hpp] at a6
      rw [hpv] at a7
      exact (K67 q (by omega) a2 a3 a6 a7).trans ((k3 q a1 a2 a6).trans ((K2 q a3 a5).trans (F1.2 q (by omega))))
    · rw [hpp]
      obtain ⟨base, sl, s1, s2, T, a⟩ := S7
      exact a.at'
  refine rk_iload_n rfl rfl ?_
  refine rk_if_ne rfl rfl (fun hc => ?_) (fun hc => ?_)
  · replace hc := mt (n0_eq (by omega)).mpr hc
    refine rk_iconst (v := (-1)) rfl (by decide) ?_
    refine rk_istore_n rfl (Nat.le_of_ble_eq_true rfl) rfl ?_
    refine rk_iconst (v := nI 1) rfl (by decide) ?_
    refine rk_istore rfl (Nat.le_of_ble_eq_true rfl) rfl ?_
    refine hfin _ (Or.inl ⟨rfl, fun y => ?_⟩)
    obtain ⟨g', g1, g2⟩ := hst 0 (by omega)
    have y2 := y g' g1
    rw [← g2] at y2
    have := (U5.1 0 (by have := E5.1; omega)).1
    have := of_decide_eq_true y2
    omega
  · replace hc := Decidable.not_not.mp hc
    replace hc := (n0_eq (by omega)).mp hc
    refine rk_iconst (v := nI 0) rfl (by decide) ?_
    refine rk_goto rfl rfl ?_
    refine rk_istore_n rfl (Nat.le_of_ble_eq_true rfl) rfl ?_
    refine rk_iconst (v := nI 1) rfl (by decide) ?_
    refine rk_istore rfl (Nat.le_of_ble_eq_true rfl) rfl ?_
    refine hfin _ (Or.inr ⟨nm_eq (by omega), ?_⟩)
    refine (ansT_at (by omega) (fun g' hg' => ?_) (fun j hj => absurd hj (by omega))).symm
    rcases hPS g' hg' with q | ⟨j, j1, -⟩
    · exact kn_p q 0
    · omega
theorem c157_x {X : ai_X} {h : ai_H} {tp : Int32} {N : Nat → Nat} (d0 : h[0]? = some (cOne tp)) (hN : HN N) (C : CH h 3 N) {a : Int32} (hx : ¬ IsSet N a) : Mt X am_157 [.ref 0, .int a] h (Qe (-3) h) := by
  have e3 := C.1
  refine rk_aload_n rfl rfl ?_
  refine rk_get rfl (by assumption) rfl ?_
  refine rk_iload_n rfl rfl ?_
  refine rk_cv1e rfl rfl (by assumption) rfl rfl (Nat.le_of_ble_eq_true rfl) (Nat.le_of_ble_eq_true rfl) (s26N hN C _) ?_
  refine rk_if_eq rfl rfl (fun hc4 => ?_) (fun hc4 => ?_)
  · replace hc4 := (bI_0).mp hc4
    refine rk_bipush (v := (-3)) rfl (by decide) ?_
    exact rk_ireturn rfl rfl Qe_mk
  · replace hc4 := Decidable.not_not.mp (mt bI_0.mpr hc4)
    exact absurd hc4 hx
theorem c157_v {X : ai_X} {h : ai_H} {tp : Int32} {N : Nat → Nat} (d0 : h[0]? = some (cOne tp)) (hN : HN N) (C : CH h 3 N) {n1 n2 : Int32} {xa xb : Value} {f25 : Nat → Int32} {b : Nat → Option Nat} {S : Nat} (d24 : h[24]? = some (cSets n1 n2 xa xb)) (hvals : (b 4 = none ∧ xa = .null ∧ xb = .null) ∨ ∃ p, b 4 = some p ∧ xa = .ref p ∧ xb = .ref (p + 1) ∧ ShI h p 16384 ∧ ShI h (p + 1) 16384) (c25 : h[25]? = some (cI 1536 f25)) (hf : ∀ j, j < 12 → f25 (128 * j) = 0) (S26 : ShI h 26 10) (S22 : SrchAt h 22 16384 16384 (b 2)) (hD : DynOk h b) (h80 : 80 ≤ h.length) (hS : 0 < S ∧ S < 2 ^ N 0) : Mt X am_157 [.ref 0, .int (nI S)] h (Qn (nc (b 2) + nv (b 4)) (ns (b 2) 49152 + ns (b 4) 32768) (Qi (fun w h1 => w = ansT N S ∧ CVE h h1 (b 2) (b 4)))) := by
  have e3 := C.1
  refine Rk.mono (fun o q => Qn_Qn q) ?_
  refine rk_aload_n rfl rfl ?_
  refine rk_get rfl (by assumption) rfl ?_
  refine rk_iload_n rfl rfl ?_
  refine rk_cv1e rfl rfl (by assumption) rfl rfl (Nat.le_of_ble_eq_true rfl) (Nat.le_of_ble_eq_true rfl) (s26N hN C _) ?_
  refine rk_if_eq rfl rfl (fun hc4 => ?_) (fun hc4 => ?_)
  · replace hc4 := (bI_0).mp hc4
    exact absurd (isSet_mk hN hS.1 hS.2) hc4
  · replace hc4 := Decidable.not_not.mp (mt bI_0.mpr hc4)
    refine rk_aload_n rfl rfl ?_
    refine rk_get rfl (by assumption) rfl ?_
    refine rk_iload_n rfl rfl ?_
    have hcl := s114 (X := X) hN C d24 hvals c25 hf S26 S22 hD h80 hS.2
    refine rk_cg1 rfl rfl d24 rfl rfl (Nat.le_of_ble_eq_true rfl) (Nat.le_of_ble_eq_true rfl) hcl ?_
    rintro o1 ⟨o2, ⟨o3, ⟨w, h1, rfl, q1, q2⟩, rfl⟩, rfl⟩
    refine rk_goto rfl rfl ?_
    refine rk_ireturn rfl rfl ?_
    exact ⟨_, ⟨_, ⟨_, _, rfl, q1, q2⟩, rfl⟩, rfl⟩
theorem ob26 (X : ai_X) : O26 X Inv := by
  intro a0
  refine ob_cells fun m c s h hm I => ?_
  obtain ⟨tp, T, A, im, rs, rm, nu, fk, fp, b, hP⟩ := id I
  obtain ⟨N, mk, hN, C, M, -, hV, hFV, H, hmk, hv⟩ := Inv.sdat hP hm
  obtain ⟨hA, hB, hR, hI, hS, hO, hM, hVV, hD, hc, hs⟩ := id hP
  obtain ⟨v, d52⟩ := I.m52
  have d53 := hM.2.1
  have d0 := hA.1
  have h80 := hM.len
  have S70 : ShI h 70 16384 := hM.2.2.2.2.2.2.2.2.2.2.2.2.2.2.2.2.2.2.2.2.1
  have S26 : ShI h 26 10 := hO.2.2.2.2.2.1
  by_cases hx : IsSet N a0
  · obtain ⟨S, s1, s2, rfl⟩ := isSet_of hN hx
    obtain ⟨S2, S3, ⟨n1, n2, xa, xb, d24, hvals⟩, f25, c25, hf⟩ := id hS
    obtain ⟨q1, q2, q3⟩ := np_sep hD h80
    refine ⟨_, _, _, _, c157_v d0 hN C d24 hvals c25 hf S26 S2 hD h80 ⟨s1, s2⟩, ?_⟩
    rintro h1 E k1
    have kq : ∀ q : Nat, 44 ≤ q → q < 80 → h1[q]? = h[q]? := fun q a1 a2 => E.2.1 q (by omega) (by omega) (by omega) (by omega) (by omega) (by omega) (by omega)
    have e52 := (kq 52 (by omega) (by omega)).trans d52
    refine ⟨⟨_, e52⟩, md_g rfl rfl rfl rfl e52 (fun h2 g2 hk hl => ?_)⟩
    have k2 : ∀ q : Nat, 53 ≤ q → q < 80 → h2[q]? = h[q]? := fun q a1 a2 => (hk q (by omega)).trans (kq q (by omega) a2)
    refine (m260_v g2 ((k2 53 (by omega) (by omega)).trans d53) hN M ⟨s1, s2⟩ (S70.fr (k2 70 (by omega) (by omega)))).mono ?_
    rintro o ⟨y, h3, e1, hy, F3⟩
    subst e1
    exact ⟨_, _, rfl, hy, fun kx => finV hP hFV hmk hv d52 H E g2 hk hl F3.1 (fun q hq => F3.2 q (by omega)) (k1.trans kx)⟩
  · exact og_cells (og_pure I (c157_x d0 hN C hx) (md_thr rfl rfl rfl rfl d52 (fun h2 g2 hk => m260_x g2 ((hk 53 (by omega)).trans d53) hN M hx)))
