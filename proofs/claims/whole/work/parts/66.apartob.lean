/-! APART: the obligation -/
theorem SC.of30 {h h1 : ai_H} (F : Fr 30 32 h h1) (Q : ∃ n f, RouteAt h 17 n f) (O : InvO h) : SC h h1 := by
  obtain ⟨n, e⟩ := O.led
  obtain ⟨m, f, R⟩ := Q
  exact ⟨F.1, fun q _ _ _ => F.2 q (by omega), ⟨m, f, R.fr (fun q _ _ => F.2 q (by omega))⟩, n, (F.2 33 (by omega)).trans e⟩
theorem InvO.p30 {h : ai_H} (O : InvO h) : h[27]? = some cPa ∧ ShI h 30 196 ∧ ShI h 31 196 ∧ ShJ h 32 196 := by
  obtain ⟨a1, -, a3, a4, s1, s2, s3, s4, s5, s6, s7, s8, s9, s10, s11, s12, s13, s14, s15⟩ := O
  exact ⟨a1, s5, s6, s7⟩
theorem Inv.s712 {m c s : Nat} {h : ai_H} (I : Inv m c s h) : ShJ h 71 8036 ∧ ShZ h 72 8036 := by
  obtain ⟨tp, T, A, im, rs, rm, nu, fk, fp, b, hA, hB, hR, hI, hS, hO, ⟨-, a1, a2, a3, a4, a5, a6, s1, s2, s3, s4, s5, s6, s7, s8, s9, s10, s11, s12, s13, s14, s15, s16, s17, s18, s19, s20⟩, -⟩ := I
  exact ⟨s15, s16⟩
theorem l63a {X : ai_X} {h : ai_H} {N : Nat → Nat} {a b L : Nat} (hN : HN N) (C : CH h 3 N) (d27 : h[27]? = some cPa) (ha : a < N 0) (hb : b < N 0) (hL : L ≤ 40) {P : ai_O → Prop} (z : ∀ g, Fr 30 32 h g → AM g 30 (fA N (a * 14 + b) L) → Rk X am_63 22 [some (.ref 27), some (.ref 3), some (.int (nI a)), some (.int (nI b)), some (.int (nI L)), some (.int (nI L)), none] [] g P) : ∀ (d : Nat) (k : Nat) (g : ai_H), L < k + d → (k ≤ L) → (Fr 30 32 h g) → (AM g 30 (fA N (a * 14 + b) k)) → (ShI g 31 196) → Rk X am_63 14 [some (.ref 27), some (.ref 3), some (.int (nI a)), some (.int (nI b)), some (.int (nI L)), some (.int (nI k)), none] [] g (P) := by
  intro d
  induction d with
  | zero => intro k g hd hk F A1 S; exfalso; omega
  | succ d ih =>
    intro k g hd hk F A1 S
    have C2 := C.fr2 F (by omega)
    have e27 := (F.2 27 (by omega)).trans d27
    refine rk_iload rfl rfl ?_
    refine rk_iload rfl rfl ?_
    refine rk_icmp_ge rfl rfl (fun hc16 => ?_) (fun hc16 => ?_)
    · replace hc16 := (nI_leI (by omega) (by omega)).mp hc16
      have hk2 : k = L := by omega
      subst hk2
      exact z g F A1
    · replace hc16 := mt (nI_leI (by omega) (by omega)).mpr hc16
      refine rk_aload_n rfl rfl ?_
      refine rk_aload_n rfl rfl ?_
      refine rk_cv1v rfl rfl (by assumption) rfl rfl (Nat.le_of_ble_eq_true rfl) (Nat.le_of_ble_eq_true rfl) (s64 hN C2 e27 A1 S) (fun h1 hF => ?_)
      obtain ⟨F3, A3, S3⟩ := hF
      refine rk_iinc rfl rfl (n_inc _) rfl ?_
      refine rk_goto rfl rfl ?_
      exact ih (k + 1) _ (by omega) (by omega) (F.tr F3) A3 S3
theorem l63b {X : ai_X} {h : ai_H} {N : Nat → Nat} {a b L : Nat} (hN : HN N) (C : CH h 3 N) (d27 : h[27]? = some cPa) (ha : a < N 0) (hb : b < N 0) (hL : L ≤ 40) (A0 : AM h 30 (fA N (a * 14 + b) L)) : ∀ (d : Nat) (j : Nat), 196 < j + d → (j ≤ 196) → Rk X am_63 26 [some (.ref 27), some (.ref 3), some (.int (nI a)), some (.int (nI b)), some (.int (nI L)), some (.int (nI (sm (fA N (a * 14 + b) L) j % MP))), some (.int (nI j))] [] h (Qe (nI (wA N L (a * 14 + b) % MP)) h) := by
  intro d
  induction d with
  | zero => intro j hd hj; exfalso; omega
  | succ d ih =>
    intro j hd hj
    obtain ⟨f0, c30, hf0⟩ := id A0
    have hn := hN.n
    refine rk_iload rfl rfl ?_
    refine rk_sipush (v := nI 196) rfl (by decide) ?_
    refine rk_icmp_ge rfl rfl (fun hc28 => ?_) (fun hc28 => ?_)
    · replace hc28 := (nI_leI (by omega) (by omega)).mp hc28
      refine rk_iload rfl rfl ?_
      have hj2 : j = 196 := by omega
      subst hj2
      exact rk_ireturn rfl rfl (Qe_of (by rw [fA_wA hN ⟨by omega, by omega⟩]))
    · replace hc28 := mt (nI_leI (by omega) (by omega)).mpr hc28
      refine rk_iload rfl rfl ?_
      refine rk_aload_n rfl rfl ?_
      refine rk_get rfl (by assumption) rfl ?_
      refine rk_iload rfl rfl ?_
      refine rk_iald rfl (by assumption) (rfl) (by omega) (by decide) ?_
      rw [hf0 _ (by omega)]
      refine rk_iadd rfl (nI_add _ _) ?_
      refine rk_ldc rfl ?_
      rw [show (1000000007 : Int32) = nI MP by decide]
      refine rk_irem rfl (nI_ne0 (by decide) (by decide)) rem_mp ?_
      refine rk_istore rfl (Nat.le_of_ble_eq_true rfl) rfl ?_
      refine rk_iinc rfl rfl (n_inc _) rfl ?_
      refine rk_goto rfl rfl ?_
      exact ih (j + 1) (by omega) (by omega)
theorem s63 {X : ai_X} {h : ai_H} {N : Nat → Nat} {a b L : Nat} (hN : HN N) (C : CH h 3 N) (d27 : h[27]? = some cPa) (ha : a < N 0) (hb : b < N 0) (hL : L ≤ 40) (S30 : ShI h 30 196) (S31 : ShI h 31 196) : Mt X am_63 [.ref 27, .ref 3, .int (nI a), .int (nI b), .int (nI L)] h (Qi (fun w h1 => w = nI (wA N L (a * 14 + b) % MP) ∧ Fr 30 32 h h1)) := by
  obtain ⟨f30, c30⟩ := S30
  have hn := hN.n
  refine rk_aload_n rfl rfl ?_
  refine rk_get rfl (by assumption) rfl ?_
  refine rk_iconst (v := nI 0) rfl (by decide) ?_
  refine rk_cs2v rfl rfl rfl (Nat.le_of_ble_eq_true rfl) (Nat.le_of_ble_eq_true rfl) (s292 (v := nI 0) (by decide) c30) (fun h1 hF => ?_)
  obtain ⟨F1, f1, d30, hf1⟩ := hF
  have e27 := (F1.2 27 (by omega)).trans d27
  have F0 : Fr 30 32 h h1 := F1.mono (by omega) (by omega)
  refine rk_aload_n rfl rfl ?_
  refine rk_get rfl (by assumption) rfl ?_
  refine rk_aload_n rfl rfl ?_
  refine rk_iload_n rfl rfl ?_
  refine rk_iload_n rfl rfl ?_
  refine rk_cv2e rfl rfl (by assumption) rfl rfl (Nat.le_of_ble_eq_true rfl) (Nat.le_of_ble_eq_true rfl) (s50n) ?_
  refine rk_iconst (v := nI 1) rfl (by decide) ?_
  refine rk_iast rfl d30 (rfl) (by omega) (by decide) ?_
  refine hp_gen d30 (fun h1 g1 hk1 hl1 => ?_)
  replace e27 := (hk1 _ (by omega)).trans e27
  replace F0 := F0.tr (Fr.mk1 hk1 hl1 (by omega) (by omega))
  replace d30 := g1
  refine rk_iconst (v := nI 0) rfl (by decide) ?_
  refine rk_istore rfl (Nat.le_of_ble_eq_true rfl) rfl ?_
  have S31' : ShI h1 31 196 := by
    obtain ⟨f, y⟩ := S31
    exact ⟨f, (hk1 31 (by omega)).trans ((F1.2 31 (by omega)).trans y)⟩
  refine l63a (h := h) hN C d27 ha hb hL (fun g F A => ?_) (L + 1) 0 _ (by omega) (Nat.zero_le _) F0 ⟨_, d30, fun j hj => ?_⟩ S31'
  · refine rk_iconst (v := nI 0) rfl (by decide) ?_
    refine rk_istore rfl (Nat.le_of_ble_eq_true rfl) rfl ?_
    refine rk_iconst (v := nI 0) rfl (by decide) ?_
    refine rk_istore rfl (Nat.le_of_ble_eq_true rfl) rfl ?_
    refine (l63b hN (C.fr2 F (by omega)) ((F.2 27 (by omega)).trans d27) ha hb hL A 197 0 (by omega) (by omega)).mono ?_
    rintro o ⟨w, h2, rfl, rfl, rfl⟩
    exact ⟨_, _, rfl, rfl, F⟩
  · simp only [upd]
    by_cases y : j = a * 14 + b
    · rw [if_pos y, show fA N (a * 14 + b) 0 j = 1 from if_pos y]; rfl
    · rw [if_neg y, hf1 j hj, show fA N (a * 14 + b) 0 j = 0 from if_neg y]; rfl
theorem c163_x {X : ai_X} {h : ai_H} {tp : Int32} {N : Nat → Nat} (d0 : h[0]? = some (cOne tp)) (hN : HN N) (C : CH h 3 N) (Q : ∃ n f, RouteAt h 17 n f) (O : InvO h) {a b c : Int32} (hx : ¬ ((¬ a < 0 ∧ ¬ nI (N 271) ≤ a) ∧ (¬ b < 0 ∧ ¬ nI (N 271) ≤ b) ∧ ¬ a = b)) : Mt X am_163 [.ref 0, .int a, .int b, .int c] h (Qi (fun y h1 => y = -2 ∧ SC h h1)) := by
  have e3 := C.1
  refine rk_aload_n rfl rfl ?_
  refine rk_iload_n rfl rfl ?_
  refine rk_iload_n rfl rfl ?_
  refine rk_cv2e rfl rfl (by assumption) rfl rfl (Nat.le_of_ble_eq_true rfl) (Nat.le_of_ble_eq_true rfl) (s165 d0 hN C a b) ?_
  refine rk_if_ne rfl rfl (fun hc4 => ?_) (fun hc4 => ?_)
  · replace hc4 := Decidable.not_not.mp (mt bI_0.mpr hc4)
    exact absurd hc4 hx
  · replace hc4 := Decidable.not_not.mp hc4
    replace hc4 := (bI_0).mp hc4
    refine rk_bipush (v := (-2)) rfl (by decide) ?_
    exact rk_ireturn rfl rfl ⟨_, _, rfl, rfl, SC.rfl' Q O⟩
theorem c163_y {X : ai_X} {h : ai_H} {tp : Int32} {N : Nat → Nat} (d0 : h[0]? = some (cOne tp)) (hN : HN N) (C : CH h 3 N) (Q : ∃ n f, RouteAt h 17 n f) (O : InvO h) {a b c : Int32} (hx : ((¬ a < 0 ∧ ¬ nI (N 271) ≤ a) ∧ (¬ b < 0 ∧ ¬ nI (N 271) ≤ b) ∧ ¬ a = b)) (hy : ¬ (¬ c < 0 ∧ ¬ nI 40 < c)) : Mt X am_163 [.ref 0, .int a, .int b, .int c] h (Qi (fun y h1 => y = -3 ∧ SC h h1)) := by
  have e3 := C.1
  refine rk_aload_n rfl rfl ?_
  refine rk_iload_n rfl rfl ?_
  refine rk_iload_n rfl rfl ?_
  refine rk_cv2e rfl rfl (by assumption) rfl rfl (Nat.le_of_ble_eq_true rfl) (Nat.le_of_ble_eq_true rfl) (s165 d0 hN C a b) ?_
  refine rk_if_ne rfl rfl (fun hc4 => ?_) (fun hc4 => ?_)
  · replace hc4 := Decidable.not_not.mp (mt bI_0.mpr hc4)
    refine rk_iload_n rfl rfl ?_
    refine rk_if_lt rfl rfl (fun hc8 => ?_) (fun hc8 => ?_)
    · refine rk_bipush (v := (-3)) rfl (by decide) ?_
      exact rk_ireturn rfl rfl ⟨_, _, rfl, rfl, SC.rfl' Q O⟩
    · refine rk_iload_n rfl rfl ?_
      refine rk_bipush (v := nI 40) rfl (by decide) ?_
      refine rk_icmp_le rfl rfl (fun hc11 => ?_) (fun hc11 => ?_)
      · exact absurd ⟨hc8, i32_le.mp hc11⟩ hy
      · refine rk_bipush (v := (-3)) rfl (by decide) ?_
        exact rk_ireturn rfl rfl ⟨_, _, rfl, rfl, SC.rfl' Q O⟩
  · replace hc4 := Decidable.not_not.mp hc4
    replace hc4 := (bI_0).mp hc4
    exact absurd hx hc4
theorem c164_x {X : ai_X} {h : ai_H} {tp : Int32} {N : Nat → Nat} (d0 : h[0]? = some (cOne tp)) (hN : HN N) (C : CH h 3 N) (Q : ∃ n f, RouteAt h 17 n f) (O : InvO h) {a b c : Int32} (hx : ¬ ((¬ a < 0 ∧ ¬ nI (N 271) ≤ a) ∧ (¬ b < 0 ∧ ¬ nI (N 271) ≤ b) ∧ ¬ a = b)) : Mt X am_164 [.ref 0, .int a, .int b, .int c] h (Qi (fun y h1 => y = -2 ∧ SC h h1)) := by
  have e3 := C.1
  refine rk_aload_n rfl rfl ?_
  refine rk_iload_n rfl rfl ?_
  refine rk_iload_n rfl rfl ?_
  refine rk_cv2e rfl rfl (by assumption) rfl rfl (Nat.le_of_ble_eq_true rfl) (Nat.le_of_ble_eq_true rfl) (s165 d0 hN C a b) ?_
  refine rk_if_ne rfl rfl (fun hc4 => ?_) (fun hc4 => ?_)
  · replace hc4 := Decidable.not_not.mp (mt bI_0.mpr hc4)
    exact absurd hc4 hx
  · replace hc4 := Decidable.not_not.mp hc4
    replace hc4 := (bI_0).mp hc4
    refine rk_bipush (v := (-2)) rfl (by decide) ?_
    exact rk_ireturn rfl rfl ⟨_, _, rfl, rfl, SC.rfl' Q O⟩
theorem c164_y {X : ai_X} {h : ai_H} {tp : Int32} {N : Nat → Nat} (d0 : h[0]? = some (cOne tp)) (hN : HN N) (C : CH h 3 N) (Q : ∃ n f, RouteAt h 17 n f) (O : InvO h) {a b c : Int32} (hx : ((¬ a < 0 ∧ ¬ nI (N 271) ≤ a) ∧ (¬ b < 0 ∧ ¬ nI (N 271) ≤ b) ∧ ¬ a = b)) (hy : ¬ (¬ c < 0 ∧ ¬ nI 40 < c)) : Mt X am_164 [.ref 0, .int a, .int b, .int c] h (Qi (fun y h1 => y = -3 ∧ SC h h1)) := by
  have e3 := C.1
  refine rk_aload_n rfl rfl ?_
  refine rk_iload_n rfl rfl ?_
  refine rk_iload_n rfl rfl ?_
  refine rk_cv2e rfl rfl (by assumption) rfl rfl (Nat.le_of_ble_eq_true rfl) (Nat.le_of_ble_eq_true rfl) (s165 d0 hN C a b) ?_
  refine rk_if_ne rfl rfl (fun hc4 => ?_) (fun hc4 => ?_)
  · replace hc4 := Decidable.not_not.mp (mt bI_0.mpr hc4)
    refine rk_iload_n rfl rfl ?_
    refine rk_if_lt rfl rfl (fun hc8 => ?_) (fun hc8 => ?_)
    · refine rk_bipush (v := (-3)) rfl (by decide) ?_
      exact rk_ireturn rfl rfl ⟨_, _, rfl, rfl, SC.rfl' Q O⟩
    · refine rk_iload_n rfl rfl ?_
      refine rk_bipush (v := nI 40) rfl (by decide) ?_
      refine rk_icmp_le rfl rfl (fun hc11 => ?_) (fun hc11 => ?_)
      · exact absurd ⟨hc8, i32_le.mp hc11⟩ hy
      · refine rk_bipush (v := (-3)) rfl (by decide) ?_
        exact rk_ireturn rfl rfl ⟨_, _, rfl, rfl, SC.rfl' Q O⟩
  · replace hc4 := Decidable.not_not.mp hc4
    replace hc4 := (bI_0).mp hc4
    exact absurd hx hc4
theorem c163_v {X : ai_X} {h : ai_H} {tp : Int32} {N : Nat → Nat} (d0 : h[0]? = some (cOne tp)) (hN : HN N) (C : CH h 3 N) (Q : ∃ n f, RouteAt h 17 n f) (O : InvO h) {a b L : Nat} (ha : a < N 271) (hb : b < N 271) (hab : ¬ a = b) (hL : L ≤ 40) : Mt X am_163 [.ref 0, .int (nI a), .int (nI b), .int (nI L)] h (Qi (fun y h1 => y = nI (wA N L (wt N a * 14 + wt N b) % MP) ∧ SC h h1)) := by
  have e3 := C.1
  have hw8 := hN.w
  obtain ⟨d27, S30, S31, -⟩ := O.p30
  refine rk_aload_n rfl rfl ?_
  refine rk_iload_n rfl rfl ?_
  refine rk_iload_n rfl rfl ?_
  refine rk_cv2e rfl rfl (by assumption) rfl rfl (Nat.le_of_ble_eq_true rfl) (Nat.le_of_ble_eq_true rfl) (s165 d0 hN C (nI a) (nI b)) ?_
  refine rk_if_ne rfl rfl (fun hc4 => ?_) (fun hc4 => ?_)
  · replace hc4 := Decidable.not_not.mp (mt bI_0.mpr hc4)
    refine rk_iload_n rfl rfl ?_
    refine rk_if_lt rfl rfl (fun hc8 => ?_) (fun hc8 => ?_)
    · replace hc8 := (n0_lt (by omega)).mp hc8
      exact hc8.elim
    · replace hc8 := mt (n0_lt (by omega)).mpr hc8
      refine rk_iload_n rfl rfl ?_
      refine rk_bipush (v := nI 40) rfl (by decide) ?_
      refine rk_icmp_le rfl rfl (fun hc11 => ?_) (fun hc11 => ?_)
      · replace hc11 := (nI_leI (by omega) (by omega)).mp hc11
        refine rk_aload_n rfl rfl ?_
        refine rk_get rfl (by assumption) rfl ?_
        refine rk_aload_n rfl rfl ?_
        refine rk_get rfl (by assumption) rfl ?_
        refine rk_aload_n rfl rfl ?_
        refine rk_get rfl (by assumption) rfl ?_
        refine rk_iload_n rfl rfl ?_
        refine rk_cv1e rfl rfl (by assumption) rfl rfl (Nat.le_of_ble_eq_true rfl) (Nat.le_of_ble_eq_true rfl) (s31N C ha hN) ?_
        refine rk_aload_n rfl rfl ?_
        refine rk_get rfl (by assumption) rfl ?_
        refine rk_iload_n rfl rfl ?_
        refine rk_cv1e rfl rfl (by assumption) rfl rfl (Nat.le_of_ble_eq_true rfl) (Nat.le_of_ble_eq_true rfl) (s31N C hb hN) ?_
        refine rk_iload_n rfl rfl ?_
        refine rk_cv4i rfl rfl (by assumption) rfl rfl (Nat.le_of_ble_eq_true rfl) (Nat.le_of_ble_eq_true rfl) (s63 hN C d27 (hN.xwt ha) (hN.xwt hb) hL S30 S31) (fun w h1 hF => ?_)
        obtain ⟨rfl, F⟩ := hF
        exact rk_ireturn rfl rfl ⟨_, _, rfl, rfl, SC.of30 F Q O⟩
      · replace hc11 := mt (nI_leI (by omega) (by omega)).mpr hc11
        omega
  · replace hc4 := Decidable.not_not.mp hc4
    replace hc4 := (bI_0).mp hc4
    exact absurd ⟨in_mk (by omega) ha, in_mk (by omega) hb, fun z => hab ((nI_eq (by omega) (by omega)).mp z)⟩ hc4
theorem md_pu {X : ai_X} {M : ai_M} {k : Nat} {ls : ai_L} {h : ai_H} {W : Int32} {v : Nat → Int32} (c0 : h[52]? = some (cMdl v)) (H : Rk X M k ls [] h (Qe W h)) : Rk X M k ls [] h (Qi (fun w h2 => w = W ∧ SM h h2)) := by
  refine H.mono ?_
  rintro o ⟨w, h2, rfl, rfl, rfl⟩
  exact ⟨_, _, rfl, rfl, SM.rf c0⟩
theorem ob32 (X : ai_X) : O32 X Inv := by
  intro a0 a1 a2
  refine ob_scr fun m c' s h I => ?_
  obtain ⟨S71, S72⟩ := I.s712
  obtain ⟨tp, v, A, N, ro, d0, d52, d53, hN, C, M, d19, hro, Q, RR, O⟩ := I.dat
  have hw8 := hN.w
  by_cases hx : (¬ a0 < 0 ∧ ¬ nI (N 271) ≤ a0) ∧ (¬ a1 < 0 ∧ ¬ nI (N 271) ≤ a1) ∧ ¬ a0 = a1
  · by_cases hy : ¬ a2 < 0 ∧ ¬ nI 40 < a2
    · obtain ⟨a, ha, rfl⟩ := in_of (by omega) hx.1
      obtain ⟨b, hb, rfl⟩ := in_of (by omega) hx.2.1
      obtain ⟨L, hL, rfl⟩ := w40_of hy
      have hab : ¬ a = b := fun z => hx.2.2 (by rw [z])
      exact ⟨_, c163_v d0 hN C Q O ha hb hab hL, fun h1 S => md_sc2 rfl rfl rfl rfl ((S.m (by omega)).trans d52) (fun h2 g2 hk => m271_v g2 ((S.m2 hk (by omega) (by omega)).trans d53) hN M ha hb hab hL (S71.fr (S.m2 hk (by omega) (by omega))) (S72.fr (S.m2 hk (by omega) (by omega))))⟩
    · exact ⟨_, c163_y d0 hN C Q O hx hy, fun h1 S => md_sc2 rfl rfl rfl rfl ((S.m (by omega)).trans d52) (fun h2 g2 hk => md_pu g2 (m271_y g2 ((S.m2 hk (by omega) (by omega)).trans d53) hN M hx hy))⟩
  · exact ⟨_, c163_x d0 hN C Q O hx, fun h1 S => md_sc2 rfl rfl rfl rfl ((S.m (by omega)).trans d52) (fun h2 g2 hk => md_pu g2 (m271_x g2 ((S.m2 hk (by omega) (by omega)).trans d53) hN M hx))⟩
