/-! PARTS -/
theorem SC.of42 {h h1 h2 : ai_H} (F : Fr 17 19 h h1) (Q : ∃ n f, RouteAt h1 17 n f) (O : InvO h) (F2 : Fr 42 44 h1 h2) : SC h h2 := by
  obtain ⟨n, e⟩ := O.led
  obtain ⟨m, f, R⟩ := Q
  exact ⟨F2.1.trans F.1, fun q _ _ _ => (F2.2 q (by omega)).trans (F.2 q (by omega)), ⟨m, f, R.fr (fun q _ _ => F2.2 q (by omega))⟩, n, ((F2.2 33 (by omega)).trans (F.2 33 (by omega))).trans e⟩
theorem InvO.ch {h : ai_H} (O : InvO h) : h[41]? = some cCh ∧ ShJ h 42 14 ∧ ShJ h 43 14 := by
  obtain ⟨a1, -, a3, a4, s1, s2, s3, s4, s5, s6, s7, s8, s9, s10, s11, s12, s13, s14, s15⟩ := O
  exact ⟨a4, s14, s15⟩
theorem InvO.ch17 {h h1 : ai_H} (O : InvO h) (F : Fr 17 19 h h1) : h1[41]? = some cCh ∧ ShJ h1 42 14 ∧ ShJ h1 43 14 := by
  obtain ⟨a, ⟨f, b⟩, ⟨g, c⟩⟩ := O.ch
  exact ⟨(F.2 41 (by omega)).trans a, ⟨f, (F.2 42 (by omega)).trans b⟩, ⟨g, (F.2 43 (by omega)).trans c⟩⟩
theorem updL_un {f : Nat → Int64} {y : Nat → Nat} {L a v : Nat} (H : ∀ s, s < L → f s = lI (y s)) : ∀ s, s < L → vp_updL f a (lI v) s = lI (un y a v s) := by
  intro s hs
  simp only [vp_updL, un]
  by_cases q : s = a
  · rw [if_pos q, if_pos q]
  · rw [if_neg q, if_neg q]; exact H s hs
theorem SM.of73 {h h1 : ai_H} {v : Nat → Int32} (c0 : h[52]? = some (cMdl v)) (F : Fr 73 75 h h1) : SM h h1 := ⟨F.1, fun q _ _ _ => F.2 q (by omega), v, v, c0, (F.2 52 (by omega)).trans c0, rfl, rfl, rfl, rfl⟩
theorem SM.rf {h : ai_H} {v : Nat → Int32} (c0 : h[52]? = some (cMdl v)) : SM h h := SM.of73 c0 Fr.rfl'
theorem c168_x {X : ai_X} {h : ai_H} {tp : Int32} {ro : Nat → Option Nat} {N : Nat → Nat} (d0 : h[0]? = some (cOne tp)) (hN : HN N) (C : CH h 3 N) (d19 : h[19]? = some (cR 3 4 ro)) (hro : ∀ i, i < 4 → ro i = some (44 + 2 * i)) (Q : ∃ n f, RouteAt h 17 n f) (O : InvO h) {a b c : Int32} (ha : ¬ (¬ a < 0 ∧ ¬ nI 4 ≤ a)) : Mt X am_168 [.ref 0, .int a, .int b, .int c] h (Ql (fun y h1 => y = -2 ∧ SC h h1)) := by
  have d3 := C.1
  refine rk_aload_n rfl rfl ?_
  refine rk_iload_n rfl rfl ?_
  refine rk_cv1e rfl rfl (by assumption) rfl rfl (Nat.le_of_ble_eq_true rfl) (Nat.le_of_ble_eq_true rfl) (s179 _) ?_
  refine rk_if_eq rfl rfl (fun hc3 => ?_) (fun hc3 => ?_)
  · replace hc3 := (bI_0).mp hc3
    refine rk_ldc2 rfl ?_
    exact rk_lreturn rfl rfl ⟨_, _, rfl, rfl, SC.rfl' Q O⟩
  · replace hc3 := Decidable.not_not.mp (mt bI_0.mpr hc3)
    exact absurd hc3 ha
theorem c168_y {X : ai_X} {h : ai_H} {tp : Int32} {ro : Nat → Option Nat} {N : Nat → Nat} (d0 : h[0]? = some (cOne tp)) (hN : HN N) (C : CH h 3 N) (d19 : h[19]? = some (cR 3 4 ro)) (hro : ∀ i, i < 4 → ro i = some (44 + 2 * i)) (Q : ∃ n f, RouteAt h 17 n f) (O : InvO h) {i : Nat} {b c : Int32} (hi : i < 4) (hb : ¬ (¬ b < 0 ∧ ¬ nI (N 271) ≤ b)) : Mt X am_168 [.ref 0, .int (nI i), .int b, .int c] h (Ql (fun y h1 => y = -2 ∧ SC h h1)) := by
  have d3 := C.1
  refine rk_aload_n rfl rfl ?_
  refine rk_iload_n rfl rfl ?_
  refine rk_cv1e rfl rfl (by assumption) rfl rfl (Nat.le_of_ble_eq_true rfl) (Nat.le_of_ble_eq_true rfl) (s179 _) ?_
  refine rk_if_eq rfl rfl (fun hc3 => ?_) (fun hc3 => ?_)
  · replace hc3 := (bI_0).mp hc3
    exact absurd (in_mk (by omega) hi) hc3
  · replace hc3 := Decidable.not_not.mp (mt bI_0.mpr hc3)
    refine rk_aload_n rfl rfl ?_
    refine rk_get rfl (by assumption) rfl ?_
    refine rk_iload_n rfl rfl ?_
    refine rk_cv1e rfl rfl (by assumption) rfl rfl (Nat.le_of_ble_eq_true rfl) (Nat.le_of_ble_eq_true rfl) (s25N C _) ?_
    refine rk_if_eq rfl rfl (fun hc8 => ?_) (fun hc8 => ?_)
    · replace hc8 := (bI_0).mp hc8
      refine rk_ldc2 rfl ?_
      exact rk_lreturn rfl rfl ⟨_, _, rfl, rfl, SC.rfl' Q O⟩
    · replace hc8 := Decidable.not_not.mp (mt bI_0.mpr hc8)
      exact absurd hc8 hb
theorem c168_z {X : ai_X} {h : ai_H} {tp : Int32} {ro : Nat → Option Nat} {N : Nat → Nat} (d0 : h[0]? = some (cOne tp)) (hN : HN N) (C : CH h 3 N) (d19 : h[19]? = some (cR 3 4 ro)) (hro : ∀ i, i < 4 → ro i = some (44 + 2 * i)) (Q : ∃ n f, RouteAt h 17 n f) (O : InvO h) {i w : Nat} {c : Int32} (hi : i < 4) (hw : w < N 271) (hb : ¬ (¬ c < 0 ∧ ¬ nI (N 0) ≤ c)) : Mt X am_168 [.ref 0, .int (nI i), .int (nI w), .int c] h (Ql (fun y h1 => y = -2 ∧ SC h h1)) := by
  have d3 := C.1
  have hw8 := hN.w
  refine rk_aload_n rfl rfl ?_
  refine rk_iload_n rfl rfl ?_
  refine rk_cv1e rfl rfl (by assumption) rfl rfl (Nat.le_of_ble_eq_true rfl) (Nat.le_of_ble_eq_true rfl) (s179 _) ?_
  refine rk_if_eq rfl rfl (fun hc3 => ?_) (fun hc3 => ?_)
  · replace hc3 := (bI_0).mp hc3
    exact absurd (in_mk (by omega) hi) hc3
  · replace hc3 := Decidable.not_not.mp (mt bI_0.mpr hc3)
    refine rk_aload_n rfl rfl ?_
    refine rk_get rfl (by assumption) rfl ?_
    refine rk_iload_n rfl rfl ?_
    refine rk_cv1e rfl rfl (by assumption) rfl rfl (Nat.le_of_ble_eq_true rfl) (Nat.le_of_ble_eq_true rfl) (s25N C _) ?_
    refine rk_if_eq rfl rfl (fun hc8 => ?_) (fun hc8 => ?_)
    · replace hc8 := (bI_0).mp hc8
      exact absurd (in_mk (by omega) hw) hc8
    · replace hc8 := Decidable.not_not.mp (mt bI_0.mpr hc8)
      refine rk_aload_n rfl rfl ?_
      refine rk_get rfl (by assumption) rfl ?_
      refine rk_iload_n rfl rfl ?_
      refine rk_cv1e rfl rfl (by assumption) rfl rfl (Nat.le_of_ble_eq_true rfl) (Nat.le_of_ble_eq_true rfl) (s23N C _) ?_
      refine rk_if_ne rfl rfl (fun hc13 => ?_) (fun hc13 => ?_)
      · replace hc13 := Decidable.not_not.mp (mt bI_0.mpr hc13)
        exact absurd hc13 hb
      · replace hc13 := Decidable.not_not.mp hc13
        replace hc13 := (bI_0).mp hc13
        refine rk_ldc2 rfl ?_
        exact rk_lreturn rfl rfl ⟨_, _, rfl, rfl, SC.rfl' Q O⟩
theorem c168_v {X : ai_X} {h : ai_H} {tp : Int32} {ro : Nat → Option Nat} {N : Nat → Nat} (d0 : h[0]? = some (cOne tp)) (hN : HN N) (C : CH h 3 N) (d19 : h[19]? = some (cR 3 4 ro)) (hro : ∀ i, i < 4 → ro i = some (44 + 2 * i)) (Q : ∃ n f, RouteAt h 17 n f) (O : InvO h) {i L : Nat} {code : Int32} {x : Nat → Nat} (hi : i < 4) (R : CRow h i (N 1) code L x) {w c : Nat} (hw : w < N 271) (hr : c < N 0) : Mt X am_168 [.ref 0, .int (nI i), .int (nI w), .int (nI c)] h (Ql (fun y h1 => y = (if code = 0 then (if L ≤ 8 then lI (bk N x c L L (wt N w)) else -3) else code.toInt64) ∧ SC h h1)) := by
  have d3 := C.1
  have hn := hN.n
  have hw8 := hN.w
  refine rk_aload_n rfl rfl ?_
  refine rk_iload_n rfl rfl ?_
  refine rk_cv1e rfl rfl (by assumption) rfl rfl (Nat.le_of_ble_eq_true rfl) (Nat.le_of_ble_eq_true rfl) (s179 _) ?_
  refine rk_if_eq rfl rfl (fun hc3 => ?_) (fun hc3 => ?_)
  · replace hc3 := (bI_0).mp hc3
    exact absurd (in_mk (by omega) hi) hc3
  · replace hc3 := Decidable.not_not.mp (mt bI_0.mpr hc3)
    refine rk_aload_n rfl rfl ?_
    refine rk_get rfl (by assumption) rfl ?_
    refine rk_iload_n rfl rfl ?_
    refine rk_cv1e rfl rfl (by assumption) rfl rfl (Nat.le_of_ble_eq_true rfl) (Nat.le_of_ble_eq_true rfl) (s25N C _) ?_
    refine rk_if_eq rfl rfl (fun hc8 => ?_) (fun hc8 => ?_)
    · replace hc8 := (bI_0).mp hc8
      exact absurd (in_mk (by omega) hw) hc8
    · replace hc8 := Decidable.not_not.mp (mt bI_0.mpr hc8)
      refine rk_aload_n rfl rfl ?_
      refine rk_get rfl (by assumption) rfl ?_
      refine rk_iload_n rfl rfl ?_
      refine rk_cv1e rfl rfl (by assumption) rfl rfl (Nat.le_of_ble_eq_true rfl) (Nat.le_of_ble_eq_true rfl) (s23N C _) ?_
      refine rk_if_ne rfl rfl (fun hc13 => ?_) (fun hc13 => ?_)
      · replace hc13 := Decidable.not_not.mp (mt bI_0.mpr hc13)
        refine rk_aload_n rfl rfl ?_
        refine rk_iload_n rfl rfl ?_
        refine rk_cv1i rfl rfl (by assumption) rfl rfl (Nat.le_of_ble_eq_true rfl) (Nat.le_of_ble_eq_true rfl) (s180 d0 d19 hro hi C rfl Q R) (fun w h1 hF => ?_)
        obtain ⟨rfl, F1, Q1, R1⟩ := hF
        have e0 := (F1.2 0 (by omega)).trans d0
        have C1 := C.fr2 F1 (by omega)
        have e3 := C1.1
        refine rk_istore rfl (Nat.le_of_ble_eq_true rfl) rfl ?_
        refine rk_iload rfl rfl ?_
        refine rk_if_eq rfl rfl (fun hc21 => ?_) (fun hc21 => ?_)
        · subst hc21
          have R2 := R1 rfl
          obtain ⟨hL, hx⟩ := R.x
          have e17 := R2.choose_spec.1.1
          obtain ⟨e41, S42, S43⟩ := O.ch17 F1
          refine rk_aload_n rfl rfl ?_
          refine rk_get rfl (by assumption) rfl ?_
          refine rk_get rfl (by assumption) rfl ?_
          refine rk_bipush (v := nI 8) rfl (by decide) ?_
          refine rk_icmp_le rfl rfl (fun hc29 => ?_) (fun hc29 => ?_)
          · replace hc29 := (nI_leI (by omega) (by omega)).mp hc29
            refine rk_aload_n rfl rfl ?_
            refine rk_get rfl (by assumption) rfl ?_
            refine rk_aload_n rfl rfl ?_
            refine rk_get rfl (by assumption) rfl ?_
            refine rk_iload_n rfl rfl ?_
            refine rk_aload_n rfl rfl ?_
            refine rk_get rfl (by assumption) rfl ?_
            refine rk_iload_n rfl rfl ?_
            refine rk_cv1e rfl rfl (by assumption) rfl rfl (Nat.le_of_ble_eq_true rfl) (Nat.le_of_ble_eq_true rfl) (s31N C1 hw hN) ?_
            refine rk_cv3l rfl rfl (by assumption) rfl rfl (Nat.le_of_ble_eq_true rfl) (Nat.le_of_ble_eq_true rfl) (s1 hN C1 e41 R2 (Or.inr rfl) hx (by omega) hr S42 S43 (hN.xwt hw)) (fun w h1 hF => ?_)
            obtain ⟨rfl, F3⟩ := hF
            exact rk_lreturn rfl rfl ⟨_, _, rfl, by rw [if_pos rfl, if_pos (by omega)], SC.of42 F1 Q1 O F3⟩
          · replace hc29 := mt (nI_leI (by omega) (by omega)).mpr hc29
            refine rk_ldc2 rfl ?_
            exact rk_lreturn rfl rfl ⟨_, _, rfl, by first | rw [if_neg (by assumption)] | rw [if_pos rfl, if_neg (by omega)], SC.of17 F1 Q1 O⟩
        · refine rk_iload rfl rfl ?_
          refine rk_i2l rfl rfl ?_
          exact rk_lreturn rfl rfl ⟨_, _, rfl, by first | rw [if_neg (by assumption)] | rw [if_pos rfl, if_neg (by omega)], SC.of17 F1 Q1 O⟩
      · replace hc13 := Decidable.not_not.mp hc13
        replace hc13 := (bI_0).mp hc13
        exact absurd (in_mk (by omega) hr) hc13
theorem l274 {X : ai_X} {h : ai_H} {v A : Nat → Int32} {N : Nat → Nat} (c0 : h[52]? = some (cMdl v)) (c1 : h[53]? = some (cI 2346 A)) (hN : HN N) (M : MH A N) {a : Nat} (ha : a < N 0) : ∀ (d : Nat) (k : Nat) (g : ai_H), N 0 < k + d → (k ≤ N 0) → (Fr 73 74 h g) → (AJ g 73 14 k (fun r => if r = a then 1 else 0)) → Rk X am_274 2 [some (.ref 52), some (.int (nI a)), some (.int (nI k))] [] g (Qv (fun h1 => Fr 73 74 h h1 ∧ AJ h1 73 14 (N 0) (fun r => if r = a then 1 else 0))) := by
  intro d
  induction d with
  | zero => intro k g hd hk F S; exfalso; omega
  | succ d ih =>
    intro k g hd hk F S
    obtain ⟨a0, a1, a268, a269, a270, a271, apl, apc, aot, asg, awt⟩ := id M
    have e52 := (F.2 52 (by omega)).trans c0
    have e53 := (F.2 53 (by omega)).trans c1
    have hn := hN.n
    have h6 := hN.t
    have F0 : Fr 73 74 h g := F
    obtain ⟨f1, c73, hf1⟩ := id S
    refine rk_iload_n rfl rfl ?_
    refine rk_aload_n rfl rfl ?_
    refine rk_get rfl (by assumption) rfl ?_
    refine rk_iconst (v := nI 0) rfl (by decide) ?_
    refine rk_iald rfl (by assumption) (rfl) (by omega) (by decide) ?_
    rw [a0]
    refine rk_icmp_ge rfl rfl (fun hc7 => ?_) (fun hc7 => ?_)
    · replace hc7 := (nI_leI (by omega) (by omega)).mp hc7
      have hk2 : k = N 0 := by omega
      subst hk2
      exact rk_return rfl rfl ⟨_, rfl, F, S⟩
    · replace hc7 := mt (nI_leI (by omega) (by omega)).mpr hc7
      refine rk_aload_n rfl rfl ?_
      refine rk_get rfl (by assumption) rfl ?_
      refine rk_iload_n rfl rfl ?_
      refine rk_iload_n rfl rfl ?_
      refine rk_iload_n rfl rfl ?_
      refine rk_icmp_ne rfl rfl (fun hc13 => ?_) (fun hc13 => ?_)
      · replace hc13 := mt (nI_eq (by omega) (by omega)).mpr hc13
        refine rk_lconst (v := 0) rfl (by decide) ?_
        refine rk_last rfl c73 (rfl) (by omega) (by decide) ?_
        refine hp_gen c73 (fun h1 g1 hk1 hl1 => ?_)
        replace e52 := (hk1 _ (by omega)).trans e52
        replace e53 := (hk1 _ (by omega)).trans e53
        replace F0 := F0.tr (Fr.mk1 hk1 hl1 (by omega) (by omega))
        replace c73 := g1
        refine rk_iinc rfl rfl (n_inc _) rfl ?_
        refine rk_goto rfl rfl ?_
        refine ih (k + 1) _ (by omega) (by omega) F0 ⟨_, c73, fun j hj => ?_⟩
        simp only [vp_updL]
        by_cases y : j = k
        · rw [if_pos y]
          first
            | (rw [if_pos (by omega)]; rfl)
            | (rw [if_neg (by omega)]; rfl)
        · rw [if_neg y]; exact hf1 j (by omega)
      · replace hc13 := Decidable.not_not.mp hc13
        replace hc13 := (nI_eq (by omega) (by omega)).mp hc13
        refine rk_lconst (v := 1) rfl (by decide) ?_
        refine rk_goto rfl rfl ?_
        refine rk_last rfl c73 (rfl) (by omega) (by decide) ?_
        refine hp_gen c73 (fun h1 g1 hk1 hl1 => ?_)
        replace e52 := (hk1 _ (by omega)).trans e52
        replace e53 := (hk1 _ (by omega)).trans e53
        replace F0 := F0.tr (Fr.mk1 hk1 hl1 (by omega) (by omega))
        replace c73 := g1
        refine rk_iinc rfl rfl (n_inc _) rfl ?_
        refine rk_goto rfl rfl ?_
        refine ih (k + 1) _ (by omega) (by omega) F0 ⟨_, c73, fun j hj => ?_⟩
        simp only [vp_updL]
        by_cases y : j = k
        · rw [if_pos y]
          first
            | (rw [if_pos (by omega)]; rfl)
            | (rw [if_neg (by omega)]; rfl)
        · rw [if_neg y]; exact hf1 j (by omega)
theorem s274 {X : ai_X} {h : ai_H} {v A : Nat → Int32} {N : Nat → Nat} (c0 : h[52]? = some (cMdl v)) (c1 : h[53]? = some (cI 2346 A)) (hN : HN N) (M : MH A N) {a : Nat} (ha : a < N 0) (S73 : ShJ h 73 14) : Mt X am_274 [.ref 52, .int (nI a)] h (Qv (fun h1 => Fr 73 74 h h1 ∧ AJ h1 73 14 (N 0) (fun r => if r = a then 1 else 0))) := by
  obtain ⟨f0, c73⟩ := S73
  refine rk_iconst (v := nI 0) rfl (by decide) ?_
  refine rk_istore_n rfl (Nat.le_of_ble_eq_true rfl) rfl ?_
  exact l274 c0 c1 hN M ha (N 0 + 1) 0 h (by omega) (by omega) Fr.rfl' ⟨f0, c73, fun j hj => absurd hj (by omega)⟩
theorem l275a {X : ai_X} {h : ai_H} {v A : Nat → Int32} {N : Nat → Nat} (c0 : h[52]? = some (cMdl v)) (c1 : h[53]? = some (cI 2346 A)) (hN : HN N) (M : MH A N) {t : Nat} {Q : Nat → Nat} (ht : t < N 1) {P : ai_O → Prop} (z : ∀ g, Fr 73 75 h g → AJ g 73 14 (N 0) Q → AJ g 74 14 (N 0) (fun _ => 0) → Rk X am_275 15 [some (.ref 52), some (.int (nI t)), some (.int (nI (N 0))), none] [] g P) : ∀ (d : Nat) (k : Nat) (g : ai_H), N 0 < k + d → (k ≤ N 0) → (Fr 73 75 h g) → (AJ g 73 14 (N 0) Q) → (AJ g 74 14 k (fun _ => 0)) → Rk X am_275 2 [some (.ref 52), some (.int (nI t)), some (.int (nI k)), none] [] g (P) := by
  intro d
  induction d with
  | zero => intro k g hd hk F S1 S2; exfalso; omega
  | succ d ih =>
    intro k g hd hk F S1 S2
    obtain ⟨a0, a1, a268, a269, a270, a271, apl, apc, aot, asg, awt⟩ := id M
    have e52 := (F.2 52 (by omega)).trans c0
    have e53 := (F.2 53 (by omega)).trans c1
    have hn := hN.n
    have h6 := hN.t
    have F0 : Fr 73 75 h g := F
    have S10 := S1
    obtain ⟨f2, c74, hf2⟩ := id S2
    refine rk_iload_n rfl rfl ?_
    refine rk_aload_n rfl rfl ?_
    refine rk_get rfl (by assumption) rfl ?_
    refine rk_iconst (v := nI 0) rfl (by decide) ?_
    refine rk_iald rfl (by assumption) (rfl) (by omega) (by decide) ?_
    rw [a0]
    refine rk_icmp_ge rfl rfl (fun hc7 => ?_) (fun hc7 => ?_)
    · replace hc7 := (nI_leI (by omega) (by omega)).mp hc7
      have hk2 : k = N 0 := by omega
      subst hk2
      exact z g F S1 S2
    · replace hc7 := mt (nI_leI (by omega) (by omega)).mpr hc7
      refine rk_aload_n rfl rfl ?_
      refine rk_get rfl (by assumption) rfl ?_
      refine rk_iload_n rfl rfl ?_
      refine rk_lconst (v := 0) rfl (by decide) ?_
      refine rk_last rfl c74 (rfl) (by omega) (by decide) ?_
      refine hp_gen c74 (fun h1 g1 hk1 hl1 => ?_)
      replace e52 := (hk1 _ (by omega)).trans e52
      replace e53 := (hk1 _ (by omega)).trans e53
      replace S10 := S10.fr (hk1 _ (by omega))
      replace F0 := F0.tr (Fr.mk1 hk1 hl1 (by omega) (by omega))
      replace c74 := g1
      refine rk_iinc rfl rfl (n_inc _) rfl ?_
      refine rk_goto rfl rfl ?_
      refine ih (k + 1) _ (by omega) (by omega) F0 S10 ⟨_, c74, fun j hj => ?_⟩
      simp only [vp_updL]
      by_cases y : j = k
      · rw [if_pos y]; rfl
      · rw [if_neg y]; exact hf2 j (by omega)
theorem l275b {X : ai_X} {h : ai_H} {v A : Nat → Int32} {N : Nat → Nat} (c0 : h[52]? = some (cMdl v)) (c1 : h[53]? = some (cI 2346 A)) (hN : HN N) (M : MH A N) {t : Nat} {Q : Nat → Nat} (ht : t < N 1) {P : ai_O → Prop} (z : ∀ g c3, Fr 73 75 h g → AJ g 73 14 (N 0) Q → AJ g 74 14 (N 0) (fs N t Q (N 0)) → Rk X am_275 76 [some (.ref 52), some (.int (nI t)), some (.int (nI (N 0))), c3] [] g P) : ∀ (d : Nat) (k : Nat) (g : ai_H) (c3 : Option Value), N 0 < k + d → (k ≤ N 0) → (Fr 73 75 h g) → (AJ g 73 14 (N 0) Q) → (AJ g 74 14 (N 0) (fs N t Q k)) → Rk X am_275 17 [some (.ref 52), some (.int (nI t)), some (.int (nI k)), c3] [] g (P) := by
  intro d
  induction d with
  | zero => intro k g c3 hd hk F S1 S2; exfalso; omega
  | succ d ih =>
    intro k g c3 hd hk F S1 S2
    obtain ⟨a0, a1, a268, a269, a270, a271, apl, apc, aot, asg, awt⟩ := id M
    have e52 := (F.2 52 (by omega)).trans c0
    have e53 := (F.2 53 (by omega)).trans c1
    have hn := hN.n
    have h6 := hN.t
    have F0 : Fr 73 75 h g := F
    obtain ⟨f1, c73, hf1⟩ := id S1
    obtain ⟨f2, c74, hf2⟩ := id S2
    have hpc := hN.xpct (r := k) (i := t)
    have hpl := hN.xpl (r := k) (i := t)
    have hfs : fs N t Q (k + 1) = if 0 < pct N k t then un (un (fs N t Q k) (pl N k t) (fs N t Q k (pl N k t) + Q k * (100 - pct N k t))) (ot N k t) ((un (fs N t Q k) (pl N k t) (fs N t Q k (pl N k t) + Q k * (100 - pct N k t))) (ot N k t) + Q k * pct N k t) else (un (fs N t Q k) (pl N k t) (fs N t Q k (pl N k t) + Q k * (100 - pct N k t))) := rfl
    refine rk_iload_n rfl rfl ?_
    refine rk_aload_n rfl rfl ?_
    refine rk_get rfl (by assumption) rfl ?_
    refine rk_iconst (v := nI 0) rfl (by decide) ?_
    refine rk_iald rfl (by assumption) (rfl) (by omega) (by decide) ?_
    rw [a0]
    refine rk_icmp_ge rfl rfl (fun hc22 => ?_) (fun hc22 => ?_)
    · replace hc22 := (nI_leI (by omega) (by omega)).mp hc22
      have hk2 : k = N 0 := by omega
      subst hk2
      exact z g _ F S1 S2
    · replace hc22 := mt (nI_leI (by omega) (by omega)).mpr hc22
      refine rk_aload_n rfl rfl ?_
      refine rk_get rfl (by assumption) rfl ?_
      refine rk_sipush (v := nI 170) rfl (by decide) ?_
      refine rk_iload_n rfl rfl ?_
      refine rk_iload_n rfl rfl ?_
      refine rk_cs2e rfl rfl rfl (Nat.le_of_ble_eq_true rfl) (Nat.le_of_ble_eq_true rfl) (s196) ?_
      refine rk_iadd rfl (nI_add _ _) ?_
      refine rk_iald rfl (by assumption) (rfl) (by omega) (by decide) ?_
      rw [apc k t (by omega) (by omega)]
      replace hpc := hpc (by omega) (by omega)
      replace hpl := hpl (by omega) ht
      refine rk_istore_n rfl (Nat.le_of_ble_eq_true rfl) rfl ?_
      refine rk_aload_n rfl rfl ?_
      refine rk_get rfl (by assumption) rfl ?_
      refine rk_aload_n rfl rfl ?_
      refine rk_iload_n rfl rfl ?_
      refine rk_iload_n rfl rfl ?_
      refine rk_cv2e rfl rfl (by assumption) rfl rfl (Nat.le_of_ble_eq_true rfl) (Nat.le_of_ble_eq_true rfl) (s210N e52 e53 M hN (by omega) ht) ?_
      refine rk_dup2 rfl ?_
      refine rk_lald rfl (by assumption) (rfl) (by omega) (by decide) ?_
      rw [hf2 _ hpl]
      refine rk_aload_n rfl rfl ?_
      refine rk_get rfl (by assumption) rfl ?_
      refine rk_iload_n rfl rfl ?_
      refine rk_lald rfl (by assumption) (rfl) (by omega) (by decide) ?_
      rw [hf1 _ (by omega)]
      refine rk_bipush (v := nI 100) rfl (by decide) ?_
      refine rk_iload_n rfl rfl ?_
      refine rk_isub rfl (pk_sub (by omega)) ?_
      refine rk_i2l rfl (nI_lJ (by omega)) ?_
      refine rk_lmul rfl (lI_mul _ _) ?_
      refine rk_ladd rfl (lI_add _ _) ?_
      refine rk_last rfl c74 (rfl) (by omega) (by decide) ?_
      refine hp_gen c74 (fun h1 g1 hk1 hl1 => ?_)
      replace e52 := (hk1 _ (by omega)).trans e52
      replace e53 := (hk1 _ (by omega)).trans e53
      replace c73 := (hk1 _ (by omega)).trans c73
      replace F0 := F0.tr (Fr.mk1 hk1 hl1 (by omega) (by omega))
      replace c74 := g1
      have A5 := updL_un (a := pl N k t) (v := fs N t Q k (pl N k t) + Q k * (100 - pct N k t)) hf2
      refine rk_iload_n rfl rfl ?_
      refine rk_if_le rfl rfl (fun hc52 => ?_) (fun hc52 => ?_)
      · replace hc52 := (n0_le (by omega)).mp hc52
        have A4 : AJ h1 74 14 (N 0) (fs N t Q (k + 1)) := ⟨_, c74, by rw [hfs, if_neg (by omega)]; exact A5⟩
        refine rk_iinc rfl rfl (n_inc _) rfl ?_
        refine rk_goto rfl rfl ?_
        exact ih (k + 1) _ _ (by omega) (by omega) F0 ⟨_, c73, hf1⟩ A4
      · replace hc52 := mt (n0_le (by omega)).mpr hc52
        refine rk_aload_n rfl rfl ?_
        refine rk_get rfl (by assumption) rfl ?_
        refine rk_aload_n rfl rfl ?_
        refine rk_get rfl (by assumption) rfl ?_
        refine rk_bipush (v := nI 86) rfl (by decide) ?_
        refine rk_iload_n rfl rfl ?_
        refine rk_iload_n rfl rfl ?_
        refine rk_cs2e rfl rfl rfl (Nat.le_of_ble_eq_true rfl) (Nat.le_of_ble_eq_true rfl) (s196) ?_
        refine rk_iadd rfl (nI_add _ _) ?_
        refine rk_iald rfl (by assumption) (rfl) (by omega) (by decide) ?_
        have hot := hN.xot (r := k) (i := t) (by omega) (by omega) (by omega)
        rw [aot k t (by omega) ht, if_neg (by omega)]
        refine rk_dup2 rfl ?_
        refine rk_lald rfl (by assumption) (rfl) (by omega) (by decide) ?_
        rw [A5 _ hot]
        refine rk_aload_n rfl rfl ?_
        refine rk_get rfl (by assumption) rfl ?_
        refine rk_iload_n rfl rfl ?_
        refine rk_lald rfl (by assumption) (rfl) (by omega) (by decide) ?_
        rw [hf1 _ (by omega)]
        refine rk_iload_n rfl rfl ?_
        refine rk_i2l rfl (nI_lJ (by omega)) ?_
        refine rk_lmul rfl (lI_mul _ _) ?_
        refine rk_ladd rfl (lI_add _ _) ?_
        refine rk_last rfl c74 (rfl) (by omega) (by decide) ?_
        refine hp_gen c74 (fun h1 g1 hk1 hl1 => ?_)
        replace e52 := (hk1 _ (by omega)).trans e52
        replace e53 := (hk1 _ (by omega)).trans e53
        replace c73 := (hk1 _ (by omega)).trans c73
        replace F0 := F0.tr (Fr.mk1 hk1 hl1 (by omega) (by omega))
        replace c74 := g1
        have A4 : AJ h1 74 14 (N 0) (fs N t Q (k + 1)) := ⟨_, c74, by rw [hfs, if_pos (by omega)]; exact updL_un A5⟩
        refine rk_iinc rfl rfl (n_inc _) rfl ?_
        refine rk_goto rfl rfl ?_
        exact ih (k + 1) _ _ (by omega) (by omega) F0 ⟨_, c73, hf1⟩ A4
theorem l275c {X : ai_X} {h : ai_H} {v A : Nat → Int32} {N : Nat → Nat} (c0 : h[52]? = some (cMdl v)) (c1 : h[53]? = some (cI 2346 A)) (hN : HN N) (M : MH A N) {t : Nat} {Q : Nat → Nat} (ht : t < N 1) : ∀ (d : Nat) (k : Nat) (g : ai_H) (c3 : Option Value), N 0 < k + d → (k ≤ N 0) → (Fr 73 75 h g) → (AJ g 73 14 k (fs N t Q (N 0))) → (AJ g 74 14 (N 0) (fs N t Q (N 0))) → Rk X am_275 78 [some (.ref 52), some (.int (nI t)), some (.int (nI k)), c3] [] g (Qv (fun h1 => Fr 73 75 h h1 ∧ AJ h1 73 14 (N 0) (fs N t Q (N 0)) ∧ ShJ h1 74 14)) := by
  intro d
  induction d with
  | zero => intro k g c3 hd hk F S1 S2; exfalso; omega
  | succ d ih =>
    intro k g c3 hd hk F S1 S2
    obtain ⟨a0, a1, a268, a269, a270, a271, apl, apc, aot, asg, awt⟩ := id M
    have e52 := (F.2 52 (by omega)).trans c0
    have e53 := (F.2 53 (by omega)).trans c1
    have hn := hN.n
    have h6 := hN.t
    have F0 : Fr 73 75 h g := F
    obtain ⟨f1, c73, hf1⟩ := id S1
    obtain ⟨f2, c74, hf2⟩ := id S2
    refine rk_iload_n rfl rfl ?_
    refine rk_aload_n rfl rfl ?_
    refine rk_get rfl (by assumption) rfl ?_
    refine rk_iconst (v := nI 0) rfl (by decide) ?_
    refine rk_iald rfl (by assumption) (rfl) (by omega) (by decide) ?_
    rw [a0]
    refine rk_icmp_ge rfl rfl (fun hc83 => ?_) (fun hc83 => ?_)
    · replace hc83 := (nI_leI (by omega) (by omega)).mp hc83
      have hk2 : k = N 0 := by omega
      subst hk2
      exact rk_return rfl rfl ⟨_, rfl, F, S1, _, c74⟩
    · replace hc83 := mt (nI_leI (by omega) (by omega)).mpr hc83
      refine rk_aload_n rfl rfl ?_
      refine rk_get rfl (by assumption) rfl ?_
      refine rk_iload_n rfl rfl ?_
      refine rk_aload_n rfl rfl ?_
      refine rk_get rfl (by assumption) rfl ?_
      refine rk_iload_n rfl rfl ?_
      refine rk_lald rfl (by assumption) (rfl) (by omega) (by decide) ?_
      rw [hf2 _ (by omega)]
      refine rk_last rfl c73 (rfl) (by omega) (by decide) ?_
      refine hp_gen c73 (fun h1 g1 hk1 hl1 => ?_)
      replace e52 := (hk1 _ (by omega)).trans e52
      replace e53 := (hk1 _ (by omega)).trans e53
      replace c74 := (hk1 _ (by omega)).trans c74
      replace F0 := F0.tr (Fr.mk1 hk1 hl1 (by omega) (by omega))
      replace c73 := g1
      refine rk_iinc rfl rfl (n_inc _) rfl ?_
      refine rk_goto rfl rfl ?_
      refine ih (k + 1) _ _ (by omega) (by omega) F0 ⟨_, c73, fun j hj => ?_⟩ ⟨_, c74, hf2⟩
      simp only [vp_updL]
      by_cases y : j = k
      · rw [if_pos y, y]
      · rw [if_neg y]; exact hf1 j (by omega)
theorem s275 {X : ai_X} {h : ai_H} {v A : Nat → Int32} {N : Nat → Nat} (c0 : h[52]? = some (cMdl v)) (c1 : h[53]? = some (cI 2346 A)) (hN : HN N) (M : MH A N) {t : Nat} {Q : Nat → Nat} (ht : t < N 1) (S73 : AJ h 73 14 (N 0) Q) (S74 : ShJ h 74 14) : Mt X am_275 [.ref 52, .int (nI t)] h (Qv (fun h1 => Fr 73 75 h h1 ∧ AJ h1 73 14 (N 0) (fs N t Q (N 0)) ∧ ShJ h1 74 14)) := by
  obtain ⟨f0, c74⟩ := S74
  refine rk_iconst (v := nI 0) rfl (by decide) ?_
  refine rk_istore_n rfl (Nat.le_of_ble_eq_true rfl) rfl ?_
  refine l275a c0 c1 hN M ht (fun g F1 A1 A2 => ?_) (N 0 + 1) 0 h (by omega) (by omega) Fr.rfl' S73 ⟨f0, c74, fun j hj => absurd hj (by omega)⟩
  refine rk_iconst (v := nI 0) rfl (by decide) ?_
  refine rk_istore_n rfl (Nat.le_of_ble_eq_true rfl) rfl ?_
  refine l275b c0 c1 hN M ht (fun g2 c3 F2 B1 B2 => ?_) (N 0 + 1) 0 g _ (by omega) (by omega) F1 A1 A2
  refine rk_iconst (v := nI 0) rfl (by decide) ?_
  refine rk_istore_n rfl (Nat.le_of_ble_eq_true rfl) rfl ?_
  obtain ⟨f5, c73, -⟩ := B1
  exact l275c c0 c1 hN M ht (N 0 + 1) 0 g2 _ (by omega) (by omega) F2 ⟨f5, c73, fun j hj => absurd hj (by omega)⟩ B2
theorem l276 {X : ai_X} {h : ai_H} {v A rm : Nat → Int32} {nu : Nat → Int64} {N x : Nat → Nat} {i L w c a : Nat} {c4 : Int32} (c0 : h[52]? = some (cMdl v)) (c1 : h[53]? = some (cI 2346 A)) (c78 : h[78]? = some (cI 4 rm)) (c79 : h[79]? = some (cJ 160 nu)) (hN : HN N) (M : MH A N) (hi : i < 4) (hm : rm i = nI L) (hx : ∀ k, k < L → x k < N 1 ∧ nu (40 * i + k) = (nI (x k)).toInt64) (hL : L ≤ 40) (hc : c < N 0) (ha : a < N 0) : ∀ (d : Nat) (k : Nat) (g : ai_H), L < k + d → (k ≤ L) → (Fr 73 75 h g) → (AJ g 73 14 (N 0) (fw2 N x a k)) → (ShJ g 74 14) → Rk X am_276 46 [some (.ref 52), some (.int (nI i)), some (.int (nI w)), some (.int (nI c)), some (.int c4), some (.int (nI k))] [] g (Ql (fun y h1 => y = lI (bk N x c L L a) ∧ Fr 73 75 h h1)) := by
  intro d
  induction d with
  | zero => intro k g hd hk F S1 S2; exfalso; omega
  | succ d ih =>
    intro k g hd hk F S1 S2
    obtain ⟨a0, a1, a268, a269, a270, a271, apl, apc, aot, asg, awt⟩ := id M
    have e52 := (F.2 52 (by omega)).trans c0
    have e53 := (F.2 53 (by omega)).trans c1
    have hn := hN.n
    have h6 := hN.t
    have e78 := (F.2 78 (by omega)).trans c78
    have e79 := (F.2 79 (by omega)).trans c79
    obtain ⟨f1, c73, hf1⟩ := id S1
    refine rk_iload rfl rfl ?_
    refine rk_aload_n rfl rfl ?_
    refine rk_get rfl (by assumption) rfl ?_
    refine rk_iload_n rfl rfl ?_
    refine rk_iald rfl (by assumption) (rfl) (by omega) (by decide) ?_
    rw [hm]
    refine rk_icmp_ge rfl rfl (fun hc51 => ?_) (fun hc51 => ?_)
    · replace hc51 := (nI_leI (by omega) (by omega)).mp hc51
      refine rk_aload_n rfl rfl ?_
      refine rk_get rfl (by assumption) rfl ?_
      refine rk_iload_n rfl rfl ?_
      refine rk_lald rfl (by assumption) (rfl) (by omega) (by decide) ?_
      rw [hf1 _ hc]
      have hk2 : k = L := by omega
      subst hk2
      exact rk_lreturn rfl rfl ⟨_, _, rfl, by rw [fw_bk hN (fun j hj => (hx j hj).1) ha hc], F⟩
    · replace hc51 := mt (nI_leI (by omega) (by omega)).mpr hc51
      refine rk_aload_n rfl rfl ?_
      refine rk_aload_n rfl rfl ?_
      refine rk_iload_n rfl rfl ?_
      refine rk_iload rfl rfl ?_
      refine rk_cv2e rfl rfl (by assumption) rfl rfl (Nat.le_of_ble_eq_true rfl) (Nat.le_of_ble_eq_true rfl) (s222 e52 e79 hi (by omega) (hx k (by omega)).2) ?_
      refine rk_cv1v rfl rfl (by assumption) rfl rfl (Nat.le_of_ble_eq_true rfl) (Nat.le_of_ble_eq_true rfl) (s275 e52 e53 hN M (hx k (by omega)).1 S1 S2) (fun h1 hF => ?_)
      obtain ⟨F3, A3, A4⟩ := hF
      refine rk_iinc rfl rfl (n_inc _) rfl ?_
      refine rk_goto rfl rfl ?_
      exact ih (k + 1) _ (by omega) (by omega) (F.tr F3) A3 A4
theorem m276_x {X : ai_X} {h : ai_H} {v A : Nat → Int32} {N : Nat → Nat} (c0 : h[52]? = some (cMdl v)) (c1 : h[53]? = some (cI 2346 A)) (hN : HN N) (M : MH A N) {a b c : Int32} (ha : ¬ (¬ a < 0 ∧ ¬ nI 4 ≤ a)) : Rk X am_276 3 (ai_loc (ai_mL am_276) [.ref 52, .int a, .int b, .int c]) [] h (Ql (fun y h1 => y = -2 ∧ SM h h1)) := by
  obtain ⟨a0, a1, a268, a269, a270, a271, apl, apc, aot, asg, awt⟩ := id M
  refine rk_iload_n rfl rfl ?_
  refine rk_i2l rfl rfl ?_
  refine rk_lconst (v := 0) rfl (by decide) ?_
  rw [show (0 : Int64) = (0 : Int32).toInt64 by decide]
  refine rk_ldc2 rfl ?_
  rw [show (3 : Int64) = (nI 3).toInt64 by decide]
  refine rk_cs3e rfl rfl rfl (Nat.le_of_ble_eq_true rfl) (Nat.le_of_ble_eq_true rfl) (s181 _ _ _) ?_
  refine rk_if_eq rfl rfl (fun hc8 => ?_) (fun hc8 => ?_)
  · replace hc8 := (bI_0).mp hc8
    refine rk_ldc2 rfl ?_
    exact rk_lreturn rfl rfl ⟨_, _, rfl, by first | rfl | rw [if_neg (by assumption)] | (rw [if_pos rfl, if_neg (by omega)]; decide), SM.rf c0⟩
  · replace hc8 := Decidable.not_not.mp (mt bI_0.mpr hc8)
    exact absurd (in34.mp hc8) ha
theorem m276_y {X : ai_X} {h : ai_H} {v A : Nat → Int32} {N : Nat → Nat} (c0 : h[52]? = some (cMdl v)) (c1 : h[53]? = some (cI 2346 A)) (hN : HN N) (M : MH A N) {i : Nat} {b c : Int32} (hi : i < 4) (hb : ¬ (¬ b < 0 ∧ ¬ nI (N 271) ≤ b)) : Rk X am_276 3 (ai_loc (ai_mL am_276) [.ref 52, .int (nI i), .int b, .int c]) [] h (Ql (fun y h1 => y = -2 ∧ SM h h1)) := by
  obtain ⟨a0, a1, a268, a269, a270, a271, apl, apc, aot, asg, awt⟩ := id M
  refine rk_iload_n rfl rfl ?_
  refine rk_i2l rfl rfl ?_
  refine rk_lconst (v := 0) rfl (by decide) ?_
  rw [show (0 : Int64) = (0 : Int32).toInt64 by decide]
  refine rk_ldc2 rfl ?_
  rw [show (3 : Int64) = (nI 3).toInt64 by decide]
  refine rk_cs3e rfl rfl rfl (Nat.le_of_ble_eq_true rfl) (Nat.le_of_ble_eq_true rfl) (s181 _ _ _) ?_
  refine rk_if_eq rfl rfl (fun hc8 => ?_) (fun hc8 => ?_)
  · replace hc8 := (bI_0).mp hc8
    exact absurd (in3_mk hi) hc8
  · replace hc8 := Decidable.not_not.mp (mt bI_0.mpr hc8)
    refine rk_aload_n rfl rfl ?_
    refine rk_iload_n rfl rfl ?_
    refine rk_cv1e rfl rfl (by assumption) rfl rfl (Nat.le_of_ble_eq_true rfl) (Nat.le_of_ble_eq_true rfl) (s209n c0 c1 a271 (by have := hN.w; omega) _) ?_
    refine rk_if_eq rfl rfl (fun hc12 => ?_) (fun hc12 => ?_)
    · replace hc12 := (bI_0).mp hc12
      refine rk_ldc2 rfl ?_
      exact rk_lreturn rfl rfl ⟨_, _, rfl, by first | rfl | rw [if_neg (by assumption)] | (rw [if_pos rfl, if_neg (by omega)]; decide), SM.rf c0⟩
    · replace hc12 := Decidable.not_not.mp (mt bI_0.mpr hc12)
      exact absurd hc12 hb
theorem m276_z {X : ai_X} {h : ai_H} {v A : Nat → Int32} {N : Nat → Nat} (c0 : h[52]? = some (cMdl v)) (c1 : h[53]? = some (cI 2346 A)) (hN : HN N) (M : MH A N) {i w : Nat} {c : Int32} (hi : i < 4) (hw : w < N 271) (hb : ¬ (¬ c < 0 ∧ ¬ nI (N 0) ≤ c)) : Rk X am_276 3 (ai_loc (ai_mL am_276) [.ref 52, .int (nI i), .int (nI w), .int c]) [] h (Ql (fun y h1 => y = -2 ∧ SM h h1)) := by
  obtain ⟨a0, a1, a268, a269, a270, a271, apl, apc, aot, asg, awt⟩ := id M
  have hw8 := hN.w
  refine rk_iload_n rfl rfl ?_
  refine rk_i2l rfl rfl ?_
  refine rk_lconst (v := 0) rfl (by decide) ?_
  rw [show (0 : Int64) = (0 : Int32).toInt64 by decide]
  refine rk_ldc2 rfl ?_
  rw [show (3 : Int64) = (nI 3).toInt64 by decide]
  refine rk_cs3e rfl rfl rfl (Nat.le_of_ble_eq_true rfl) (Nat.le_of_ble_eq_true rfl) (s181 _ _ _) ?_
  refine rk_if_eq rfl rfl (fun hc8 => ?_) (fun hc8 => ?_)
  · replace hc8 := (bI_0).mp hc8
    exact absurd (in3_mk hi) hc8
  · replace hc8 := Decidable.not_not.mp (mt bI_0.mpr hc8)
    refine rk_aload_n rfl rfl ?_
    refine rk_iload_n rfl rfl ?_
    refine rk_cv1e rfl rfl (by assumption) rfl rfl (Nat.le_of_ble_eq_true rfl) (Nat.le_of_ble_eq_true rfl) (s209n c0 c1 a271 (by have := hN.w; omega) _) ?_
    refine rk_if_eq rfl rfl (fun hc12 => ?_) (fun hc12 => ?_)
    · replace hc12 := (bI_0).mp hc12
      exact absurd (in_mk (by omega) hw) hc12
    · replace hc12 := Decidable.not_not.mp (mt bI_0.mpr hc12)
      refine rk_aload_n rfl rfl ?_
      refine rk_iload_n rfl rfl ?_
      refine rk_cv1e rfl rfl (by assumption) rfl rfl (Nat.le_of_ble_eq_true rfl) (Nat.le_of_ble_eq_true rfl) (s207n c0 c1 a0 (by have := hN.n; omega) _) ?_
      refine rk_if_ne rfl rfl (fun hc16 => ?_) (fun hc16 => ?_)
      · replace hc16 := Decidable.not_not.mp (mt bI_0.mpr hc16)
        exact absurd hc16 hb
      · replace hc16 := Decidable.not_not.mp hc16
        replace hc16 := (bI_0).mp hc16
        refine rk_ldc2 rfl ?_
        exact rk_lreturn rfl rfl ⟨_, _, rfl, by first | rfl | rw [if_neg (by assumption)] | (rw [if_pos rfl, if_neg (by omega)]; decide), SM.rf c0⟩
theorem m276_v {X : ai_X} {h : ai_H} {v A : Nat → Int32} {N : Nat → Nat} (c0 : h[52]? = some (cMdl v)) (c1 : h[53]? = some (cI 2346 A)) (hN : HN N) (M : MH A N) {i L : Nat} {code : Int32} {x : Nat → Nat} (hi : i < 4) (R : MRow h i (N 1) code L x) {w c : Nat} (hw : w < N 271) (hr : c < N 0) (S73 : ShJ h 73 14) (S74 : ShJ h 74 14) : Rk X am_276 3 (ai_loc (ai_mL am_276) [.ref 52, .int (nI i), .int (nI w), .int (nI c)]) [] h (Ql (fun y h1 => y = (if code = 0 then (if L ≤ 8 then lI (bk N x c L L (wt N w)) else -3) else code.toInt64) ∧ SM h h1)) := by
  obtain ⟨a0, a1, a268, a269, a270, a271, apl, apc, aot, asg, awt⟩ := id M
  have hn := hN.n
  have hw8 := hN.w
  refine rk_iload_n rfl rfl ?_
  refine rk_i2l rfl rfl ?_
  refine rk_lconst (v := 0) rfl (by decide) ?_
  rw [show (0 : Int64) = (0 : Int32).toInt64 by decide]
  refine rk_ldc2 rfl ?_
  rw [show (3 : Int64) = (nI 3).toInt64 by decide]
  refine rk_cs3e rfl rfl rfl (Nat.le_of_ble_eq_true rfl) (Nat.le_of_ble_eq_true rfl) (s181 _ _ _) ?_
  refine rk_if_eq rfl rfl (fun hc8 => ?_) (fun hc8 => ?_)
  · replace hc8 := (bI_0).mp hc8
    exact absurd (in3_mk hi) hc8
  · replace hc8 := Decidable.not_not.mp (mt bI_0.mpr hc8)
    refine rk_aload_n rfl rfl ?_
    refine rk_iload_n rfl rfl ?_
    refine rk_cv1e rfl rfl (by assumption) rfl rfl (Nat.le_of_ble_eq_true rfl) (Nat.le_of_ble_eq_true rfl) (s209n c0 c1 a271 (by have := hN.w; omega) _) ?_
    refine rk_if_eq rfl rfl (fun hc12 => ?_) (fun hc12 => ?_)
    · replace hc12 := (bI_0).mp hc12
      exact absurd (in_mk (by omega) hw) hc12
    · replace hc12 := Decidable.not_not.mp (mt bI_0.mpr hc12)
      refine rk_aload_n rfl rfl ?_
      refine rk_iload_n rfl rfl ?_
      refine rk_cv1e rfl rfl (by assumption) rfl rfl (Nat.le_of_ble_eq_true rfl) (Nat.le_of_ble_eq_true rfl) (s207n c0 c1 a0 (by have := hN.n; omega) _) ?_
      refine rk_if_ne rfl rfl (fun hc16 => ?_) (fun hc16 => ?_)
      · replace hc16 := Decidable.not_not.mp (mt bI_0.mpr hc16)
        refine rk_aload_n rfl rfl ?_
        refine rk_iload_n rfl rfl ?_
        refine rk_cv1e rfl rfl (by assumption) rfl rfl (Nat.le_of_ble_eq_true rfl) (Nat.le_of_ble_eq_true rfl) (s221 c0 c1 a1 hN.t hi R) ?_
        refine rk_istore rfl (Nat.le_of_ble_eq_true rfl) rfl ?_
        refine rk_iload rfl rfl ?_
        refine rk_if_eq rfl rfl (fun hc24 => ?_) (fun hc24 => ?_)
        · subst hc24
          obtain ⟨rm, nu, c3, c4, hm, hL, hx⟩ := R.good
          refine rk_aload_n rfl rfl ?_
          refine rk_get rfl (by assumption) rfl ?_
          refine rk_iload_n rfl rfl ?_
          refine rk_iald rfl (by assumption) (rfl) (by omega) (by decide) ?_
          rw [hm]
          refine rk_bipush (v := nI 8) rfl (by decide) ?_
          refine rk_icmp_le rfl rfl (fun hc33 => ?_) (fun hc33 => ?_)
          · replace hc33 := (nI_leI (by omega) (by omega)).mp hc33
            refine rk_aload_n rfl rfl ?_
            refine rk_aload_n rfl rfl ?_
            refine rk_get rfl (by assumption) rfl ?_
            refine rk_sipush (v := nI 272) rfl (by decide) ?_
            refine rk_iload_n rfl rfl ?_
            refine rk_iadd rfl (nI_add _ _) ?_
            refine rk_iald rfl (by assumption) (rfl) (by omega) (by decide) ?_
            rw [awt w hw]
            refine rk_cv1v rfl rfl (by assumption) rfl rfl (Nat.le_of_ble_eq_true rfl) (Nat.le_of_ble_eq_true rfl) (s274 c0 c1 hN M (hN.xwt hw) S73) (fun h1 hF => ?_)
            obtain ⟨F3, A3⟩ := hF
            refine rk_iconst (v := nI 0) rfl (by decide) ?_
            refine rk_istore rfl (Nat.le_of_ble_eq_true rfl) rfl ?_
            obtain ⟨f4, c74⟩ := S74
            refine (l276 c0 c1 c3 c4 hN M hi hm hx hL hr (hN.xwt hw) (L + 1) 0 _ (by omega) (by omega) (F3.mono (by omega) (by omega)) A3 ⟨f4, (F3.2 74 (by omega)).trans c74⟩).mono ?_
            rintro o ⟨y, h2, rfl, rfl, F4⟩
            exact ⟨_, _, rfl, by rw [if_pos rfl, if_pos (by omega)], SM.of73 c0 F4⟩
          · replace hc33 := mt (nI_leI (by omega) (by omega)).mpr hc33
            refine rk_ldc2 rfl ?_
            exact rk_lreturn rfl rfl ⟨_, _, rfl, by first | rfl | rw [if_neg (by assumption)] | (rw [if_pos rfl, if_neg (by omega)]; decide), SM.rf c0⟩
        · refine rk_iload rfl rfl ?_
          refine rk_i2l rfl rfl ?_
          exact rk_lreturn rfl rfl ⟨_, _, rfl, by first | rfl | rw [if_neg (by assumption)] | (rw [if_pos rfl, if_neg (by omega)]; decide), SM.rf c0⟩
      · replace hc16 := Decidable.not_not.mp hc16
        replace hc16 := (bI_0).mp hc16
        exact absurd (in_mk (by omega) hr) hc16
theorem Inv.s734 {m c s : Nat} {h : ai_H} (I : Inv m c s h) : ShJ h 73 14 ∧ ShJ h 74 14 ∧ ShI h 75 4 := by
  obtain ⟨tp, T, A, im, rs, rm, nu, fk, fp, b, hA, hB, hR, hI, hS, hO, ⟨-, a1, a2, a3, a4, a5, a6, s1, s2, s3, s4, s5, s6, s7, s8, s9, s10, s11, s12, s13, s14, s15, s16, s17, s18, s19, s20⟩, -⟩ := I
  exact ⟨s17, s18, s19⟩
theorem ob35 (X : ai_X) : O35 X Inv := by
  intro a b c
  refine obL_scr fun m c' s h I => ?_
  obtain ⟨S73, S74, S75⟩ := I.s734
  obtain ⟨tp, v, A, N, ro, d0, d52, d53, hN, C, M, d19, hro, Q, RR, O⟩ := I.dat
  by_cases ha : ¬ a < 0 ∧ ¬ nI 4 ≤ a
  · obtain ⟨i, hi, rfl⟩ := in_of (by omega) ha
    obtain ⟨code, L, x, RC, RM⟩ := RR i hi
    by_cases hb : ¬ b < 0 ∧ ¬ nI (N 271) ≤ b
    · have hww := hN.w
      obtain ⟨w, hw, rfl⟩ := in_of (by omega) hb
      by_cases hc : ¬ c < 0 ∧ ¬ nI (N 0) ≤ c
      · have hn := hN.n
        obtain ⟨r, hr, rfl⟩ := in_of (by omega) hc
        exact ⟨_, c168_v d0 hN C d19 hro Q O hi RC hw hr, fun h1 S => md_sc2L rfl rfl rfl rfl ((S.m (by omega)).trans d52) (fun h2 g2 hk => m276_v g2 ((S.m2 hk (by omega) (by omega)).trans d53) hN M hi (RM.m2 S hk) hw hr (S73.fr (S.m2 hk (by omega) (by omega))) (S74.fr (S.m2 hk (by omega) (by omega))))⟩
      · exact ⟨_, c168_z d0 hN C d19 hro Q O hi hw hc, fun h1 S => md_sc2L rfl rfl rfl rfl ((S.m (by omega)).trans d52) (fun h2 g2 hk => m276_z g2 ((S.m2 hk (by omega) (by omega)).trans d53) hN M hi hw hc)⟩
    · exact ⟨_, c168_y d0 hN C d19 hro Q O hi hb, fun h1 S => md_sc2L rfl rfl rfl rfl ((S.m (by omega)).trans d52) (fun h2 g2 hk => m276_y g2 ((S.m2 hk (by omega) (by omega)).trans d53) hN M hi hb)⟩
  · exact ⟨_, c168_x d0 hN C d19 hro Q O ha, fun h1 S => md_sc2L rfl rfl rfl rfl ((S.m (by omega)).trans d52) (fun h2 g2 hk => m276_x g2 ((S.m2 hk (by omega) (by omega)).trans d53) hN M ha)⟩
