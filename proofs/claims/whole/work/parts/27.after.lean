/-! OBLIGATIONS after, kernel, reach -/
def aft (N x : Nat → Nat) (s : Nat) : Nat → Nat
  | 0 => s
  | k + 1 => img N (aft N x s k) (x k)
theorem aft_lt {N x : Nat → Nat} {s : Nat} (hN : HN N) (hs : s < 2 ^ N 0) : ∀ k, (∀ j, j < k → x j < N 1) → aft N x s k < 2 ^ N 0
  | 0, _ => hs
  | k + 1, hx => img_lt hN (hx k (by omega))
def ker (N x : Nat → Nat) (L r : Nat) : Nat → Nat
  | 0 => 0
  | k + 1 => if bh N x k L = bh N x r L then ker N x L r k ||| 2 ^ k else ker N x L r k
theorem ker_t {N x : Nat → Nat} {L r k : Nat} (h : bh N x k L = bh N x r L) : ker N x L r (k + 1) = ker N x L r k ||| 2 ^ k := by rw [ker, if_pos h]
theorem ker_f {N x : Nat → Nat} {L r k : Nat} (h : ¬ bh N x k L = bh N x r L) : ker N x L r (k + 1) = ker N x L r k := by rw [ker, if_neg h]
theorem l142 {X : ai_X} {h : ai_H} {tp : Int32} {i s L : Nat} {c3 : Int32} {N x : Nat → Nat} (d0 : h[0]? = some (cOne tp)) (hN : HN N) (C : CH h 3 N) (R : RtAt h 17 L x) (hx : ∀ j, j < L → x j < N 1) (hL : L ≤ 40) (hs : s < 2 ^ N 0) : ∀ (d : Nat) (j : Nat), L < j + d → (j ≤ L) → Rk X am_142 25 [some (.ref 0), some (.int (nI i)), some (.int (nI s)), some (.int c3), some (.int (nI (aft N x s j))), some (.int (nI j))] [] h (Qe (nI (aft N x s L)) h) := by
  intro d
  induction d with
  | zero => intro j hd hj; exfalso; omega
  | succ d ih =>
    intro j hd hj
    have d3 := C.1
    obtain ⟨f, R0, R1⟩ := id R
    have d17 := R0.1
    have ha := aft_lt (x := x) hN hs j (fun i hi => hx i (by omega))
    have hp := hN.p14
    refine rk_iload rfl rfl ?_
    refine rk_aload_n rfl rfl ?_
    refine rk_get rfl (by assumption) rfl ?_
    refine rk_get rfl (by assumption) rfl ?_
    refine rk_icmp_ge rfl rfl (fun hc29 => ?_) (fun hc29 => ?_)
    · replace hc29 := (nI_leI (by omega) (by omega)).mp hc29
      refine rk_iload rfl rfl ?_
      exact rk_ireturn rfl rfl (Qe_of (by rw [show j = L by omega]))
    · replace hc29 := mt (nI_leI (by omega) (by omega)).mpr hc29
      refine rk_aload_n rfl rfl ?_
      refine rk_get rfl (by assumption) rfl ?_
      refine rk_iload rfl rfl ?_
      refine rk_aload_n rfl rfl ?_
      refine rk_get rfl (by assumption) rfl ?_
      refine rk_iload rfl rfl ?_
      refine rk_cv1e rfl rfl (by assumption) rfl rfl (Nat.le_of_ble_eq_true rfl) (Nat.le_of_ble_eq_true rfl) (s90N R (by omega) (by omega)) ?_
      refine rk_cv2e rfl rfl (by assumption) rfl rfl (Nat.le_of_ble_eq_true rfl) (Nat.le_of_ble_eq_true rfl) (s38 hN C (by omega) (hx j (by omega))) ?_
      refine rk_istore rfl (Nat.le_of_ble_eq_true rfl) rfl ?_
      refine rk_iinc rfl rfl (n_inc _) rfl ?_
      refine rk_goto rfl rfl ?_
      exact ih (j + 1) (by omega) (by omega)
theorem c142_x {X : ai_X} {h : ai_H} {tp : Int32} {ro : Nat → Option Nat} {N : Nat → Nat} (d0 : h[0]? = some (cOne tp)) (hN : HN N) (C : CH h 3 N) (d19 : h[19]? = some (cR 3 4 ro)) (hro : ∀ i, i < 4 → ro i = some (44 + 2 * i)) (Q : ∃ n f, RouteAt h 17 n f) (O : InvO h) {a b : Int32} (ha : ¬ (¬ a < 0 ∧ ¬ nI 4 ≤ a)) : Mt X am_142 [.ref 0, .int a, .int b] h (Qi (fun y h1 => y = -2 ∧ SC h h1)) := by
  have d3 := C.1
  refine rk_aload_n rfl rfl ?_
  refine rk_iload_n rfl rfl ?_
  refine rk_cv1e rfl rfl (by assumption) rfl rfl (Nat.le_of_ble_eq_true rfl) (Nat.le_of_ble_eq_true rfl) (s179 _) ?_
  refine rk_if_ne rfl rfl (fun hc3 => ?_) (fun hc3 => ?_)
  · replace hc3 := Decidable.not_not.mp (mt bI_0.mpr hc3)
    exact absurd hc3 ha
  · replace hc3 := Decidable.not_not.mp hc3
    replace hc3 := (bI_0).mp hc3
    refine rk_bipush (v := (-2)) rfl (by decide) ?_
    exact rk_ireturn rfl rfl ⟨_, _, rfl, rfl, SC.rfl' Q O⟩
theorem c142_o {X : ai_X} {h : ai_H} {tp : Int32} {ro : Nat → Option Nat} {N : Nat → Nat} (d0 : h[0]? = some (cOne tp)) (hN : HN N) (C : CH h 3 N) (d19 : h[19]? = some (cR 3 4 ro)) (hro : ∀ i, i < 4 → ro i = some (44 + 2 * i)) (Q : ∃ n f, RouteAt h 17 n f) (O : InvO h) {i L : Nat} {code : Int32} {x : Nat → Nat} (hi : i < 4) (R : CRow h i (N 1) code L x) {b : Int32} (hb : ¬ IsSet N b) : Mt X am_142 [.ref 0, .int (nI i), .int b] h (Qi (fun y h1 => y = (if code = 0 then -3 else code) ∧ SC h h1)) := by
  have d3 := C.1
  refine rk_aload_n rfl rfl ?_
  refine rk_iload_n rfl rfl ?_
  refine rk_cv1e rfl rfl (by assumption) rfl rfl (Nat.le_of_ble_eq_true rfl) (Nat.le_of_ble_eq_true rfl) (s179 _) ?_
  refine rk_if_ne rfl rfl (fun hc3 => ?_) (fun hc3 => ?_)
  · replace hc3 := Decidable.not_not.mp (mt bI_0.mpr hc3)
    refine rk_aload_n rfl rfl ?_
    refine rk_iload_n rfl rfl ?_
    refine rk_cv1i rfl rfl (by assumption) rfl rfl (Nat.le_of_ble_eq_true rfl) (Nat.le_of_ble_eq_true rfl) (s180 d0 d19 hro hi C rfl Q R) (fun w h1 hF => ?_)
    obtain ⟨rfl, F1, Q1, R1⟩ := hF
    have e0 := (F1.2 0 (by omega)).trans d0
    have C1 := C.fr2 F1 (by omega)
    have e3 := C1.1
    refine rk_istore_n rfl (Nat.le_of_ble_eq_true rfl) rfl ?_
    refine rk_iload_n rfl rfl ?_
    refine rk_if_eq rfl rfl (fun hc11 => ?_) (fun hc11 => ?_)
    · subst hc11
      have R2 := R1 rfl
      obtain ⟨hL, hx⟩ := R.x
      have e17 := R2.choose_spec.1.1
      refine rk_aload_n rfl rfl ?_
      refine rk_get rfl (by assumption) rfl ?_
      refine rk_iload_n rfl rfl ?_
      refine rk_cv1e rfl rfl (by assumption) rfl rfl (Nat.le_of_ble_eq_true rfl) (Nat.le_of_ble_eq_true rfl) (s26N hN C1 _) ?_
      refine rk_if_ne rfl rfl (fun hc18 => ?_) (fun hc18 => ?_)
      · replace hc18 := Decidable.not_not.mp (mt bI_0.mpr hc18)
        exact absurd hc18 hb
      · replace hc18 := Decidable.not_not.mp hc18
        replace hc18 := (bI_0).mp hc18
        refine rk_bipush (v := (-3)) rfl (by decide) ?_
        exact rk_ireturn rfl rfl ⟨_, _, rfl, by first | rw [if_neg (by assumption)] | rw [if_pos rfl], SC.of17 F1 Q1 O⟩
    · refine rk_iload_n rfl rfl ?_
      exact rk_ireturn rfl rfl ⟨_, _, rfl, by first | rw [if_neg (by assumption)] | rw [if_pos rfl], SC.of17 F1 Q1 O⟩
  · replace hc3 := Decidable.not_not.mp hc3
    replace hc3 := (bI_0).mp hc3
    exact absurd (in_mk (by omega) hi) hc3
theorem c142_v {X : ai_X} {h : ai_H} {tp : Int32} {ro : Nat → Option Nat} {N : Nat → Nat} (d0 : h[0]? = some (cOne tp)) (hN : HN N) (C : CH h 3 N) (d19 : h[19]? = some (cR 3 4 ro)) (hro : ∀ i, i < 4 → ro i = some (44 + 2 * i)) (Q : ∃ n f, RouteAt h 17 n f) (O : InvO h) {i L : Nat} {code : Int32} {x : Nat → Nat} (hi : i < 4) (R : CRow h i (N 1) code L x) {s : Nat} (h0 : 0 < s) (hs : s < 2 ^ N 0) : Mt X am_142 [.ref 0, .int (nI i), .int (nI s)] h (Qi (fun y h1 => y = (if code = 0 then nI (aft N x s L) else code) ∧ SC h h1)) := by
  have d3 := C.1
  refine rk_aload_n rfl rfl ?_
  refine rk_iload_n rfl rfl ?_
  refine rk_cv1e rfl rfl (by assumption) rfl rfl (Nat.le_of_ble_eq_true rfl) (Nat.le_of_ble_eq_true rfl) (s179 _) ?_
  refine rk_if_ne rfl rfl (fun hc3 => ?_) (fun hc3 => ?_)
  · replace hc3 := Decidable.not_not.mp (mt bI_0.mpr hc3)
    refine rk_aload_n rfl rfl ?_
    refine rk_iload_n rfl rfl ?_
    refine rk_cv1i rfl rfl (by assumption) rfl rfl (Nat.le_of_ble_eq_true rfl) (Nat.le_of_ble_eq_true rfl) (s180 d0 d19 hro hi C rfl Q R) (fun w h1 hF => ?_)
    obtain ⟨rfl, F1, Q1, R1⟩ := hF
    have e0 := (F1.2 0 (by omega)).trans d0
    have C1 := C.fr2 F1 (by omega)
    have e3 := C1.1
    refine rk_istore_n rfl (Nat.le_of_ble_eq_true rfl) rfl ?_
    refine rk_iload_n rfl rfl ?_
    refine rk_if_eq rfl rfl (fun hc11 => ?_) (fun hc11 => ?_)
    · subst hc11
      have R2 := R1 rfl
      obtain ⟨hL, hx⟩ := R.x
      have e17 := R2.choose_spec.1.1
      refine rk_aload_n rfl rfl ?_
      refine rk_get rfl (by assumption) rfl ?_
      refine rk_iload_n rfl rfl ?_
      refine rk_cv1e rfl rfl (by assumption) rfl rfl (Nat.le_of_ble_eq_true rfl) (Nat.le_of_ble_eq_true rfl) (s26N hN C1 _) ?_
      refine rk_if_ne rfl rfl (fun hc18 => ?_) (fun hc18 => ?_)
      · replace hc18 := Decidable.not_not.mp (mt bI_0.mpr hc18)
        refine rk_iload_n rfl rfl ?_
        refine rk_istore rfl (Nat.le_of_ble_eq_true rfl) rfl ?_
        refine rk_iconst (v := nI 0) rfl (by decide) ?_
        refine rk_istore rfl (Nat.le_of_ble_eq_true rfl) rfl ?_
        refine (l142 e0 hN C1 R2 hx hL hs (L + 1) 0 (by omega) (by omega)).mono ?_
        rintro o ⟨w, h2, rfl, rfl, rfl⟩
        exact ⟨_, _, rfl, by first | rfl | rw [if_pos rfl], SC.of17 F1 Q1 O⟩
      · replace hc18 := Decidable.not_not.mp hc18
        replace hc18 := (bI_0).mp hc18
        exact absurd (isSet_mk hN h0 hs) hc18
    · refine rk_iload_n rfl rfl ?_
      exact rk_ireturn rfl rfl ⟨_, _, rfl, by first | rw [if_neg (by assumption)] | rw [if_pos rfl], SC.of17 F1 Q1 O⟩
  · replace hc3 := Decidable.not_not.mp hc3
    replace hc3 := (bI_0).mp hc3
    exact absurd (in_mk (by omega) hi) hc3
theorem l230 {X : ai_X} {h : ai_H} {v A rm : Nat → Int32} {nu : Nat → Int64} {i L s : Nat} {c3 : Int32} {N x : Nat → Nat} (c0 : h[52]? = some (cMdl v)) (c1 : h[53]? = some (cI 2346 A)) (c78 : h[78]? = some (cI 4 rm)) (c4 : h[79]? = some (cJ 160 nu)) (hN : HN N) (M : MH A N) (hi : i < 4) (hm : rm i = nI L) (hx : ∀ k, k < L → x k < N 1 ∧ nu (40 * i + k) = (nI (x k)).toInt64) (hL : L ≤ 40) (hs : s < 2 ^ N 0) : ∀ (d : Nat) (j : Nat), L < j + d → (j ≤ L) → Rk X am_230 29 [some (.ref 52), some (.int (nI i)), some (.int (nI s)), some (.int c3), some (.int (nI (aft N x s j))), some (.int (nI j))] [] h (Qe (nI (aft N x s L)) h) := by
  intro d
  induction d with
  | zero => intro j hd hj; exfalso; omega
  | succ d ih =>
    intro j hd hj
    have ha := aft_lt (x := x) hN hs j (fun i hi => (hx i (by omega)).1)
    have hp := hN.p14
    refine rk_iload rfl rfl ?_
    refine rk_aload_n rfl rfl ?_
    refine rk_get rfl (by assumption) rfl ?_
    refine rk_iload_n rfl rfl ?_
    refine rk_iald rfl (by assumption) (rfl) (by omega) (by decide) ?_
    rw [hm]
    refine rk_icmp_ge rfl rfl (fun hc34 => ?_) (fun hc34 => ?_)
    · replace hc34 := (nI_leI (by omega) (by omega)).mp hc34
      refine rk_iload rfl rfl ?_
      exact rk_ireturn rfl rfl (Qe_of (by rw [show j = L by omega]))
    · replace hc34 := mt (nI_leI (by omega) (by omega)).mpr hc34
      refine rk_aload_n rfl rfl ?_
      refine rk_iload rfl rfl ?_
      refine rk_aload_n rfl rfl ?_
      refine rk_iload_n rfl rfl ?_
      refine rk_iload rfl rfl ?_
      refine rk_cv2e rfl rfl (by assumption) rfl rfl (Nat.le_of_ble_eq_true rfl) (Nat.le_of_ble_eq_true rfl) (s222 c0 c4 hi (by omega) (hx j (by omega)).2) ?_
      refine rk_cv2e rfl rfl (by assumption) rfl rfl (Nat.le_of_ble_eq_true rfl) (Nat.le_of_ble_eq_true rfl) (s211 c0 c1 hN M (by omega) (hx j (by omega)).1) ?_
      refine rk_istore rfl (Nat.le_of_ble_eq_true rfl) rfl ?_
      refine rk_iinc rfl rfl (n_inc _) rfl ?_
      refine rk_goto rfl rfl ?_
      exact ih (j + 1) (by omega) (by omega)
theorem m230_x {X : ai_X} {h : ai_H} {v A : Nat → Int32} {N : Nat → Nat} (c0 : h[52]? = some (cMdl v)) (c1 : h[53]? = some (cI 2346 A)) (hN : HN N) (M : MH A N) {a b : Int32} (ha : ¬ (¬ a < 0 ∧ ¬ nI 4 ≤ a)) : Rk X am_230 3 (ai_loc (ai_mL am_230) [.ref 52, .int a, .int b]) [] h (Qe (-2) h) := by
  obtain ⟨a0, a1, a268, a269, a270, a271, apl, apc, aot, asg, awt⟩ := id M
  refine rk_iload_n rfl rfl ?_
  refine rk_i2l rfl rfl ?_
  refine rk_lconst (v := 0) rfl (by decide) ?_
  rw [show (0 : Int64) = (0 : Int32).toInt64 by decide]
  refine rk_ldc2 rfl ?_
  rw [show (3 : Int64) = (nI 3).toInt64 by decide]
  refine rk_cs3e rfl rfl rfl (Nat.le_of_ble_eq_true rfl) (Nat.le_of_ble_eq_true rfl) (s181 _ _ _) ?_
  refine rk_if_ne rfl rfl (fun hc8 => ?_) (fun hc8 => ?_)
  · replace hc8 := Decidable.not_not.mp (mt bI_0.mpr hc8)
    exact absurd (in34.mp hc8) ha
  · replace hc8 := Decidable.not_not.mp hc8
    replace hc8 := (bI_0).mp hc8
    refine rk_bipush (v := (-2)) rfl (by decide) ?_
    exact rk_ireturn rfl rfl (Qe_of (by first | rfl | rw [if_neg (by assumption)] | rw [if_pos rfl]))
theorem m230_o {X : ai_X} {h : ai_H} {v A : Nat → Int32} {N : Nat → Nat} (c0 : h[52]? = some (cMdl v)) (c1 : h[53]? = some (cI 2346 A)) (hN : HN N) (M : MH A N) {i L : Nat} {code : Int32} {x : Nat → Nat} (hi : i < 4) (R : MRow h i (N 1) code L x) {b : Int32} (hb : ¬ IsSet N b) : Rk X am_230 3 (ai_loc (ai_mL am_230) [.ref 52, .int (nI i), .int b]) [] h (Qe (if code = 0 then -3 else code) h) := by
  obtain ⟨a0, a1, a268, a269, a270, a271, apl, apc, aot, asg, awt⟩ := id M
  refine rk_iload_n rfl rfl ?_
  refine rk_i2l rfl rfl ?_
  refine rk_lconst (v := 0) rfl (by decide) ?_
  rw [show (0 : Int64) = (0 : Int32).toInt64 by decide]
  refine rk_ldc2 rfl ?_
  rw [show (3 : Int64) = (nI 3).toInt64 by decide]
  refine rk_cs3e rfl rfl rfl (Nat.le_of_ble_eq_true rfl) (Nat.le_of_ble_eq_true rfl) (s181 _ _ _) ?_
  refine rk_if_ne rfl rfl (fun hc8 => ?_) (fun hc8 => ?_)
  · replace hc8 := Decidable.not_not.mp (mt bI_0.mpr hc8)
    refine rk_aload_n rfl rfl ?_
    refine rk_iload_n rfl rfl ?_
    refine rk_cv1e rfl rfl (by assumption) rfl rfl (Nat.le_of_ble_eq_true rfl) (Nat.le_of_ble_eq_true rfl) (s221 c0 c1 a1 hN.t hi R) ?_
    refine rk_istore_n rfl (Nat.le_of_ble_eq_true rfl) rfl ?_
    refine rk_iload_n rfl rfl ?_
    refine rk_if_eq rfl rfl (fun hc16 => ?_) (fun hc16 => ?_)
    · subst hc16
      obtain ⟨rm, nu, c3, c4, hm, hL, hx⟩ := R.good
      refine rk_aload_n rfl rfl ?_
      refine rk_iload_n rfl rfl ?_
      refine rk_cv1e rfl rfl (by assumption) rfl rfl (Nat.le_of_ble_eq_true rfl) (Nat.le_of_ble_eq_true rfl) (s208N c0 c1 hN M _) ?_
      refine rk_if_ne rfl rfl (fun hc22 => ?_) (fun hc22 => ?_)
      · replace hc22 := Decidable.not_not.mp (mt bI_0.mpr hc22)
        exact absurd hc22 hb
      · replace hc22 := Decidable.not_not.mp hc22
        replace hc22 := (bI_0).mp hc22
        refine rk_bipush (v := (-3)) rfl (by decide) ?_
        exact rk_ireturn rfl rfl (Qe_of (by first | rfl | rw [if_neg (by assumption)] | rw [if_pos rfl]))
    · refine rk_iload_n rfl rfl ?_
      exact rk_ireturn rfl rfl (Qe_of (by first | rfl | rw [if_neg (by assumption)] | rw [if_pos rfl]))
  · replace hc8 := Decidable.not_not.mp hc8
    replace hc8 := (bI_0).mp hc8
    exact absurd (in3_mk hi) hc8
theorem m230_v {X : ai_X} {h : ai_H} {v A : Nat → Int32} {N : Nat → Nat} (c0 : h[52]? = some (cMdl v)) (c1 : h[53]? = some (cI 2346 A)) (hN : HN N) (M : MH A N) {i L : Nat} {code : Int32} {x : Nat → Nat} (hi : i < 4) (R : MRow h i (N 1) code L x) {s : Nat} (h0 : 0 < s) (hs : s < 2 ^ N 0) : Rk X am_230 3 (ai_loc (ai_mL am_230) [.ref 52, .int (nI i), .int (nI s)]) [] h (Qe (if code = 0 then nI (aft N x s L) else code) h) := by
  obtain ⟨a0, a1, a268, a269, a270, a271, apl, apc, aot, asg, awt⟩ := id M
  refine rk_iload_n rfl rfl ?_
  refine rk_i2l rfl rfl ?_
  refine rk_lconst (v := 0) rfl (by decide) ?_
  rw [show (0 : Int64) = (0 : Int32).toInt64 by decide]
  refine rk_ldc2 rfl ?_
  rw [show (3 : Int64) = (nI 3).toInt64 by decide]
  refine rk_cs3e rfl rfl rfl (Nat.le_of_ble_eq_true rfl) (Nat.le_of_ble_eq_true rfl) (s181 _ _ _) ?_
  refine rk_if_ne rfl rfl (fun hc8 => ?_) (fun hc8 => ?_)
  · replace hc8 := Decidable.not_not.mp (mt bI_0.mpr hc8)
    refine rk_aload_n rfl rfl ?_
    refine rk_iload_n rfl rfl ?_
    refine rk_cv1e rfl rfl (by assumption) rfl rfl (Nat.le_of_ble_eq_true rfl) (Nat.le_of_ble_eq_true rfl) (s221 c0 c1 a1 hN.t hi R) ?_
    refine rk_istore_n rfl (Nat.le_of_ble_eq_true rfl) rfl ?_
    refine rk_iload_n rfl rfl ?_
    refine rk_if_eq rfl rfl (fun hc16 => ?_) (fun hc16 => ?_)
    · subst hc16
      obtain ⟨rm, nu, c3, c4, hm, hL, hx⟩ := R.good
      rw [if_pos rfl]
      refine rk_aload_n rfl rfl ?_
      refine rk_iload_n rfl rfl ?_
      refine rk_cv1e rfl rfl (by assumption) rfl rfl (Nat.le_of_ble_eq_true rfl) (Nat.le_of_ble_eq_true rfl) (s208N c0 c1 hN M _) ?_
      refine rk_if_ne rfl rfl (fun hc22 => ?_) (fun hc22 => ?_)
      · replace hc22 := Decidable.not_not.mp (mt bI_0.mpr hc22)
        refine rk_iload_n rfl rfl ?_
        refine rk_istore rfl (Nat.le_of_ble_eq_true rfl) rfl ?_
        refine rk_iconst (v := nI 0) rfl (by decide) ?_
        refine rk_istore rfl (Nat.le_of_ble_eq_true rfl) rfl ?_
        exact l230 c0 c1 c3 c4 hN M hi hm hx hL hs (L + 1) 0 (by omega) (by omega)
      · replace hc22 := Decidable.not_not.mp hc22
        replace hc22 := (bI_0).mp hc22
        exact absurd (isSet_mk hN h0 hs) hc22
    · refine rk_iload_n rfl rfl ?_
      exact rk_ireturn rfl rfl (Qe_of (by first | rfl | rw [if_neg (by assumption)] | rw [if_pos rfl]))
  · replace hc8 := Decidable.not_not.mp hc8
    replace hc8 := (bI_0).mp hc8
    exact absurd (in3_mk hi) hc8
theorem ob12 (X : ai_X) : O12 X Inv := by
  intro a b
  refine ob_scr fun m c' s h I => ?_
  obtain ⟨tp, v, A, N, ro, d0, d52, d53, hN, C, M, d19, hro, Q, RR, O⟩ := I.dat
  by_cases ha : ¬ a < 0 ∧ ¬ nI 4 ≤ a
  · obtain ⟨i, hi, rfl⟩ := in_of (by omega) ha
    obtain ⟨code, L, x, RC, RM⟩ := RR i hi
    by_cases hb : IsSet N b
    · obtain ⟨s, h0, hs, rfl⟩ := isSet_of hN hb
      exact ⟨_, c142_v d0 hN C d19 hro Q O hi RC h0 hs, fun h1 S => md_scr rfl rfl rfl rfl ((S.m (by omega)).trans d52) (fun h2 g2 hk => m230_v g2 ((S.m2 hk (by omega) (by omega)).trans d53) hN M hi (RM.m2 S hk) h0 hs)⟩
    · exact ⟨_, c142_o d0 hN C d19 hro Q O hi RC hb, fun h1 S => md_scr rfl rfl rfl rfl ((S.m (by omega)).trans d52) (fun h2 g2 hk => m230_o g2 ((S.m2 hk (by omega) (by omega)).trans d53) hN M hi (RM.m2 S hk) hb)⟩
  · exact ⟨_, c142_x d0 hN C d19 hro Q O ha, fun h1 S => md_scr rfl rfl rfl rfl ((S.m (by omega)).trans d52) (fun h2 g2 hk => m230_x g2 ((S.m2 hk (by omega) (by omega)).trans d53) hN M ha)⟩
theorem l153 {X : ai_X} {h : ai_H} {tp : Int32} {i r L : Nat} {c3 : Int32} {N x : Nat → Nat} (d0 : h[0]? = some (cOne tp)) (hN : HN N) (C : CH h 3 N) (R : RtAt h 17 L x) (hx : ∀ j, j < L → x j < N 1) (hL : L ≤ 40) (hr : r < N 0) : ∀ (d : Nat) (j : Nat), N 0 < j + d → (j ≤ N 0) → Rk X am_153 33 [some (.ref 0), some (.int (nI i)), some (.int (nI r)), some (.int c3), some (.int (nI (bh N x r L))), some (.int (nI (ker N x L r j))), some (.int (nI j))] [] h (Qe (nI (ker N x L r (N 0))) h) := by
  intro d
  induction d with
  | zero => intro j hd hj; exfalso; omega
  | succ d ih =>
    intro j hd hj
    have d3 := C.1
    obtain ⟨f, R0, R1⟩ := id R
    have d17 := R0.1
    have hb := bh_lt (x := x) hN hr L (fun i hi => hx i (by omega))
    have hn := hN.n
    refine rk_iload rfl rfl ?_
    refine rk_aload_n rfl rfl ?_
    refine rk_get rfl (by assumption) rfl ?_
    refine rk_get rfl (by assumption) rfl ?_
    refine rk_icmp_ge rfl rfl (fun hc37 => ?_) (fun hc37 => ?_)
    · replace hc37 := (nI_leI (by omega) (by omega)).mp hc37
      refine rk_iload rfl rfl ?_
      exact rk_ireturn rfl rfl (Qe_of (by rw [show j = N 0 by omega]))
    · replace hc37 := mt (nI_leI (by omega) (by omega)).mpr hc37
      refine rk_aload_n rfl rfl ?_
      refine rk_get rfl (by assumption) rfl ?_
      refine rk_aload_n rfl rfl ?_
      refine rk_get rfl (by assumption) rfl ?_
      refine rk_aload_n rfl rfl ?_
      refine rk_get rfl (by assumption) rfl ?_
      refine rk_get rfl (by assumption) rfl ?_
      refine rk_iload rfl rfl ?_
      refine rk_cv3e rfl rfl (by assumption) rfl rfl (Nat.le_of_ble_eq_true rfl) (Nat.le_of_ble_eq_true rfl) (s41 hN C R hx (Nat.le_refl _) (by omega) (by omega)) ?_
      have hb2 := bh_lt (x := x) (r := j) hN (by omega) L (fun i hi => hx i (by omega))
      refine rk_iload rfl rfl ?_
      refine rk_icmp_ne rfl rfl (fun hc48 => ?_) (fun hc48 => ?_)
      · replace hc48 := mt (nI_eq (by omega) (by omega)).mpr hc48
        have hm := ker_f (N := N) (x := x) (L := L) (r := r) hc48
        refine rk_iinc rfl rfl (n_inc _) rfl ?_
        refine rk_goto rfl rfl ?_
        have z := ih (j + 1) (by omega) (by omega)
        rw [hm] at z
        exact z
      · replace hc48 := Decidable.not_not.mp hc48
        replace hc48 := (nI_eq (by omega) (by omega)).mp hc48
        have hm := ker_t (N := N) (x := x) (L := L) (r := r) hc48
        refine rk_iload rfl rfl ?_
        refine rk_iconst (v := nI 1) rfl (by decide) ?_
        refine rk_iload rfl rfl ?_
        refine rk_ishl rfl (b_1shlU (by omega)) ?_
        refine rk_ior rfl (b_orU _ _) ?_
        refine rk_istore rfl (Nat.le_of_ble_eq_true rfl) rfl ?_
        refine rk_iinc rfl rfl (n_inc _) rfl ?_
        refine rk_goto rfl rfl ?_
        have z := ih (j + 1) (by omega) (by omega)
        rw [hm] at z
        exact z
theorem c153_x {X : ai_X} {h : ai_H} {tp : Int32} {ro : Nat → Option Nat} {N : Nat → Nat} (d0 : h[0]? = some (cOne tp)) (hN : HN N) (C : CH h 3 N) (d19 : h[19]? = some (cR 3 4 ro)) (hro : ∀ i, i < 4 → ro i = some (44 + 2 * i)) (Q : ∃ n f, RouteAt h 17 n f) (O : InvO h) {a b : Int32} (ha : ¬ (¬ a < 0 ∧ ¬ nI 4 ≤ a)) : Mt X am_153 [.ref 0, .int a, .int b] h (Qi (fun y h1 => y = -2 ∧ SC h h1)) := by
  have d3 := C.1
  refine rk_aload_n rfl rfl ?_
  refine rk_iload_n rfl rfl ?_
  refine rk_cv1e rfl rfl (by assumption) rfl rfl (Nat.le_of_ble_eq_true rfl) (Nat.le_of_ble_eq_true rfl) (s179 _) ?_
  refine rk_if_eq rfl rfl (fun hc3 => ?_) (fun hc3 => ?_)
  · replace hc3 := (bI_0).mp hc3
    refine rk_bipush (v := (-2)) rfl (by decide) ?_
    exact rk_ireturn rfl rfl ⟨_, _, rfl, rfl, SC.rfl' Q O⟩
  · replace hc3 := Decidable.not_not.mp (mt bI_0.mpr hc3)
    exact absurd hc3 ha
theorem c153_y {X : ai_X} {h : ai_H} {tp : Int32} {ro : Nat → Option Nat} {N : Nat → Nat} (d0 : h[0]? = some (cOne tp)) (hN : HN N) (C : CH h 3 N) (d19 : h[19]? = some (cR 3 4 ro)) (hro : ∀ i, i < 4 → ro i = some (44 + 2 * i)) (Q : ∃ n f, RouteAt h 17 n f) (O : InvO h) {i : Nat} {b : Int32} (hi : i < 4) (hb : ¬ (¬ b < 0 ∧ ¬ nI (N 0) ≤ b)) : Mt X am_153 [.ref 0, .int (nI i), .int b] h (Qi (fun y h1 => y = -2 ∧ SC h h1)) := by
  have d3 := C.1
  refine rk_aload_n rfl rfl ?_
  refine rk_iload_n rfl rfl ?_
  refine rk_cv1e rfl rfl (by assumption) rfl rfl (Nat.le_of_ble_eq_true rfl) (Nat.le_of_ble_eq_true rfl) (s179 _) ?_
  refine rk_if_eq rfl rfl (fun hc3 => ?_) (fun hc3 => ?_)
  · replace hc3 := (bI_0).mp hc3
    exact absurd (in_mk (by omega) hi) hc3
  · replace hc3 := Decidable.not_not.mp (mt bI_0.mpr hc3)
    refine rk_aload_n rfl rfl ?_
    refine rk_get rfl (by assumption) rfl ?_
    refine rk_iload_n rfl rfl ?_
    refine rk_cv1e rfl rfl (by assumption) rfl rfl (Nat.le_of_ble_eq_true rfl) (Nat.le_of_ble_eq_true rfl) (s23N C _) ?_
    refine rk_if_ne rfl rfl (fun hc8 => ?_) (fun hc8 => ?_)
    · replace hc8 := Decidable.not_not.mp (mt bI_0.mpr hc8)
      exact absurd hc8 hb
    · replace hc8 := Decidable.not_not.mp hc8
      replace hc8 := (bI_0).mp hc8
      refine rk_bipush (v := (-2)) rfl (by decide) ?_
      exact rk_ireturn rfl rfl ⟨_, _, rfl, rfl, SC.rfl' Q O⟩
theorem c153_v {X : ai_X} {h : ai_H} {tp : Int32} {ro : Nat → Option Nat} {N : Nat → Nat} (d0 : h[0]? = some (cOne tp)) (hN : HN N) (C : CH h 3 N) (d19 : h[19]? = some (cR 3 4 ro)) (hro : ∀ i, i < 4 → ro i = some (44 + 2 * i)) (Q : ∃ n f, RouteAt h 17 n f) (O : InvO h) {i L : Nat} {code : Int32} {x : Nat → Nat} (hi : i < 4) (R : CRow h i (N 1) code L x) {r : Nat} (hr : r < N 0) : Mt X am_153 [.ref 0, .int (nI i), .int (nI r)] h (Qi (fun y h1 => y = (if code = 0 then nI (ker N x L r (N 0)) else code) ∧ SC h h1)) := by
  have d3 := C.1
  have hn := hN.n
  refine rk_aload_n rfl rfl ?_
  refine rk_iload_n rfl rfl ?_
  refine rk_cv1e rfl rfl (by assumption) rfl rfl (Nat.le_of_ble_eq_true rfl) (Nat.le_of_ble_eq_true rfl) (s179 _) ?_
  refine rk_if_eq rfl rfl (fun hc3 => ?_) (fun hc3 => ?_)
  · replace hc3 := (bI_0).mp hc3
    exact absurd (in_mk (by omega) hi) hc3
  · replace hc3 := Decidable.not_not.mp (mt bI_0.mpr hc3)
    refine rk_aload_n rfl rfl ?_
    refine rk_get rfl (by assumption) rfl ?_
    refine rk_iload_n rfl rfl ?_
    refine rk_cv1e rfl rfl (by assumption) rfl rfl (Nat.le_of_ble_eq_true rfl) (Nat.le_of_ble_eq_true rfl) (s23N C _) ?_
    refine rk_if_ne rfl rfl (fun hc8 => ?_) (fun hc8 => ?_)
    · replace hc8 := Decidable.not_not.mp (mt bI_0.mpr hc8)
      refine rk_aload_n rfl rfl ?_
      refine rk_iload_n rfl rfl ?_
      refine rk_cv1i rfl rfl (by assumption) rfl rfl (Nat.le_of_ble_eq_true rfl) (Nat.le_of_ble_eq_true rfl) (s180 d0 d19 hro hi C rfl Q R) (fun w h1 hF => ?_)
      obtain ⟨rfl, F1, Q1, R1⟩ := hF
      have e0 := (F1.2 0 (by omega)).trans d0
      have C1 := C.fr2 F1 (by omega)
      have e3 := C1.1
      refine rk_istore_n rfl (Nat.le_of_ble_eq_true rfl) rfl ?_
      refine rk_iload_n rfl rfl ?_
      refine rk_if_eq rfl rfl (fun hc16 => ?_) (fun hc16 => ?_)
      · subst hc16
        have R2 := R1 rfl
        obtain ⟨hL, hx⟩ := R.x
        have e17 := R2.choose_spec.1.1
        refine rk_aload_n rfl rfl ?_
        refine rk_get rfl (by assumption) rfl ?_
        refine rk_aload_n rfl rfl ?_
        refine rk_get rfl (by assumption) rfl ?_
        refine rk_aload_n rfl rfl ?_
        refine rk_get rfl (by assumption) rfl ?_
        refine rk_get rfl (by assumption) rfl ?_
        refine rk_iload_n rfl rfl ?_
        refine rk_cv3e rfl rfl (by assumption) rfl rfl (Nat.le_of_ble_eq_true rfl) (Nat.le_of_ble_eq_true rfl) (s41 hN C1 R2 hx (Nat.le_refl _) (by omega) hr) ?_
        refine rk_istore rfl (Nat.le_of_ble_eq_true rfl) rfl ?_
        refine rk_iconst (v := nI 0) rfl (by decide) ?_
        refine rk_istore rfl (Nat.le_of_ble_eq_true rfl) rfl ?_
        refine rk_iconst (v := nI 0) rfl (by decide) ?_
        refine rk_istore rfl (Nat.le_of_ble_eq_true rfl) rfl ?_
        refine (l153 e0 hN C1 R2 hx hL hr (N 0 + 1) 0 (by omega) (by omega)).mono ?_
        rintro o ⟨w, h2, rfl, rfl, rfl⟩
        exact ⟨_, _, rfl, by first | rfl | rw [if_pos rfl], SC.of17 F1 Q1 O⟩
      · refine rk_iload_n rfl rfl ?_
        exact rk_ireturn rfl rfl ⟨_, _, rfl, by first | rw [if_neg (by assumption)] | rw [if_pos rfl], SC.of17 F1 Q1 O⟩
    · replace hc8 := Decidable.not_not.mp hc8
      replace hc8 := (bI_0).mp hc8
      exact absurd (in_mk (by omega) hr) hc8
theorem l251 {X : ai_X} {h : ai_H} {v A rm : Nat → Int32} {nu : Nat → Int64} {i L r : Nat} {c3 : Int32} {N x : Nat → Nat} (c0 : h[52]? = some (cMdl v)) (c1 : h[53]? = some (cI 2346 A)) (c78 : h[78]? = some (cI 4 rm)) (c4 : h[79]? = some (cJ 160 nu)) (hN : HN N) (M : MH A N) (hi : i < 4) (hm : rm i = nI L) (hx : ∀ k, k < L → x k < N 1 ∧ nu (40 * i + k) = (nI (x k)).toInt64) (hL : L ≤ 40) (hr : r < N 0) : ∀ (d : Nat) (j : Nat), N 0 < j + d → (j ≤ N 0) → Rk X am_251 27 [some (.ref 52), some (.int (nI i)), some (.int (nI r)), some (.int c3), some (.int (nI (ker N x L r j))), some (.int (nI j))] [] h (Qe (nI (ker N x L r (N 0))) h) := by
  intro d
  induction d with
  | zero => intro j hd hj; exfalso; omega
  | succ d ih =>
    intro j hd hj
    have hb := bh_lt (x := x) hN hr L (fun i hi => (hx i (by omega)).1)
    have hn := hN.n
    have a0 := M.1
    refine rk_iload rfl rfl ?_
    refine rk_aload_n rfl rfl ?_
    refine rk_get rfl (by assumption) rfl ?_
    refine rk_iconst (v := nI 0) rfl (by decide) ?_
    refine rk_iald rfl (by assumption) (rfl) (by omega) (by decide) ?_
    rw [a0]
    refine rk_icmp_ge rfl rfl (fun hc32 => ?_) (fun hc32 => ?_)
    · replace hc32 := (nI_leI (by omega) (by omega)).mp hc32
      refine rk_iload rfl rfl ?_
      exact rk_ireturn rfl rfl (Qe_of (by rw [show j = N 0 by omega]))
    · replace hc32 := mt (nI_leI (by omega) (by omega)).mpr hc32
      refine rk_iload rfl rfl ?_
      refine rk_aload_n rfl rfl ?_
      refine rk_iload_n rfl rfl ?_
      refine rk_iload rfl rfl ?_
      refine rk_aload_n rfl rfl ?_
      refine rk_get rfl (by assumption) rfl ?_
      refine rk_iload_n rfl rfl ?_
      refine rk_iald rfl (by assumption) (rfl) (by omega) (by decide) ?_
      rw [hm]
      refine rk_cv3e rfl rfl (by assumption) rfl rfl (Nat.le_of_ble_eq_true rfl) (Nat.le_of_ble_eq_true rfl) (s223 c0 c1 c4 hN M hi hx (Nat.le_refl _) hL (by omega)) ?_
      have hb2 := bh_lt (x := x) (r := j) hN (by omega) L (fun i hi => (hx i (by omega)).1)
      refine rk_aload_n rfl rfl ?_
      refine rk_iload_n rfl rfl ?_
      refine rk_iload_n rfl rfl ?_
      refine rk_aload_n rfl rfl ?_
      refine rk_get rfl (by assumption) rfl ?_
      refine rk_iload_n rfl rfl ?_
      refine rk_iald rfl (by assumption) (rfl) (by omega) (by decide) ?_
      rw [hm]
      refine rk_cv3e rfl rfl (by assumption) rfl rfl (Nat.le_of_ble_eq_true rfl) (Nat.le_of_ble_eq_true rfl) (s223 c0 c1 c4 hN M hi hx (Nat.le_refl _) hL hr) ?_
      refine rk_icmp_ne rfl rfl (fun hc50 => ?_) (fun hc50 => ?_)
      · replace hc50 := mt (nI_eq (by omega) (by omega)).mpr hc50
        have hm2 := ker_f (N := N) (x := x) (L := L) (r := r) hc50
        rw [← Nat.or_zero (ker N x L r j)] at hm2
        refine rk_iconst (v := nI 0) rfl (by decide) ?_
        refine rk_ior rfl (b_orU _ _) ?_
        refine rk_istore rfl (Nat.le_of_ble_eq_true rfl) rfl ?_
        refine rk_iinc rfl rfl (n_inc _) rfl ?_
        refine rk_goto rfl rfl ?_
        have z := ih (j + 1) (by omega) (by omega)
        rw [hm2] at z
        exact z
      · replace hc50 := Decidable.not_not.mp hc50
        replace hc50 := (nI_eq (by omega) (by omega)).mp hc50
        have hm2 := ker_t (N := N) (x := x) (L := L) (r := r) hc50
        refine rk_iconst (v := nI 1) rfl (by decide) ?_
        refine rk_iload rfl rfl ?_
        refine rk_ishl rfl (b_1shlU (by omega)) ?_
        refine rk_goto rfl rfl ?_
        refine rk_ior rfl (b_orU _ _) ?_
        refine rk_istore rfl (Nat.le_of_ble_eq_true rfl) rfl ?_
        refine rk_iinc rfl rfl (n_inc _) rfl ?_
        refine rk_goto rfl rfl ?_
        have z := ih (j + 1) (by omega) (by omega)
        rw [hm2] at z
        exact z
theorem m251_x {X : ai_X} {h : ai_H} {v A : Nat → Int32} {N : Nat → Nat} (c0 : h[52]? = some (cMdl v)) (c1 : h[53]? = some (cI 2346 A)) (hN : HN N) (M : MH A N) {a b : Int32} (ha : ¬ (¬ a < 0 ∧ ¬ nI 4 ≤ a)) : Rk X am_251 3 (ai_loc (ai_mL am_251) [.ref 52, .int a, .int b]) [] h (Qe (-2) h) := by
  obtain ⟨a0, a1, a268, a269, a270, a271, apl, apc, aot, asg, awt⟩ := id M
  refine rk_iload_n rfl rfl ?_
  refine rk_i2l rfl rfl ?_
  refine rk_lconst (v := 0) rfl (by decide) ?_
  rw [show (0 : Int64) = (0 : Int32).toInt64 by decide]
  refine rk_ldc2 rfl ?_
  rw [show (3 : Int64) = (nI 3).toInt64 by decide]
  refine rk_cs3e rfl rfl rfl (Nat.le_of_ble_eq_true rfl) (Nat.le_of_ble_eq_true rfl) (s181 _ _ _) ?_
  refine rk_if_eq rfl rfl (fun hc8 => ?_) (fun hc8 => ?_)
  · replace hc8 := (bI_0).mp hc8
    refine rk_bipush (v := (-2)) rfl (by decide) ?_
    exact rk_ireturn rfl rfl (Qe_of (by first | rfl | rw [if_neg (by assumption)] | rw [if_pos rfl]))
  · replace hc8 := Decidable.not_not.mp (mt bI_0.mpr hc8)
    exact absurd (in34.mp hc8) ha
theorem m251_y {X : ai_X} {h : ai_H} {v A : Nat → Int32} {N : Nat → Nat} (c0 : h[52]? = some (cMdl v)) (c1 : h[53]? = some (cI 2346 A)) (hN : HN N) (M : MH A N) {i : Nat} {b : Int32} (hi : i < 4) (hb : ¬ (¬ b < 0 ∧ ¬ nI (N 0) ≤ b)) : Rk X am_251 3 (ai_loc (ai_mL am_251) [.ref 52, .int (nI i), .int b]) [] h (Qe (-2) h) := by
  obtain ⟨a0, a1, a268, a269, a270, a271, apl, apc, aot, asg, awt⟩ := id M
  refine rk_iload_n rfl rfl ?_
  refine rk_i2l rfl rfl ?_
  refine rk_lconst (v := 0) rfl (by decide) ?_
  rw [show (0 : Int64) = (0 : Int32).toInt64 by decide]
  refine rk_ldc2 rfl ?_
  rw [show (3 : Int64) = (nI 3).toInt64 by decide]
  refine rk_cs3e rfl rfl rfl (Nat.le_of_ble_eq_true rfl) (Nat.le_of_ble_eq_true rfl) (s181 _ _ _) ?_
  refine rk_if_eq rfl rfl (fun hc8 => ?_) (fun hc8 => ?_)
  · replace hc8 := (bI_0).mp hc8
    exact absurd (in3_mk hi) hc8
  · replace hc8 := Decidable.not_not.mp (mt bI_0.mpr hc8)
    refine rk_aload_n rfl rfl ?_
    refine rk_iload_n rfl rfl ?_
    refine rk_cv1e rfl rfl (by assumption) rfl rfl (Nat.le_of_ble_eq_true rfl) (Nat.le_of_ble_eq_true rfl) (s207n c0 c1 a0 (by have := hN.n; omega) _) ?_
    refine rk_if_ne rfl rfl (fun hc12 => ?_) (fun hc12 => ?_)
    · replace hc12 := Decidable.not_not.mp (mt bI_0.mpr hc12)
      exact absurd hc12 hb
    · replace hc12 := Decidable.not_not.mp hc12
      replace hc12 := (bI_0).mp hc12
      refine rk_bipush (v := (-2)) rfl (by decide) ?_
      exact rk_ireturn rfl rfl (Qe_of (by first | rfl | rw [if_neg (by assumption)] | rw [if_pos rfl]))
theorem m251_v {X : ai_X} {h : ai_H} {v A : Nat → Int32} {N : Nat → Nat} (c0 : h[52]? = some (cMdl v)) (c1 : h[53]? = some (cI 2346 A)) (hN : HN N) (M : MH A N) {i L : Nat} {code : Int32} {x : Nat → Nat} (hi : i < 4) (R : MRow h i (N 1) code L x) {r : Nat} (hr : r < N 0) : Rk X am_251 3 (ai_loc (ai_mL am_251) [.ref 52, .int (nI i), .int (nI r)]) [] h (Qe (if code = 0 then nI (ker N x L r (N 0)) else code) h) := by
  obtain ⟨a0, a1, a268, a269, a270, a271, apl, apc, aot, asg, awt⟩ := id M
  have hn := hN.n
  refine rk_iload_n rfl rfl ?_
  refine rk_i2l rfl rfl ?_
  refine rk_lconst (v := 0) rfl (by decide) ?_
  rw [show (0 : Int64) = (0 : Int32).toInt64 by decide]
  refine rk_ldc2 rfl ?_
  rw [show (3 : Int64) = (nI 3).toInt64 by decide]
  refine rk_cs3e rfl rfl rfl (Nat.le_of_ble_eq_true rfl) (Nat.le_of_ble_eq_true rfl) (s181 _ _ _) ?_
  refine rk_if_eq rfl rfl (fun hc8 => ?_) (fun hc8 => ?_)
  · replace hc8 := (bI_0).mp hc8
    exact absurd (in3_mk hi) hc8
  · replace hc8 := Decidable.not_not.mp (mt bI_0.mpr hc8)
    refine rk_aload_n rfl rfl ?_
    refine rk_iload_n rfl rfl ?_
    refine rk_cv1e rfl rfl (by assumption) rfl rfl (Nat.le_of_ble_eq_true rfl) (Nat.le_of_ble_eq_true rfl) (s207n c0 c1 a0 (by have := hN.n; omega) _) ?_
    refine rk_if_ne rfl rfl (fun hc12 => ?_) (fun hc12 => ?_)
    · replace hc12 := Decidable.not_not.mp (mt bI_0.mpr hc12)
      refine rk_aload_n rfl rfl ?_
      refine rk_iload_n rfl rfl ?_
      refine rk_cv1e rfl rfl (by assumption) rfl rfl (Nat.le_of_ble_eq_true rfl) (Nat.le_of_ble_eq_true rfl) (s221 c0 c1 a1 hN.t hi R) ?_
      refine rk_istore_n rfl (Nat.le_of_ble_eq_true rfl) rfl ?_
      refine rk_iload_n rfl rfl ?_
      refine rk_if_eq rfl rfl (fun hc20 => ?_) (fun hc20 => ?_)
      · subst hc20
        obtain ⟨rm, nu, c3, c4, hm, hL, hx⟩ := R.good
        rw [if_pos rfl]
        refine rk_iconst (v := nI 0) rfl (by decide) ?_
        refine rk_istore rfl (Nat.le_of_ble_eq_true rfl) rfl ?_
        refine rk_iconst (v := nI 0) rfl (by decide) ?_
        refine rk_istore rfl (Nat.le_of_ble_eq_true rfl) rfl ?_
        exact l251 c0 c1 c3 c4 hN M hi hm hx hL hr (N 0 + 1) 0 (by omega) (by omega)
      · refine rk_iload_n rfl rfl ?_
        exact rk_ireturn rfl rfl (Qe_of (by first | rfl | rw [if_neg (by assumption)] | rw [if_pos rfl]))
    · replace hc12 := Decidable.not_not.mp hc12
      replace hc12 := (bI_0).mp hc12
      exact absurd (in_mk (by omega) hr) hc12
theorem ob22 (X : ai_X) : O22 X Inv := by
  intro a b
  refine ob_scr fun m c' s h I => ?_
  obtain ⟨tp, v, A, N, ro, d0, d52, d53, hN, C, M, d19, hro, Q, RR, O⟩ := I.dat
  by_cases ha : ¬ a < 0 ∧ ¬ nI 4 ≤ a
  · obtain ⟨i, hi, rfl⟩ := in_of (by omega) ha
    obtain ⟨code, L, x, RC, RM⟩ := RR i hi
    by_cases hb : ¬ b < 0 ∧ ¬ nI (N 0) ≤ b
    · have hn := hN.n
      obtain ⟨r, hr, rfl⟩ := in_of (by omega) hb
      exact ⟨_, c153_v d0 hN C d19 hro Q O hi RC hr, fun h1 S => md_scr rfl rfl rfl rfl ((S.m (by omega)).trans d52) (fun h2 g2 hk => m251_v g2 ((S.m2 hk (by omega) (by omega)).trans d53) hN M hi (RM.m2 S hk) hr)⟩
    · exact ⟨_, c153_y d0 hN C d19 hro Q O hi hb, fun h1 S => md_scr rfl rfl rfl rfl ((S.m (by omega)).trans d52) (fun h2 g2 hk => m251_y g2 ((S.m2 hk (by omega) (by omega)).trans d53) hN M hi hb)⟩
  · exact ⟨_, c153_x d0 hN C d19 hro Q O ha, fun h1 S => md_scr rfl rfl rfl rfl ((S.m (by omega)).trans d52) (fun h2 g2 hk => m251_x g2 ((S.m2 hk (by omega) (by omega)).trans d53) hN M ha)⟩
/-- a pass over the tones, each behind the last; all passes -/
def rin (N : Nat → Nat) (s : Nat) : Nat → Nat
  | 0 => s
  | j + 1 => rin N s j ||| img N (rin N s j) j
def rit (N : Nat → Nat) (s : Nat) : Nat → Nat
  | 0 => s
  | k + 1 => rin N (rit N s k) (N 1)
def clo (N : Nat → Nat) (s : Nat) : Prop := ∀ t, t < N 1 → sub (img N s t) s
theorem rin_sub (N : Nat → Nat) (s : Nat) : ∀ j, sub s (rin N s j)
  | 0 => sub.refl' _
  | j + 1 => (rin_sub N s j).tr (sub.l _ _)
theorem rin_mono (N : Nat → Nat) (s : Nat) : ∀ d j, sub (rin N s j) (rin N s (j + d))
  | 0, j => sub.refl' _
  | d + 1, j => (rin_mono N s d j).tr (sub.l _ _)
theorem rin_clo {N : Nat → Nat} {s c : Nat} (hc : clo N c) (hs : sub s c) : ∀ j, j ≤ N 1 → sub (rin N s j) c
  | 0, _ => hs
  | j + 1, hj => (rin_clo hc hs j (by omega)).or ((img_mono (rin_clo hc hs j (by omega))).tr (hc j (by omega)))
theorem rin_lt {N : Nat → Nat} {s : Nat} (hN : HN N) (hs : s < 2 ^ N 0) : ∀ j, j ≤ N 1 → rin N s j < 2 ^ N 0
  | 0, _ => hs
  | j + 1, hj => Nat.or_lt_two_pow (rin_lt hN hs j (by omega)) (img_lt hN (by omega))
theorem rit_lt {N : Nat → Nat} {s : Nat} (hN : HN N) (hs : s < 2 ^ N 0) : ∀ k, rit N s k < 2 ^ N 0
  | 0 => hs
  | k + 1 => rin_lt hN (rit_lt hN hs k) _ (Nat.le_refl _)
theorem rit_sub (N : Nat → Nat) (s : Nat) : ∀ k, sub s (rit N s k)
  | 0 => sub.refl' _
  | k + 1 => (rit_sub N s k).tr (rin_sub N _ _)
theorem rit_clo {N : Nat → Nat} {s c : Nat} (hc : clo N c) (hs : sub s c) : ∀ k, sub (rit N s k) c
  | 0 => hs
  | k + 1 => rin_clo hc (rit_clo hc hs k) _ (Nat.le_refl _)
theorem clo_of {N : Nat → Nat} {s : Nat} (h : rin N s (N 1) = s) : clo N s := by
  intro t ht
  have e1 : rin N s t = s := by
    refine sub.anti ?_ (rin_sub N s t)
    have := rin_mono N s (N 1 - t) t
    rw [show t + (N 1 - t) = N 1 by omega, h] at this
    exact this
  have e2 : rin N s (t + 1) = s := by
    refine sub.anti ?_ (rin_sub N s (t + 1))
    have := rin_mono N s (N 1 - (t + 1)) (t + 1)
    rw [show t + 1 + (N 1 - (t + 1)) = N 1 by omega, h] at this
    exact this
  have e3 : s ||| img N s t = s := by rw [rin, e1] at e2; exact e2
  exact sub.of_or e3
theorem rit_clo_or {N : Nat → Nat} {r : Nat} (hN : HN N) (hr : r < N 0) : ∀ k, clo N (rit N (2 ^ r) k) ∨ k + 1 ≤ pop (rit N (2 ^ r) k) (N 0)
  | 0 => Or.inr (pop_pos (bt_pow.mpr rfl) _ hr)
  | k + 1 => by
    have hs : 2 ^ r < 2 ^ N 0 := Nat.pow_lt_pow_right (by decide) hr
    by_cases h : clo N (rit N (2 ^ r) k)
    · left
      have : rit N (2 ^ r) (k + 1) = rit N (2 ^ r) k := sub.anti (rin_clo h (sub.refl' _) _ (Nat.le_refl _)) (rin_sub N _ _)
      rw [this]; exact h
    · right
      have h1 := (rit_clo_or hN hr k).resolve_left h
      have h2 := pop_lt (n := N 0) (rin_sub N (rit N (2 ^ r) k) (N 1)) (rit_lt hN hs (k + 1)) (fun z => h (clo_of z.symm))
      show k + 1 + 1 ≤ pop (rin N (rit N (2 ^ r) k) (N 1)) (N 0)
      omega
theorem rit_closed {N : Nat → Nat} {r : Nat} (hN : HN N) (hr : r < N 0) : clo N (rit N (2 ^ r) (N 0)) := by
  rcases rit_clo_or hN hr (N 0) with h | h
  · exact h
  · have := pop_le (rit N (2 ^ r) (N 0)) (N 0)
    omega
/-- the model's pass -/
def mpa (N : Nat → Nat) (s : Nat) : Nat → Nat
  | 0 => s
  | j + 1 => mpa N s j ||| img N s j
theorem mpa_sub (N : Nat → Nat) (s : Nat) : ∀ j, sub s (mpa N s j)
  | 0 => sub.refl' _
  | j + 1 => (mpa_sub N s j).tr (sub.l _ _)
theorem mpa_clo {N : Nat → Nat} {s c : Nat} (hc : clo N c) (hs : sub s c) : ∀ j, j ≤ N 1 → sub (mpa N s j) c
  | 0, _ => hs
  | j + 1, hj => (mpa_clo hc hs j (by omega)).or ((img_mono hs).tr (hc j (by omega)))
theorem mpa_img (N : Nat → Nat) (s : Nat) : ∀ j t, t < j → sub (img N s t) (mpa N s j)
  | 0, t, h => by omega
  | j + 1, t, h => by
    by_cases e : t = j
    · subst e; exact sub.r _ _
    · exact (mpa_img N s j t (by omega)).tr (sub.l _ _)
theorem mpa_lt {N : Nat → Nat} {s : Nat} (hN : HN N) (hs : s < 2 ^ N 0) : ∀ j, j ≤ N 1 → mpa N s j < 2 ^ N 0
  | 0, _ => hs
  | j + 1, hj => Nat.or_lt_two_pow (mpa_lt hN hs j (by omega)) (img_lt hN (by omega))
theorem l40i {X : ai_X} {h : ai_H} {p r : Nat} {N : Nat → Nat} (hN : HN N) (C : CH h p N) (hr : r < N 0) {P : ai_O → Prop} {k s : Nat} (hs : s < 2 ^ N 0) (z : Rk X am_40 25 [some (.ref p), some (.int (nI r)), some (.int (nI (rin N s (N 1)))), some (.int (nI k)), some (.int (nI (N 1)))] [] h P) : ∀ (d : Nat) (j : Nat), N 1 < j + d → (j ≤ N 1) → Rk X am_40 12 [some (.ref p), some (.int (nI r)), some (.int (nI (rin N s j))), some (.int (nI k)), some (.int (nI j))] [] h (P) := by
  intro d
  induction d with
  | zero => intro j hd hj; exfalso; omega
  | succ d ih =>
    intro j hd hj
    have d0 := C.1
    have ht := hN.t
    have hp := hN.p14
    have hq := rin_lt hN hs j hj
    refine rk_iload rfl rfl ?_
    refine rk_aload_n rfl rfl ?_
    refine rk_get rfl (by assumption) rfl ?_
    refine rk_icmp_ge rfl rfl (fun hc15 => ?_) (fun hc15 => ?_)
    · replace hc15 := (nI_leI (by omega) (by omega)).mp hc15
      rw [show j = N 1 by omega]
      exact z
    · replace hc15 := mt (nI_leI (by omega) (by omega)).mpr hc15
      refine rk_iload_n rfl rfl ?_
      refine rk_aload_n rfl rfl ?_
      refine rk_iload_n rfl rfl ?_
      refine rk_iload rfl rfl ?_
      refine rk_cv2e rfl rfl (by assumption) rfl rfl (Nat.le_of_ble_eq_true rfl) (Nat.le_of_ble_eq_true rfl) (s38 hN C (by omega) (by omega)) ?_
      refine rk_ior rfl (b_orU _ _) ?_
      refine rk_istore_n rfl (Nat.le_of_ble_eq_true rfl) rfl ?_
      refine rk_iinc rfl rfl (n_inc _) rfl ?_
      refine rk_goto rfl rfl ?_
      exact ih (j + 1) (by omega) (by omega)
theorem l40 {X : ai_X} {h : ai_H} {p r : Nat} {N : Nat → Nat} (hN : HN N) (C : CH h p N) (hr : r < N 0) : ∀ (d : Nat) (k : Nat) (c4 : Option Value), N 0 < k + d → (k ≤ N 0) → Rk X am_40 6 [some (.ref p), some (.int (nI r)), some (.int (nI (rit N (2 ^ r) k))), some (.int (nI k)), c4] [] h (Qe (nI (rit N (2 ^ r) (N 0))) h) := by
  intro d
  induction d with
  | zero => intro k c4 hd hk; exfalso; omega
  | succ d ih =>
    intro k c4 hd hk
    have d0 := C.1
    have ht := hN.n
    have hp := hN.p14
    have hq := rit_lt hN (Nat.pow_lt_pow_right (by decide) hr : 2 ^ r < 2 ^ N 0) k
    refine rk_iload_n rfl rfl ?_
    refine rk_aload_n rfl rfl ?_
    refine rk_get rfl (by assumption) rfl ?_
    refine rk_icmp_ge rfl rfl (fun hc9 => ?_) (fun hc9 => ?_)
    · replace hc9 := (nI_leI (by omega) (by omega)).mp hc9
      refine rk_iload_n rfl rfl ?_
      exact rk_ireturn rfl rfl (Qe_of (by rw [show k = N 0 by omega]))
    · replace hc9 := mt (nI_leI (by omega) (by omega)).mpr hc9
      refine rk_iconst (v := nI 0) rfl (by decide) ?_
      refine rk_istore rfl (Nat.le_of_ble_eq_true rfl) rfl ?_
      refine l40i hN C hr hq ?_ (N 1 + 1) 0 (by omega) (by omega)
      refine rk_iinc rfl rfl (n_inc _) rfl ?_
      refine rk_goto rfl rfl ?_
      exact ih (k + 1) _ (by omega) (by omega)
theorem s40 {X : ai_X} {h : ai_H} {p r : Nat} {N : Nat → Nat} (hN : HN N) (C : CH h p N) (hr : r < N 0) : Mt X am_40 [.ref p, .int (nI r)] h (Qe (nI (rit N (2 ^ r) (N 0))) h) := by
  have hn := hN.n
  refine rk_iconst (v := nI 1) rfl (by decide) ?_
  refine rk_iload_n rfl rfl ?_
  refine rk_ishl rfl (b_1shlU (by omega)) ?_
  refine rk_istore_n rfl (Nat.le_of_ble_eq_true rfl) rfl ?_
  refine rk_iconst (v := nI 0) rfl (by decide) ?_
  refine rk_istore_n rfl (Nat.le_of_ble_eq_true rfl) rfl ?_
  exact l40 hN C hr (N 0 + 1) 0 _ (by omega) (by omega)
theorem c136_x {X : ai_X} {h : ai_H} {tp : Int32} {N : Nat → Nat} (d0 : h[0]? = some (cOne tp)) (hN : HN N) (C : CH h 3 N) {a : Int32} (ha : ¬ (¬ a < 0 ∧ ¬ nI (N 0) ≤ a)) : Mt X am_136 [.ref 0, .int a] h (Qe (-2) h) := by
  have d3 := C.1
  refine rk_aload_n rfl rfl ?_
  refine rk_get rfl (by assumption) rfl ?_
  refine rk_iload_n rfl rfl ?_
  refine rk_cv1e rfl rfl (by assumption) rfl rfl (Nat.le_of_ble_eq_true rfl) (Nat.le_of_ble_eq_true rfl) (s23N C _) ?_
  refine rk_if_eq rfl rfl (fun hc4 => ?_) (fun hc4 => ?_)
  · replace hc4 := (bI_0).mp hc4
    refine rk_bipush (v := (-2)) rfl (by decide) ?_
    exact rk_ireturn rfl rfl Qe_mk
  · replace hc4 := Decidable.not_not.mp (mt bI_0.mpr hc4)
    exact absurd hc4 ha
theorem c136_v {X : ai_X} {h : ai_H} {tp : Int32} {N : Nat → Nat} (d0 : h[0]? = some (cOne tp)) (hN : HN N) (C : CH h 3 N) {r : Nat} (hr : r < N 0) : Mt X am_136 [.ref 0, .int (nI r)] h (Qe (nI (rit N (2 ^ r) (N 0))) h) := by
  have d3 := C.1
  have hn := hN.n
  refine rk_aload_n rfl rfl ?_
  refine rk_get rfl (by assumption) rfl ?_
  refine rk_iload_n rfl rfl ?_
  refine rk_cv1e rfl rfl (by assumption) rfl rfl (Nat.le_of_ble_eq_true rfl) (Nat.le_of_ble_eq_true rfl) (s23N C _) ?_
  refine rk_if_eq rfl rfl (fun hc4 => ?_) (fun hc4 => ?_)
  · replace hc4 := (bI_0).mp hc4
    exact absurd (in_mk (by omega) hr) hc4
  · replace hc4 := Decidable.not_not.mp (mt bI_0.mpr hc4)
    refine rk_aload_n rfl rfl ?_
    refine rk_get rfl (by assumption) rfl ?_
    refine rk_iload_n rfl rfl ?_
    refine rk_cv1e rfl rfl (by assumption) rfl rfl (Nat.le_of_ble_eq_true rfl) (Nat.le_of_ble_eq_true rfl) (s40 hN C hr) ?_
    refine rk_goto rfl rfl ?_
    exact rk_ireturn rfl rfl Qe_mk
theorem l218i {X : ai_X} {h : ai_H} {v A : Nat → Int32} {N : Nat → Nat} (c0 : h[52]? = some (cMdl v)) (c1 : h[53]? = some (cI 2346 A)) (hN : HN N) (M : MH A N) {r : Nat} (hr : r < N 0) {P : ai_O → Prop} {s : Nat} (hs : s < 2 ^ N 0) (z : Rk X am_218 37 [some (.ref 52), some (.int (nI r)), some (.int (nI (mpa N s (N 1)))), some (.int (nI s)), some (.int (nI (N 1)))] [] h P) : ∀ (d : Nat) (j : Nat), N 1 < j + d → (j ≤ N 1) → Rk X am_218 22 [some (.ref 52), some (.int (nI r)), some (.int (nI (mpa N s j))), some (.int (nI s)), some (.int (nI j))] [] h (P) := by
  intro d
  induction d with
  | zero => intro j hd hj; exfalso; omega
  | succ d ih =>
    intro j hd hj
    obtain ⟨a0, a1, a268, a269, a270, a271, apl, apc, aot, asg, awt⟩ := id M
    have ht := hN.t
    have hp := hN.p14
    have hq := mpa_lt hN hs j hj
    refine rk_iload rfl rfl ?_
    refine rk_aload_n rfl rfl ?_
    refine rk_get rfl (by assumption) rfl ?_
    refine rk_iconst (v := nI 1) rfl (by decide) ?_
    refine rk_iald rfl (by assumption) (rfl) (by omega) (by decide) ?_
    rw [a1]
    refine rk_icmp_ge rfl rfl (fun hc27 => ?_) (fun hc27 => ?_)
    · replace hc27 := (nI_leI (by omega) (by omega)).mp hc27
      rw [show j = N 1 by omega]
      exact z
    · replace hc27 := mt (nI_leI (by omega) (by omega)).mpr hc27
      refine rk_iload_n rfl rfl ?_
      refine rk_aload_n rfl rfl ?_
      refine rk_iload_n rfl rfl ?_
      refine rk_iload rfl rfl ?_
      refine rk_cv2e rfl rfl (by assumption) rfl rfl (Nat.le_of_ble_eq_true rfl) (Nat.le_of_ble_eq_true rfl) (s211 c0 c1 hN M (by omega) (by omega)) ?_
      refine rk_ior rfl (b_orU _ _) ?_
      refine rk_istore_n rfl (Nat.le_of_ble_eq_true rfl) rfl ?_
      refine rk_iinc rfl rfl (n_inc _) rfl ?_
      refine rk_goto rfl rfl ?_
      exact ih (j + 1) (by omega) (by omega)
theorem l218 {X : ai_X} {h : ai_H} {v A : Nat → Int32} {N : Nat → Nat} (c0 : h[52]? = some (cMdl v)) (c1 : h[53]? = some (cI 2346 A)) (hN : HN N) (M : MH A N) {r : Nat} (hr : r < N 0) : ∀ (d : Nat) (s was : Nat) (c4 : Option Value), (16385 < s + d ∨ (was = s ∧ 0 < d)) → (s < 2 ^ N 0) → (was < 2 ^ N 0) → (sub (2 ^ r) s) → (sub s (rit N (2 ^ r) (N 0))) → (was = s → clo N s) → Rk X am_218 15 [some (.ref 52), some (.int (nI r)), some (.int (nI s)), some (.int (nI was)), c4] [] h (Qe (nI (rit N (2 ^ r) (N 0))) h) := by
  have hp := hN.p14
  intro d
  induction d with
  | zero => intro s was c4 hd hs hw h1 h2 h3; exfalso; omega
  | succ d ih =>
    intro s was c4 hd hs hw h1 h2 h3
    refine rk_iload_n rfl rfl ?_
    refine rk_iload_n rfl rfl ?_
    refine rk_icmp_eq rfl rfl (fun hc17 => ?_) (fun hc17 => ?_)
    · replace hc17 := (nI_eq (by omega) (by omega)).mp hc17
      refine rk_iload_n rfl rfl ?_
      exact rk_ireturn rfl rfl (Qe_of (by rw [h2.anti (rit_clo (h3 hc17) h1 _)]))
    · replace hc17 := mt (nI_eq (by omega) (by omega)).mpr hc17
      refine rk_iload_n rfl rfl ?_
      refine rk_istore_n rfl (Nat.le_of_ble_eq_true rfl) rfl ?_
      refine rk_iconst (v := nI 0) rfl (by decide) ?_
      refine rk_istore rfl (Nat.le_of_ble_eq_true rfl) rfl ?_
      refine l218i c0 c1 hN M hr hs ?_ (N 1 + 1) 0 (by omega) (by omega)
      have hle := (mpa_sub N s (N 1)).le
      have hd2 : 16385 < mpa N s (N 1) + d ∨ (s = mpa N s (N 1) ∧ 0 < d) := by omega
      refine rk_goto rfl rfl ?_
      exact ih _ _ _ hd2 (mpa_lt hN hs _ (Nat.le_refl _)) hs (h1.tr (mpa_sub N s _)) (mpa_clo (rit_closed hN hr) h2 _ (Nat.le_refl _)) (fun z t ht => by rw [← z]; have := mpa_img N s (N 1) t ht; rw [← z] at this; exact this)
theorem m218_x {X : ai_X} {h : ai_H} {v A : Nat → Int32} {N : Nat → Nat} (c0 : h[52]? = some (cMdl v)) (c1 : h[53]? = some (cI 2346 A)) (hN : HN N) (M : MH A N) {a : Int32} (ha : ¬ (¬ a < 0 ∧ ¬ nI (N 0) ≤ a)) : Rk X am_218 3 (ai_loc (ai_mL am_218) [.ref 52, .int a]) [] h (Qe (-2) h) := by
  obtain ⟨a0, a1, a268, a269, a270, a271, apl, apc, aot, asg, awt⟩ := id M
  refine rk_aload_n rfl rfl ?_
  refine rk_iload_n rfl rfl ?_
  refine rk_cv1e rfl rfl (by assumption) rfl rfl (Nat.le_of_ble_eq_true rfl) (Nat.le_of_ble_eq_true rfl) (s207n c0 c1 a0 (by have := hN.n; omega) _) ?_
  refine rk_if_ne rfl rfl (fun hc6 => ?_) (fun hc6 => ?_)
  · replace hc6 := Decidable.not_not.mp (mt bI_0.mpr hc6)
    exact absurd hc6 ha
  · replace hc6 := Decidable.not_not.mp hc6
    replace hc6 := (bI_0).mp hc6
    refine rk_bipush (v := (-2)) rfl (by decide) ?_
    exact rk_ireturn rfl rfl (Qe_of (by first | rfl | rw [if_neg (by assumption)] | rw [if_pos rfl]))
theorem m218_v {X : ai_X} {h : ai_H} {v A : Nat → Int32} {N : Nat → Nat} (c0 : h[52]? = some (cMdl v)) (c1 : h[53]? = some (cI 2346 A)) (hN : HN N) (M : MH A N) {r : Nat} (hr : r < N 0) : Rk X am_218 3 (ai_loc (ai_mL am_218) [.ref 52, .int (nI r)]) [] h (Qe (nI (rit N (2 ^ r) (N 0))) h) := by
  obtain ⟨a0, a1, a268, a269, a270, a271, apl, apc, aot, asg, awt⟩ := id M
  have hn := hN.n
  have hp := hN.p14
  have h2r : 2 ^ r < 2 ^ N 0 := Nat.pow_lt_pow_right (by decide) hr
  have h2p : 0 < 2 ^ r := Nat.two_pow_pos r
  refine rk_aload_n rfl rfl ?_
  refine rk_iload_n rfl rfl ?_
  refine rk_cv1e rfl rfl (by assumption) rfl rfl (Nat.le_of_ble_eq_true rfl) (Nat.le_of_ble_eq_true rfl) (s207n c0 c1 a0 (by have := hN.n; omega) _) ?_
  refine rk_if_ne rfl rfl (fun hc6 => ?_) (fun hc6 => ?_)
  · replace hc6 := Decidable.not_not.mp (mt bI_0.mpr hc6)
    refine rk_iconst (v := nI 1) rfl (by decide) ?_
    refine rk_iload_n rfl rfl ?_
    refine rk_ishl rfl (b_1shlU (by omega)) ?_
    refine rk_istore_n rfl (Nat.le_of_ble_eq_true rfl) rfl ?_
    refine rk_iconst (v := nI 0) rfl (by decide) ?_
    refine rk_istore_n rfl (Nat.le_of_ble_eq_true rfl) rfl ?_
    exact l218 c0 c1 hN M hr 16386 (2 ^ r) 0 _ (Or.inl (by omega)) h2r (by omega) (sub.refl' _) (rit_sub N _ _) (fun z => absurd z (by omega))
  · replace hc6 := Decidable.not_not.mp hc6
    replace hc6 := (bI_0).mp hc6
    exact absurd (in_mk (by omega) hr) hc6
theorem ob6 (X : ai_X) : O6 X Inv := by
  intro a
  refine ob_pure fun m c' s h I => ?_
  obtain ⟨tp, v, A, N, ro, d0, d52, d53, hN, C, M, d19, hro, Q, RR, O⟩ := I.dat
  have hn := hN.n
  by_cases ha : ¬ a < 0 ∧ ¬ nI (N 0) ≤ a
  · obtain ⟨r, hr, rfl⟩ := in_of (by omega) ha
    exact ⟨_, c136_v d0 hN C hr, md_thr rfl rfl rfl rfl d52 (fun h2 g2 hk => m218_v g2 ((hk 53 (by omega)).trans d53) hN M hr)⟩
  · exact ⟨_, c136_x d0 hN C ha, md_thr rfl rfl rfl rfl d52 (fun h2 g2 hk => m218_x g2 ((hk 53 (by omega)).trans d53) hN M ha)⟩
