/-! THERE -/
theorem lI_div {a b : Nat} (ha : a < 2 ^ 63) (hb : b < 2 ^ 63) : lI a / lI b = lI (a / b) := by
  apply Int64.toInt_inj.mp
  have hq : a / b ≤ a := Nat.div_le_self a b
  rw [Int64.toInt_div, lI_toInt ha, lI_toInt hb, lI_toInt (by omega), ← Int.ofNat_tdiv]
  generalize a / b = q at hq ⊢
  apply Int.bmod_eq_of_le
  · omega
  · omega
theorem lI_ne {b : Nat} (h0 : 0 < b) (hb : b < 2 ^ 63) : ¬ lI b = 0 := by
  intro z
  have := congrArg Int64.toInt z
  rw [lI_toInt hb] at this
  have h2 : (0 : Int64).toInt = 0 := rfl
  omega
theorem lI_toI {n : Nat} : (lI n).toInt32 = nI n := Int64.toInt32_ofNat' (n := n)
theorem lI_pos {b : Nat} (h0 : 0 < b) (hb : b < 2 ^ 63) : ¬ lg_cmp (lI b) 0 ≤ 0 := by
  have : 0 < lg_cmp (lI b) 0 := (lcmpL_gt _ _).mpr (Int64.lt_iff_toInt_lt.mpr (by rw [lI_toInt hb]; show (0 : Int) < _; omega))
  rw [Int32.le_iff_toInt_le]
  have := Int32.lt_iff_toInt_lt.mp this
  omega
/-- all are there: one after another -/
def th (P : Nat → Nat) (D : Nat) : Nat → Nat
  | 0 => 1000000000
  | k + 1 => th P D k * P k / D
theorem th_le {P : Nat → Nat} {D : Nat} : ∀ k, (∀ j, j < k → P j ≤ D) → th P D k ≤ 1000000000
  | 0, _ => Nat.le_refl _
  | k + 1, h => by
    have ih := th_le k (fun j hj => h j (by omega))
    have h1 := h k (by omega)
    show th P D k * P k / D ≤ _
    rcases Nat.eq_zero_or_pos D with q | q
    · rw [q, Nat.div_zero]; omega
    · apply Nat.div_le_of_le_mul
      rw [Nat.mul_comm D]
      exact Nat.mul_le_mul ih h1
theorem p100 {L : Nat} (h : L ≤ 4) : 100 ^ L ≤ 100000000 := by
  have : 100 ^ L ≤ 100 ^ 4 := Nat.pow_le_pow_right (by omega) h
  omega
theorem p100p (L : Nat) : 0 < 100 ^ L := Nat.pow_pos (by omega)
theorem hun (L : Nat) : lI (100 ^ L) * 100 = lI (100 ^ (L + 1)) := by rw [Nat.pow_succ]; exact lI_mul _ 100
abbrev bW (N x : Nat → Nat) (L : Nat) : Nat → Nat := fun k => bk N x (N 270) L L (wt N k)
abbrev tH (N x : Nat → Nat) (L : Nat) : Nat → Nat := th (bW N x L) (100 ^ L)
theorem bW_le {N x : Nat → Nat} {L k : Nat} (hN : HN N) (hx : ∀ j, j < L → x j < N 1) (hk : k < N 271) : bW N x L k ≤ 100 ^ L := bk_le hN hx L (Nat.le_refl _) _ (hN.xwt hk)
theorem tH_le {N x : Nat → Nat} {L k : Nat} (hN : HN N) (hx : ∀ j, j < L → x j < N 1) (hk : k ≤ N 271) : tH N x L k ≤ 1000000000 := th_le k (fun j hj => bW_le hN hx (by omega))
theorem tH_mul {N x : Nat → Nat} {L k : Nat} (hN : HN N) (hx : ∀ j, j < L → x j < N 1) (hk : k < N 271) (hL : L ≤ 4) : tH N x L k * bW N x L k < 2 ^ 63 := by
  have h1 := tH_le (k := k) hN hx (by omega)
  have h2 := bW_le hN hx hk
  have h3 := p100 hL
  have h4 : tH N x L k * bW N x L k ≤ 1000000000 * 100000000 := Nat.mul_le_mul h1 (by omega)
  omega
theorem l3a {X : ai_X} {h : ai_H} {N x : Nat → Nat} {q L : Nat} (hN : HN N) (C : CH h 3 N) (d41 : h[41]? = some cCh) (R : RtAt h q L x) (hq : q = 15 ∨ q = 17) (hx : ∀ j, j < L → x j < N 1) (hL : L ≤ 4) (hr : N 270 < N 0) {P : ai_O → Prop} (z : Rk X am_3 23 [some (.ref 41), some (.ref q), some (.long (lI (100 ^ L))), none, some (.int (nI L)), none, none] [] h P) : ∀ (d : Nat) (k : Nat), L < k + d → (k ≤ L) → Rk X am_3 10 [some (.ref 41), some (.ref q), some (.long (lI (100 ^ k))), none, some (.int (nI k)), none, none] [] h (P) := by
  intro d
  induction d with
  | zero => intro k hd hk; exfalso; omega
  | succ d ih =>
    intro k hd hk
    have e3 := C.1
    have eq := R.choose_spec.1.1
    have hn := hN.n
    have h8 := hN.w
    refine rk_iload rfl rfl ?_
    refine rk_aload_n rfl rfl ?_
    refine rk_get rfl (by assumption) rfl ?_
    refine rk_icmp_ge rfl rfl (fun hc13 => ?_) (fun hc13 => ?_)
    · replace hc13 := (nI_leI (by omega) (by omega)).mp hc13
      have hk2 : k = L := by omega
      subst hk2
      exact z
    · replace hc13 := mt (nI_leI (by omega) (by omega)).mpr hc13
      refine rk_iload rfl rfl ?_
      refine rk_iconst (v := nI 4) rfl (by decide) ?_
      refine rk_icmp_ge rfl rfl (fun hc16 => ?_) (fun hc16 => ?_)
      · replace hc16 := (nI_leI (by omega) (by omega)).mp hc16
        omega
      · replace hc16 := mt (nI_leI (by omega) (by omega)).mpr hc16
        refine rk_lload_n rfl rfl ?_
        refine rk_ldc2 rfl ?_
        refine rk_lmul rfl (hun _) ?_
        refine rk_lstore_n rfl (Nat.le_of_ble_eq_true rfl) rfl ?_
        refine rk_iinc rfl rfl (n_inc _) rfl ?_
        refine rk_goto rfl rfl ?_
        exact ih (k + 1) (by omega) (by omega)
theorem l3b {X : ai_X} {h : ai_H} {N x : Nat → Nat} {q L : Nat} (hN : HN N) (C : CH h 3 N) (d41 : h[41]? = some cCh) (R : RtAt h q L x) (hq : q = 15 ∨ q = 17) (hx : ∀ j, j < L → x j < N 1) (hL : L ≤ 4) (hr : N 270 < N 0) {f42 : Nat → Int64} (c42 : h[42]? = some (cJ 14 f42)) (hf : ∀ k, k < N 0 → f42 k = lI (bk N x (N 270) L L k)) : ∀ (d : Nat) (k : Nat), N 271 < k + d → (k ≤ N 271) → Rk X am_3 27 [some (.ref 41), some (.ref q), some (.long (lI (100 ^ L))), none, some (.long (lI (tH N x L k))), none, some (.int (nI k))] [] h (Qe (nI (tH N x L (N 271))) h) := by
  intro d
  induction d with
  | zero => intro k hd hk; exfalso; omega
  | succ d ih =>
    intro k hd hk
    have e3 := C.1
    have eq := R.choose_spec.1.1
    have hn := hN.n
    have h8 := hN.w
    have hp := p100 hL
    have hpp := p100p L
    refine rk_iload rfl rfl ?_
    refine rk_aload_n rfl rfl ?_
    refine rk_get rfl (by assumption) rfl ?_
    refine rk_get rfl (by assumption) rfl ?_
    refine rk_icmp_ge rfl rfl (fun hc31 => ?_) (fun hc31 => ?_)
    · replace hc31 := (nI_leI (by omega) (by omega)).mp hc31
      refine rk_lload rfl rfl ?_
      refine rk_l2i rfl lI_toI ?_
      have hk2 : k = N 271 := by omega
      subst hk2
      exact rk_ireturn rfl rfl Qe_mk
    · replace hc31 := mt (nI_leI (by omega) (by omega)).mpr hc31
      refine rk_lload_n rfl rfl ?_
      refine rk_lconst (v := 0) rfl (by decide) ?_
      refine rk_lcmp rfl rfl ?_
      refine rk_if_le rfl rfl (fun hc35 => ?_) (fun hc35 => ?_)
      · exact absurd hc35 (lI_pos hpp (by omega))
      · refine rk_lload rfl rfl ?_
        refine rk_aload_n rfl rfl ?_
        refine rk_get rfl (by assumption) rfl ?_
        refine rk_aload_n rfl rfl ?_
        refine rk_get rfl (by assumption) rfl ?_
        refine rk_iload rfl rfl ?_
        refine rk_cv1e rfl rfl (by assumption) rfl rfl (Nat.le_of_ble_eq_true rfl) (Nat.le_of_ble_eq_true rfl) (s31N C (by omega) hN) ?_
        have hwk := hN.xwt (w := k) (by omega)
        refine rk_lald rfl (by assumption) (rfl) (by omega) (by decide) ?_
        rw [hf _ hwk]
        refine rk_lmul rfl (lI_mul _ _) ?_
        refine rk_lload_n rfl rfl ?_
        refine rk_ldiv rfl (lI_ne hpp (by omega)) (lI_div (tH_mul hN hx (by omega) hL) (by omega)) ?_
        refine rk_lstore rfl (Nat.le_of_ble_eq_true rfl) rfl ?_
        refine rk_iinc rfl rfl (n_inc _) rfl ?_
        refine rk_goto rfl rfl ?_
        exact ih (k + 1) (by omega) (by omega)
theorem s3 {X : ai_X} {h : ai_H} {N x : Nat → Nat} {q L : Nat} (hN : HN N) (C : CH h 3 N) (d41 : h[41]? = some cCh) (R : RtAt h q L x) (hq : q = 15 ∨ q = 17) (hx : ∀ j, j < L → x j < N 1) (hL : L ≤ 4) (hr : N 270 < N 0) (S42 : ShJ h 42 14) (S43 : ShJ h 43 14) : Mt X am_3 [.ref 41, .ref q] h (Qi (fun w h1 => w = nI (tH N x L (N 271)) ∧ Fr 42 44 h h1)) := by
  have hn := hN.n
  have e3 := C.1
  refine rk_aload_n rfl rfl ?_
  refine rk_aload_n rfl rfl ?_
  refine rk_aload_n rfl rfl ?_
  refine rk_get rfl (by assumption) rfl ?_
  refine rk_get rfl (by assumption) rfl ?_
  refine rk_cv2v rfl rfl (by assumption) rfl rfl (Nat.le_of_ble_eq_true rfl) (Nat.le_of_ble_eq_true rfl) (s2 hN C d41 R hq hx (by omega) hr S42 S43) (fun h1 hF => ?_)
  obtain ⟨F1, f1, g42, hf1⟩ := hF
  have e41 := (F1.2 41 (by omega)).trans d41
  have C1 := C.fr2 F1 (by omega)
  have R1 := R.fr2 F1 (by omega)
  refine rk_lconst (v := 1) rfl (by decide) ?_
  refine rk_lstore_n rfl (Nat.le_of_ble_eq_true rfl) rfl ?_
  refine rk_iconst (v := nI 0) rfl (by decide) ?_
  refine rk_istore rfl (Nat.le_of_ble_eq_true rfl) rfl ?_
  refine l3a hN C1 e41 R1 hq hx hL hr ?_ (L + 1) 0 (by omega) (by omega)
  refine rk_ldc2 rfl ?_
  refine rk_lstore rfl (Nat.le_of_ble_eq_true rfl) rfl ?_
  refine rk_iconst (v := nI 0) rfl (by decide) ?_
  refine rk_istore rfl (Nat.le_of_ble_eq_true rfl) rfl ?_
  refine (l3b hN C1 e41 R1 hq hx hL hr g42 hf1 (N 271 + 1) 0 (by omega) (by omega)).mono ?_
  rintro o ⟨y, h2, rfl, rfl, rfl⟩
  exact ⟨_, _, rfl, rfl, F1⟩
theorem c169_x {X : ai_X} {h : ai_H} {tp : Int32} {ro : Nat → Option Nat} {N : Nat → Nat} (d0 : h[0]? = some (cOne tp)) (hN : HN N) (C : CH h 3 N) (d19 : h[19]? = some (cR 3 4 ro)) (hro : ∀ i, i < 4 → ro i = some (44 + 2 * i)) (Q : ∃ n f, RouteAt h 17 n f) (O : InvO h) {a : Int32} (ha : ¬ (¬ a < 0 ∧ ¬ nI 4 ≤ a)) : Mt X am_169 [.ref 0, .int a] h (Qi (fun y h1 => y = -2 ∧ SC h h1)) := by
  have d3 := C.1
  refine rk_aload_n rfl rfl ?_
  refine rk_iload_n rfl rfl ?_
  refine rk_cv1e rfl rfl (by assumption) rfl rfl (Nat.le_of_ble_eq_true rfl) (Nat.le_of_ble_eq_true rfl) (s179 _) ?_
  refine rk_if_ne rfl rfl (fun hc3 => ?_) (fun hc3 => ?_)
  · replace hc3 := Decidable.not_not.mp (mt bI_0.mpr hc3)
    exact absurd hc3 ha
  · replace hc3 := Decidable.not_not.mp hc3
    replace hc3 := (bI_0).mp hc3
    refine rk_bipush (v := (-2)) rfl (by decide) ?_
    exact rk_ireturn rfl rfl ⟨_, _, rfl, rfl, SC.rfl' Q O⟩
theorem c169_v {X : ai_X} {h : ai_H} {tp : Int32} {ro : Nat → Option Nat} {N : Nat → Nat} (d0 : h[0]? = some (cOne tp)) (hN : HN N) (C : CH h 3 N) (d19 : h[19]? = some (cR 3 4 ro)) (hro : ∀ i, i < 4 → ro i = some (44 + 2 * i)) (Q : ∃ n f, RouteAt h 17 n f) (O : InvO h) {i L : Nat} {code : Int32} {x : Nat → Nat} (hi : i < 4) (R : CRow h i (N 1) code L x) : Mt X am_169 [.ref 0, .int (nI i)] h (Qi (fun y h1 => y = (if N 0 = 0 then -5 else if code = 0 then (if L ≤ 4 then nI (tH N x L (N 271)) else -3) else code) ∧ SC h h1)) := by
  have d3 := C.1
  have hn := hN.n
  have h8 := hN.w
  refine rk_aload_n rfl rfl ?_
  refine rk_iload_n rfl rfl ?_
  refine rk_cv1e rfl rfl (by assumption) rfl rfl (Nat.le_of_ble_eq_true rfl) (Nat.le_of_ble_eq_true rfl) (s179 _) ?_
  refine rk_if_ne rfl rfl (fun hc3 => ?_) (fun hc3 => ?_)
  · replace hc3 := Decidable.not_not.mp (mt bI_0.mpr hc3)
    refine rk_aload_n rfl rfl ?_
    refine rk_get rfl (by assumption) rfl ?_
    refine rk_get rfl (by assumption) rfl ?_
    refine rk_if_ne rfl rfl (fun hc9 => ?_) (fun hc9 => ?_)
    · replace hc9 := mt (n0_eq (by omega)).mpr hc9
      refine rk_aload_n rfl rfl ?_
      refine rk_iload_n rfl rfl ?_
      refine rk_cv1i rfl rfl (by assumption) rfl rfl (Nat.le_of_ble_eq_true rfl) (Nat.le_of_ble_eq_true rfl) (s180 d0 d19 hro hi C rfl Q R) (fun w h1 hF => ?_)
      obtain ⟨rfl, F1, Q1, R1⟩ := hF
      have e0 := (F1.2 0 (by omega)).trans d0
      have C1 := C.fr2 F1 (by omega)
      have e3 := C1.1
      refine rk_istore_n rfl (Nat.le_of_ble_eq_true rfl) rfl ?_
      refine rk_iload_n rfl rfl ?_
      refine rk_if_eq rfl rfl (fun hc17 => ?_) (fun hc17 => ?_)
      · subst hc17
        have R2 := R1 rfl
        obtain ⟨hL, hx⟩ := R.x
        have e17 := R2.choose_spec.1.1
        obtain ⟨e41, S42, S43⟩ := O.ch17 F1
        refine rk_aload_n rfl rfl ?_
        refine rk_get rfl (by assumption) rfl ?_
        refine rk_get rfl (by assumption) rfl ?_
        refine rk_iconst (v := nI 4) rfl (by decide) ?_
        refine rk_icmp_le rfl rfl (fun hc24 => ?_) (fun hc24 => ?_)
        · replace hc24 := (nI_leI (by omega) (by omega)).mp hc24
          refine rk_aload_n rfl rfl ?_
          refine rk_get rfl (by assumption) rfl ?_
          refine rk_aload_n rfl rfl ?_
          refine rk_get rfl (by assumption) rfl ?_
          refine rk_cv1i rfl rfl (by assumption) rfl rfl (Nat.le_of_ble_eq_true rfl) (Nat.le_of_ble_eq_true rfl) (s3 hN C1 e41 R2 (Or.inr rfl) hx (by omega) (by have := hN.2.2.1; omega) S42 S43) (fun w h1 hF => ?_)
          obtain ⟨rfl, F3⟩ := hF
          first
            | exact rk_ireturn rfl rfl ⟨_, _, rfl, by rw [if_neg (by omega), if_pos rfl, if_pos (by omega)], SC.of42 F1 Q1 O F3⟩
            | exact rk_ireturn rfl rfl ⟨_, _, rfl, by first | rw [if_neg (by omega), if_neg (by assumption)] | rw [if_neg (by omega), if_pos rfl, if_neg (by omega)] | rw [if_pos (by omega)], SC.of17 F1 Q1 O⟩
            | exact rk_ireturn rfl rfl ⟨_, _, rfl, by rw [if_pos (by omega)], SC.rfl' Q O⟩
        · replace hc24 := mt (nI_leI (by omega) (by omega)).mpr hc24
          refine rk_bipush (v := (-3)) rfl (by decide) ?_
          refine rk_goto rfl rfl ?_
          first
            | exact rk_ireturn rfl rfl ⟨_, _, rfl, by rw [if_neg (by omega), if_pos rfl, if_pos (by omega)], SC.of42 F1 Q1 O F3⟩
            | exact rk_ireturn rfl rfl ⟨_, _, rfl, by first | rw [if_neg (by omega), if_neg (by assumption)] | rw [if_neg (by omega), if_pos rfl, if_neg (by omega)] | rw [if_pos (by omega)], SC.of17 F1 Q1 O⟩
            | exact rk_ireturn rfl rfl ⟨_, _, rfl, by rw [if_pos (by omega)], SC.rfl' Q O⟩
      · refine rk_iload_n rfl rfl ?_
        first
          | exact rk_ireturn rfl rfl ⟨_, _, rfl, by rw [if_neg (by omega), if_pos rfl, if_pos (by omega)], SC.of42 F1 Q1 O F3⟩
          | exact rk_ireturn rfl rfl ⟨_, _, rfl, by first | rw [if_neg (by omega), if_neg (by assumption)] | rw [if_neg (by omega), if_pos rfl, if_neg (by omega)] | rw [if_pos (by omega)], SC.of17 F1 Q1 O⟩
          | exact rk_ireturn rfl rfl ⟨_, _, rfl, by rw [if_pos (by omega)], SC.rfl' Q O⟩
    · replace hc9 := Decidable.not_not.mp hc9
      replace hc9 := (n0_eq (by omega)).mp hc9
      refine rk_bipush (v := (-5)) rfl (by decide) ?_
      first
        | exact rk_ireturn rfl rfl ⟨_, _, rfl, by rw [if_neg (by omega), if_pos rfl, if_pos (by omega)], SC.of42 F1 Q1 O F3⟩
        | exact rk_ireturn rfl rfl ⟨_, _, rfl, by first | rw [if_neg (by omega), if_neg (by assumption)] | rw [if_neg (by omega), if_pos rfl, if_neg (by omega)] | rw [if_pos (by omega)], SC.of17 F1 Q1 O⟩
        | exact rk_ireturn rfl rfl ⟨_, _, rfl, by rw [if_pos (by omega)], SC.rfl' Q O⟩
  · replace hc3 := Decidable.not_not.mp hc3
    replace hc3 := (bI_0).mp hc3
    exact absurd (in_mk (by omega) hi) hc3
theorem l277a {X : ai_X} {h : ai_H} {v A : Nat → Int32} {N x : Nat → Nat} {L : Nat} (c0 : h[52]? = some (cMdl v)) (c1 : h[53]? = some (cI 2346 A)) (hN : HN N) (M : MH A N) (S75 : AN h 75 4 L x) (hx : ∀ j, j < L → x j < N 1) (hL : L ≤ 4) (hr : N 270 < N 0) {P : ai_O → Prop} (z : Rk X am_277 15 [some (.ref 52), some (.int (nI L)), some (.long (lI 1000000000)), none, some (.long (lI (100 ^ L))), none, some (.int (nI L)), none] [] h P) : ∀ (d : Nat) (k : Nat), L < k + d → (k ≤ L) → Rk X am_277 6 [some (.ref 52), some (.int (nI L)), some (.long (lI 1000000000)), none, some (.long (lI (100 ^ k))), none, some (.int (nI k)), none] [] h (P) := by
  intro d
  induction d with
  | zero => intro k hd hk; exfalso; omega
  | succ d ih =>
    intro k hd hk
    refine rk_iload rfl rfl ?_
    refine rk_iload_n rfl rfl ?_
    refine rk_icmp_ge rfl rfl (fun hc8 => ?_) (fun hc8 => ?_)
    · replace hc8 := (nI_leI (by omega) (by omega)).mp hc8
      have hk2 : k = L := by omega
      subst hk2
      exact z
    · replace hc8 := mt (nI_leI (by omega) (by omega)).mpr hc8
      refine rk_lload rfl rfl ?_
      refine rk_ldc2 rfl ?_
      refine rk_lmul rfl (hun _) ?_
      refine rk_lstore rfl (Nat.le_of_ble_eq_true rfl) rfl ?_
      refine rk_iinc rfl rfl (n_inc _) rfl ?_
      refine rk_goto rfl rfl ?_
      exact ih (k + 1) (by omega) (by omega)
theorem l277i {X : ai_X} {h : ai_H} {v A : Nat → Int32} {N x : Nat → Nat} {L : Nat} (c0 : h[52]? = some (cMdl v)) (c1 : h[53]? = some (cI 2346 A)) (hN : HN N) (M : MH A N) (S75 : AN h 75 4 L x) (hx : ∀ j, j < L → x j < N 1) (hL : L ≤ 4) (hr : N 270 < N 0) {w a : Nat} (ha : a < N 0) {P : ai_O → Prop} (z : ∀ g c7, Fr 73 75 h g → AJ g 73 14 (N 0) (fw2 N x a L) → ShJ g 74 14 → Rk X am_277 44 [some (.ref 52), some (.int (nI L)), some (.long (lI (tH N x L w))), none, some (.long (lI (100 ^ L))), none, some (.int (nI w)), c7] [] g P) : ∀ (d : Nat) (k : Nat) (g : ai_H), L < k + d → (k ≤ L) → (Fr 73 75 h g) → (AJ g 73 14 (N 0) (fw2 N x a k)) → (ShJ g 74 14) → Rk X am_277 33 [some (.ref 52), some (.int (nI L)), some (.long (lI (tH N x L w))), none, some (.long (lI (100 ^ L))), none, some (.int (nI w)), some (.int (nI k))] [] g (P) := by
  intro d
  induction d with
  | zero => intro k g hd hk F S1 S2; exfalso; omega
  | succ d ih =>
    intro k g hd hk F S1 S2
    obtain ⟨a0, a1, a268, a269, a270, a271, apl, apc, aot, asg, awt⟩ := id M
    have e52 := (F.2 52 (by omega)).trans c0
    have e53 := (F.2 53 (by omega)).trans c1
    have hn := hN.n
    have h6 := hN.t
    have h8 := hN.w
    obtain ⟨f75, c75, hf75⟩ := S75.fr (F.2 75 (by omega))
    refine rk_iload rfl rfl ?_
    refine rk_iload_n rfl rfl ?_
    refine rk_icmp_ge rfl rfl (fun hc35 => ?_) (fun hc35 => ?_)
    · replace hc35 := (nI_leI (by omega) (by omega)).mp hc35
      have hk2 : k = L := by omega
      subst hk2
      exact z g _ F S1 S2
    · replace hc35 := mt (nI_leI (by omega) (by omega)).mpr hc35
      refine rk_aload_n rfl rfl ?_
      refine rk_aload_n rfl rfl ?_
      refine rk_get rfl (by assumption) rfl ?_
      refine rk_iload rfl rfl ?_
      refine rk_iald rfl (by assumption) (rfl) (by omega) (by decide) ?_
      rw [hf75 k (by omega)]
      refine rk_cv1v rfl rfl (by assumption) rfl rfl (Nat.le_of_ble_eq_true rfl) (Nat.le_of_ble_eq_true rfl) (s275 e52 e53 hN M (hx k (by omega)) S1 S2) (fun h1 hF => ?_)
      obtain ⟨F3, A3, A4⟩ := hF
      refine rk_iinc rfl rfl (n_inc _) rfl ?_
      refine rk_goto rfl rfl ?_
      exact ih (k + 1) _ (by omega) (by omega) (F.tr F3) A3 A4
theorem l277 {X : ai_X} {h : ai_H} {v A : Nat → Int32} {N x : Nat → Nat} {L : Nat} (c0 : h[52]? = some (cMdl v)) (c1 : h[53]? = some (cI 2346 A)) (hN : HN N) (M : MH A N) (S75 : AN h 75 4 L x) (hx : ∀ j, j < L → x j < N 1) (hL : L ≤ 4) (hr : N 270 < N 0) : ∀ (d : Nat) (w : Nat) (g : ai_H) (c7 : Option Value), N 271 < w + d → (w ≤ N 271) → (Fr 73 75 h g) → (ShJ g 73 14) → (ShJ g 74 14) → Rk X am_277 17 [some (.ref 52), some (.int (nI L)), some (.long (lI (tH N x L w))), none, some (.long (lI (100 ^ L))), none, some (.int (nI w)), c7] [] g (Qi (fun y h1 => y = nI (tH N x L (N 271)) ∧ Fr 73 75 h h1)) := by
  intro d
  induction d with
  | zero => intro w g c7 hd hw F S1 S2; exfalso; omega
  | succ d ih =>
    intro w g c7 hd hw F S1 S2
    obtain ⟨a0, a1, a268, a269, a270, a271, apl, apc, aot, asg, awt⟩ := id M
    have e52 := (F.2 52 (by omega)).trans c0
    have e53 := (F.2 53 (by omega)).trans c1
    have hn := hN.n
    have h6 := hN.t
    have h8 := hN.w
    refine rk_iload rfl rfl ?_
    refine rk_aload_n rfl rfl ?_
    refine rk_get rfl (by assumption) rfl ?_
    refine rk_sipush (v := nI 271) rfl (by decide) ?_
    refine rk_iald rfl (by assumption) (rfl) (by omega) (by decide) ?_
    rw [a271]
    refine rk_icmp_ge rfl rfl (fun hc22 => ?_) (fun hc22 => ?_)
    · replace hc22 := (nI_leI (by omega) (by omega)).mp hc22
      refine rk_lload_n rfl rfl ?_
      refine rk_l2i rfl lI_toI ?_
      have hw2 : w = N 271 := by omega
      subst hw2
      exact rk_ireturn rfl rfl ⟨_, _, rfl, rfl, F⟩
    · replace hc22 := mt (nI_leI (by omega) (by omega)).mpr hc22
      refine rk_aload_n rfl rfl ?_
      refine rk_aload_n rfl rfl ?_
      refine rk_get rfl (by assumption) rfl ?_
      refine rk_sipush (v := nI 272) rfl (by decide) ?_
      refine rk_iload rfl rfl ?_
      refine rk_iadd rfl (nI_add _ _) ?_
      refine rk_iald rfl (by assumption) (rfl) (by omega) (by decide) ?_
      rw [awt w (by omega)]
      refine rk_cv1v rfl rfl (by assumption) rfl rfl (Nat.le_of_ble_eq_true rfl) (Nat.le_of_ble_eq_true rfl) (s274 e52 e53 hN M (hN.xwt (by omega)) S1) (fun h1 hF => ?_)
      obtain ⟨F3, A3⟩ := hF
      refine rk_iconst (v := nI 0) rfl (by decide) ?_
      refine rk_istore rfl (Nat.le_of_ble_eq_true rfl) rfl ?_
      have F4 : Fr 73 75 h h1 := F.tr (F3.mono (by omega) (by omega))
      refine l277i (h := h) c0 c1 hN M S75 hx hL hr (hN.xwt (w := w) (by omega)) (fun g2 c8 F5 B1 B2 => ?_) (L + 1) 0 h1 (by omega) (by omega) F4 A3 (S2.fr (F3.2 74 (by omega)))
      have i52 := (F5.2 52 (by omega)).trans c0
      have i53 := (F5.2 53 (by omega)).trans c1
      have hp := p100 hL
      have hpp := p100p L
      obtain ⟨f73, b73, hb73⟩ := id B1
      refine rk_lload_n rfl rfl ?_
      refine rk_aload_n rfl rfl ?_
      refine rk_get rfl (by assumption) rfl ?_
      refine rk_aload_n rfl rfl ?_
      refine rk_get rfl (by assumption) rfl ?_
      refine rk_sipush (v := nI 270) rfl (by decide) ?_
      refine rk_iald rfl (by assumption) (rfl) (by omega) (by decide) ?_
      rw [a270]
      refine rk_lald rfl (by assumption) (rfl) (by omega) (by decide) ?_
      rw [hb73 _ hr, fw_bk hN hx (hN.xwt (by omega)) hr]
      refine rk_lmul rfl (lI_mul _ _) ?_
      refine rk_lload rfl rfl ?_
      refine rk_ldiv rfl (lI_ne hpp (by omega)) (lI_div (tH_mul hN hx (by omega) hL) (by omega)) ?_
      refine rk_lstore_n rfl (Nat.le_of_ble_eq_true rfl) rfl ?_
      refine rk_iinc rfl rfl (n_inc _) rfl ?_
      refine rk_goto rfl rfl ?_
      exact ih (w + 1) g2 _ (by omega) (by omega) F5 ⟨_, b73⟩ B2
theorem s277 {X : ai_X} {h : ai_H} {v A : Nat → Int32} {N x : Nat → Nat} {L : Nat} (c0 : h[52]? = some (cMdl v)) (c1 : h[53]? = some (cI 2346 A)) (hN : HN N) (M : MH A N) (S75 : AN h 75 4 L x) (hx : ∀ j, j < L → x j < N 1) (hL : L ≤ 4) (hr : N 270 < N 0) (S73 : ShJ h 73 14) (S74 : ShJ h 74 14) : Mt X am_277 [.ref 52, .int (nI L)] h (Qi (fun y h1 => y = nI (tH N x L (N 271)) ∧ Fr 73 75 h h1)) := by
  refine rk_ldc2 rfl ?_
  refine rk_lstore_n rfl (Nat.le_of_ble_eq_true rfl) rfl ?_
  refine rk_lconst (v := 1) rfl (by decide) ?_
  refine rk_lstore rfl (Nat.le_of_ble_eq_true rfl) rfl ?_
  refine rk_iconst (v := nI 0) rfl (by decide) ?_
  refine rk_istore rfl (Nat.le_of_ble_eq_true rfl) rfl ?_
  refine l277a c0 c1 hN M S75 hx hL hr ?_ (L + 1) 0 (by omega) (by omega)
  refine rk_iconst (v := nI 0) rfl (by decide) ?_
  refine rk_istore rfl (Nat.le_of_ble_eq_true rfl) rfl ?_
  exact l277 c0 c1 hN M S75 hx hL hr (N 271 + 1) 0 h _ (by omega) (by omega) Fr.rfl' S73 S74
theorem l278 {X : ai_X} {h : ai_H} {v A rm : Nat → Int32} {nu : Nat → Int64} {N x : Nat → Nat} {i L : Nat} {c4 : Int32} (c0 : h[52]? = some (cMdl v)) (c1 : h[53]? = some (cI 2346 A)) (c78 : h[78]? = some (cI 4 rm)) (c79 : h[79]? = some (cJ 160 nu)) (hN : HN N) (M : MH A N) (hi : i < 4) (hm : rm i = nI L) (hx : ∀ k, k < L → x k < N 1 ∧ nu (40 * i + k) = (nI (x k)).toInt64) (hL : L ≤ 4) {P : ai_O → Prop} (z : ∀ g, Fr 75 76 h g → AN g 75 4 L x → Rk X am_278 52 [some (.ref 52), some (.int (nI i)), some (.int c4), some (.int (nI L))] [] g P) : ∀ (d : Nat) (k : Nat) (g : ai_H), L < k + d → (k ≤ L) → (Fr 75 76 h g) → (AN g 75 4 k x) → Rk X am_278 36 [some (.ref 52), some (.int (nI i)), some (.int c4), some (.int (nI k))] [] g (P) := by
  intro d
  induction d with
  | zero => intro k g hd hk F S; exfalso; omega
  | succ d ih =>
    intro k g hd hk F S
    obtain ⟨a0, a1, a268, a269, a270, a271, apl, apc, aot, asg, awt⟩ := id M
    have e52 := (F.2 52 (by omega)).trans c0
    have e53 := (F.2 53 (by omega)).trans c1
    have e78 := (F.2 78 (by omega)).trans c78
    have e79 := (F.2 79 (by omega)).trans c79
    have F0 : Fr 75 76 h g := F
    obtain ⟨f75, c75, hf75⟩ := id S
    refine rk_iload_n rfl rfl ?_
    refine rk_aload_n rfl rfl ?_
    refine rk_get rfl (by assumption) rfl ?_
    refine rk_iload_n rfl rfl ?_
    refine rk_iald rfl (by assumption) (rfl) (by omega) (by decide) ?_
    rw [hm]
    refine rk_icmp_ge rfl rfl (fun hc41 => ?_) (fun hc41 => ?_)
    · replace hc41 := (nI_leI (by omega) (by omega)).mp hc41
      have hk2 : k = L := by omega
      subst hk2
      exact z g F S
    · replace hc41 := mt (nI_leI (by omega) (by omega)).mpr hc41
      refine rk_aload_n rfl rfl ?_
      refine rk_get rfl (by assumption) rfl ?_
      refine rk_iload_n rfl rfl ?_
      refine rk_aload_n rfl rfl ?_
      refine rk_iload_n rfl rfl ?_
      refine rk_iload_n rfl rfl ?_
      refine rk_cv2e rfl rfl (by assumption) rfl rfl (Nat.le_of_ble_eq_true rfl) (Nat.le_of_ble_eq_true rfl) (s222 e52 e79 hi (by omega) (hx k (by omega)).2) ?_
      refine rk_iast rfl c75 (rfl) (by omega) (by decide) ?_
      refine hp_gen c75 (fun h1 g1 hk1 hl1 => ?_)
      replace e52 := (hk1 _ (by omega)).trans e52
      replace e53 := (hk1 _ (by omega)).trans e53
      replace F0 := F0.tr (Fr.mk1 hk1 hl1 (by omega) (by omega))
      replace c75 := g1
      refine rk_iinc rfl rfl (n_inc _) rfl ?_
      refine rk_goto rfl rfl ?_
      exact ih (k + 1) _ (by omega) (by omega) F0 (AN.add c75 hf75 rfl)
theorem SM.of75 {h h1 : ai_H} {v : Nat → Int32} (c0 : h[52]? = some (cMdl v)) (F : Fr 73 76 h h1) : SM h h1 := ⟨F.1, fun q _ _ _ => F.2 q (by omega), v, v, c0, (F.2 52 (by omega)).trans c0, rfl, rfl, rfl, rfl⟩
theorem m278_x {X : ai_X} {h : ai_H} {v A : Nat → Int32} {N : Nat → Nat} (c0 : h[52]? = some (cMdl v)) (c1 : h[53]? = some (cI 2346 A)) (hN : HN N) (M : MH A N) {a : Int32} (ha : ¬ (¬ a < 0 ∧ ¬ nI 4 ≤ a)) : Rk X am_278 3 (ai_loc (ai_mL am_278) [.ref 52, .int a]) [] h (Qi (fun y h1 => y = -2 ∧ SM h h1)) := by
  obtain ⟨a0, a1, a268, a269, a270, a271, apl, apc, aot, asg, awt⟩ := id M
  refine rk_iload_n rfl rfl ?_
  refine rk_i2l rfl rfl ?_
  refine rk_lconst (v := 0) rfl (by decide) ?_
  rw [show (0 : Int64) = (0 : Int32).toInt64 by decide]
  refine rk_ldc2 rfl ?_
  rw [show (3 : Int64) = (nI 3).toInt64 by decide]
  refine rk_cs3e rfl rfl rfl (Nat.le_of_ble_eq_true rfl) (Nat.le_of_ble_eq_true rfl) (s181 _ _ _) ?_
  refine rk_if_ne rfl rfl (fun hc8 => ?_) (fun hc8 => ?_)
  · replace hc8 := Decidable.not_not.mp (mt bI_0.mpr hc8)
    exact absurd (in34.mp hc8) ha
  · replace hc8 := Decidable.not_not.mp hc8
    replace hc8 := (bI_0).mp hc8
    refine rk_bipush (v := (-2)) rfl (by decide) ?_
    exact rk_ireturn rfl rfl ⟨_, _, rfl, rfl, SM.rf c0⟩
theorem m278_v {X : ai_X} {h : ai_H} {v A : Nat → Int32} {N : Nat → Nat} (c0 : h[52]? = some (cMdl v)) (c1 : h[53]? = some (cI 2346 A)) (hN : HN N) (M : MH A N) {i L : Nat} {code : Int32} {x : Nat → Nat} (hi : i < 4) (R : MRow h i (N 1) code L x) (S73 : ShJ h 73 14) (S74 : ShJ h 74 14) (S75 : ShI h 75 4) : Rk X am_278 3 (ai_loc (ai_mL am_278) [.ref 52, .int (nI i)]) [] h (Qi (fun y h1 => y = (if N 0 = 0 then -5 else if code = 0 then (if L ≤ 4 then nI (tH N x L (N 271)) else -3) else code) ∧ SM h h1)) := by
  obtain ⟨a0, a1, a268, a269, a270, a271, apl, apc, aot, asg, awt⟩ := id M
  have hn := hN.n
  have h8 := hN.w
  refine rk_iload_n rfl rfl ?_
  refine rk_i2l rfl rfl ?_
  refine rk_lconst (v := 0) rfl (by decide) ?_
  rw [show (0 : Int64) = (0 : Int32).toInt64 by decide]
  refine rk_ldc2 rfl ?_
  rw [show (3 : Int64) = (nI 3).toInt64 by decide]
  refine rk_cs3e rfl rfl rfl (Nat.le_of_ble_eq_true rfl) (Nat.le_of_ble_eq_true rfl) (s181 _ _ _) ?_
  refine rk_if_ne rfl rfl (fun hc8 => ?_) (fun hc8 => ?_)
  · replace hc8 := Decidable.not_not.mp (mt bI_0.mpr hc8)
    refine rk_aload_n rfl rfl ?_
    refine rk_get rfl (by assumption) rfl ?_
    refine rk_iconst (v := nI 0) rfl (by decide) ?_
    refine rk_iald rfl (by assumption) (rfl) (by omega) (by decide) ?_
    rw [a0]
    refine rk_if_ne rfl rfl (fun hc15 => ?_) (fun hc15 => ?_)
    · replace hc15 := mt (n0_eq (by omega)).mpr hc15
      refine rk_aload_n rfl rfl ?_
      refine rk_iload_n rfl rfl ?_
      refine rk_cv1e rfl rfl (by assumption) rfl rfl (Nat.le_of_ble_eq_true rfl) (Nat.le_of_ble_eq_true rfl) (s221 c0 c1 a1 hN.t hi R) ?_
      refine rk_istore_n rfl (Nat.le_of_ble_eq_true rfl) rfl ?_
      refine rk_iload_n rfl rfl ?_
      refine rk_if_eq rfl rfl (fun hc23 => ?_) (fun hc23 => ?_)
      · subst hc23
        obtain ⟨rm, nu, c3, c4, hm, hL, hx⟩ := R.good
        refine rk_aload_n rfl rfl ?_
        refine rk_get rfl (by assumption) rfl ?_
        refine rk_iload_n rfl rfl ?_
        refine rk_iald rfl (by assumption) (rfl) (by omega) (by decide) ?_
        rw [hm]
        refine rk_iconst (v := nI 4) rfl (by decide) ?_
        refine rk_icmp_le rfl rfl (fun hc31 => ?_) (fun hc31 => ?_)
        · replace hc31 := (nI_leI (by omega) (by omega)).mp hc31
          refine rk_iconst (v := nI 0) rfl (by decide) ?_
          refine rk_istore_n rfl (Nat.le_of_ble_eq_true rfl) rfl ?_
          obtain ⟨f0, c75⟩ := S75
          refine l278 c0 c1 c3 c4 hN M hi hm hx (by omega) (fun g F A => ?_) (L + 1) 0 h (by omega) (by omega) Fr.rfl' ⟨f0, c75, fun j hj => absurd hj (by omega)⟩
          have e52 := (F.2 52 (by omega)).trans c0
          have e53 := (F.2 53 (by omega)).trans c1
          have e78 := (F.2 78 (by omega)).trans c3
          refine rk_aload_n rfl rfl ?_
          refine rk_aload_n rfl rfl ?_
          refine rk_get rfl (by assumption) rfl ?_
          refine rk_iload_n rfl rfl ?_
          refine rk_iald rfl (by assumption) (rfl) (by omega) (by decide) ?_
          rw [hm]
          refine rk_cv1i rfl rfl (by assumption) rfl rfl (Nat.le_of_ble_eq_true rfl) (Nat.le_of_ble_eq_true rfl) (s277 e52 e53 hN M A (fun j hj => (hx j hj).1) (by omega) (by have := hN.2.2.1; omega) (S73.fr (F.2 73 (by omega))) (S74.fr (F.2 74 (by omega)))) (fun w h1 hF => ?_)
          obtain ⟨rfl, F3⟩ := hF
          exact rk_ireturn rfl rfl ⟨_, _, rfl, by rw [if_neg (by omega), if_pos rfl, if_pos (by omega)], SM.of75 c0 ((F.mono (by omega) (by omega)).tr (F3.mono (by omega) (by omega)))⟩
        · replace hc31 := mt (nI_leI (by omega) (by omega)).mpr hc31
          refine rk_bipush (v := (-3)) rfl (by decide) ?_
          exact rk_ireturn rfl rfl ⟨_, _, rfl, by first | rw [if_pos (by omega)] | rw [if_neg (by omega), if_neg (by assumption)] | (rw [if_neg (by omega), if_pos rfl, if_neg (by omega)]), SM.rf c0⟩
      · refine rk_iload_n rfl rfl ?_
        exact rk_ireturn rfl rfl ⟨_, _, rfl, by first | rw [if_pos (by omega)] | rw [if_neg (by omega), if_neg (by assumption)] | (rw [if_neg (by omega), if_pos rfl, if_neg (by omega)]), SM.rf c0⟩
    · replace hc15 := Decidable.not_not.mp hc15
      replace hc15 := (n0_eq (by omega)).mp hc15
      refine rk_bipush (v := (-5)) rfl (by decide) ?_
      exact rk_ireturn rfl rfl ⟨_, _, rfl, by first | rw [if_pos (by omega)] | rw [if_neg (by omega), if_neg (by assumption)] | (rw [if_neg (by omega), if_pos rfl, if_neg (by omega)]), SM.rf c0⟩
  · replace hc8 := Decidable.not_not.mp hc8
    replace hc8 := (bI_0).mp hc8
    exact absurd (in3_mk hi) hc8
theorem ob36 (X : ai_X) : O36 X Inv := by
  intro a
  refine ob_scr fun m c' s h I => ?_
  obtain ⟨S73, S74, S75⟩ := I.s734
  obtain ⟨tp, v, A, N, ro, d0, d52, d53, hN, C, M, d19, hro, Q, RR, O⟩ := I.dat
  by_cases ha : ¬ a < 0 ∧ ¬ nI 4 ≤ a
  · obtain ⟨i, hi, rfl⟩ := in_of (by omega) ha
    obtain ⟨code, L, x, RC, RM⟩ := RR i hi
    exact ⟨_, c169_v d0 hN C d19 hro Q O hi RC, fun h1 S => md_sc2 rfl rfl rfl rfl ((S.m (by omega)).trans d52) (fun h2 g2 hk => m278_v g2 ((S.m2 hk (by omega) (by omega)).trans d53) hN M hi (RM.m2 S hk) (S73.fr (S.m2 hk (by omega) (by omega))) (S74.fr (S.m2 hk (by omega) (by omega))) (S75.fr (S.m2 hk (by omega) (by omega))))⟩
  · exact ⟨_, c169_x d0 hN C d19 hro Q O ha, fun h1 S => md_sc2 rfl rfl rfl rfl ((S.m (by omega)).trans d52) (fun h2 g2 hk => m278_x g2 ((S.m2 hk (by omega) (by omega)).trans d53) hN M ha)⟩
