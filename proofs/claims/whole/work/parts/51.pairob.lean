/-! MEET, NEVER, ALIKE, CLASSES, PROOF -/
theorem MB.mq {h : ai_H} {w : Nat → Int32} {mk : Nat} {r1 r2 : Nat → Nat} {B : Bf} (hm : mk < 2 ^ 29) (S : MB h w mk r1 r2 B) : MQs h mk := by
  obtain ⟨sm, m1, m2⟩ := S.marks
  obtain ⟨v, f57, f58, f59, f60, sp, sm', T, -, ⟨c0, h21, h22, c57, c58, c61, -⟩, c59, c60, -⟩ := S
  exact ⟨v, c0, h22, hm, ⟨_, c57⟩, ⟨_, c58⟩, ⟨_, c59⟩, ⟨_, c60⟩, ⟨_, c61⟩, sm, m1, m2⟩
theorem MW.tr {h : ai_H} {v w : Nat → Int32} {mk : Nat} (e : v 5 = w 5 ∧ v 13 = w 13 ∧ v 14 = w 14) (H : MW h v mk) : MW h w mk := by
  obtain ⟨v1, a, b1, b2, b3, c⟩ := H
  exact ⟨v1, a, b1.trans e.1, b2.trans e.2.1, b3.trans e.2.2, c⟩
/-- the model between two of its searches: mk of them so far -/
def MR (h : ai_H) (w : Nat → Int32) (mk : Nat) : Prop := MQs h mk ∧ MW h w mk
theorem MR.obj {h : ai_H} {w : Nat → Int32} {mk : Nat} (H : MR h w mk) : ∃ v, h[52]? = some (cMdl v) ∧ v 5 = w 5 ∧ v 13 = w 13 ∧ v 14 = w 14 := by
  obtain ⟨-, v1, a, b1, b2, b3, -⟩ := H
  exact ⟨v1, a, b1, b2, b3⟩
theorem MB.mr {h : ai_H} {v w : Nat → Int32} {mk : Nat} {r1 r2 : Nat → Nat} {B : Bf} (hm : mk < 2 ^ 29) (e : v 5 = w 5 ∧ v 13 = w 13 ∧ v 14 = w 14) (S : MB h v mk r1 r2 B) : MR h w mk := ⟨S.mq hm, S.mw.tr e⟩
/-- a search by pairs, its answer against the least number -/
theorem s241E {X : ai_X} {h : ai_H} {w A : Nat → Int32} {N : Nat → Nat} {mk a b : Nat} (c53 : h[53]? = some (cI 2346 A)) (hN : HN N) (M : MH A N) (ha : a < N 0) (hb : b < N 0) (H : MR h w mk) (hmk : mk < 2 ^ 28) : Mt X am_241 [.ref 52, .int (nI a), .int (nI b)] h (Qi (fun y h1 => FrM h h1 ∧ MR h1 w (mk + 1) ∧ ((y = -1 ∧ ev N gM 196 (a * 14 + b) = -1) ∨ ∃ k B, y = nI k ∧ k < 196 ∧ Pre B (bfK (nxP N) okA (N 1) (a * 14 + b) 196) ∧ BI (nxP N) okA (N 1) (a * 14 + b) B ∧ k < B.m ∧ (∃ w1, (w1 5 = w 5 ∧ w1 13 = w 13 ∧ w1 14 = w 14) ∧ MB h1 w1 (mk + 1) (fun x => x / 14) (fun x => x % 14) B) ∧ ev N gM 196 (a * 14 + b) = nI (dep B.pa k) ∧ lsP N gM (dep B.pa k) (a * 14 + b) ∧ dep B.pa k < 196 ∧ ∀ i, i < dep B.pa k → rowTo B k i = gr (nxP N) (N 1) gM (dep B.pa k) (a * 14 + b) i))) := by
  obtain ⟨v, e52, ev1, ev2, ev3⟩ := H.obj
  have hv := vP_ab hN ha hb
  refine (s241 e52 c53 hN M ha hb H.1).mono ?_
  rintro o ⟨y, h1, rfl, F1, ⟨rfl, z2, z3⟩ | ⟨k, B, rfl, k1, z2, z3, z4, z5, z6, z7⟩⟩
  · exact ⟨_, _, rfl, F1, z3.mr (by omega) ⟨ev1, ev2, ev3⟩, Or.inl ⟨rfl, (pair_no hN hv z2).2⟩⟩
  · obtain ⟨y1, y2, y3, y4⟩ := pair_ev hN hv z2 z3 z4 z5 z6
    exact ⟨_, _, rfl, F1, z7.mr (by omega) ⟨ev1, ev2, ev3⟩, Or.inr ⟨k, B, rfl, k1, z2, z3, z4, ⟨v, ⟨ev1, ev2, ev3⟩, z7⟩, y2, y1, y3, y4⟩⟩
/-- a search by pairs, its answer against the least number -/
theorem s261E {X : ai_X} {h : ai_H} {w A : Nat → Int32} {N : Nat → Nat} {mk a b : Nat} (c53 : h[53]? = some (cI 2346 A)) (hN : HN N) (M : MH A N) (ha : a < N 0) (hb : b < N 0) (H : MR h w mk) (hmk : mk < 2 ^ 28) : Mt X am_261 [.ref 52, .int (nI a), .int (nI b)] h (Qi (fun y h1 => FrM h h1 ∧ MR h1 w (mk + 1) ∧ ((y = -1 ∧ ev N (gS N) 196 (a * 14 + b) = -1) ∨ ∃ k B, y = nI k ∧ k < 196 ∧ Pre B (bfK (nxP N) okA (N 1) (a * 14 + b) 196) ∧ BI (nxP N) okA (N 1) (a * 14 + b) B ∧ k < B.m ∧ (∃ w1, (w1 5 = w 5 ∧ w1 13 = w 13 ∧ w1 14 = w 14) ∧ MB h1 w1 (mk + 1) (fun x => x / 14) (fun x => x % 14) B) ∧ ev N (gS N) 196 (a * 14 + b) = nI (dep B.pa k) ∧ lsP N (gS N) (dep B.pa k) (a * 14 + b) ∧ dep B.pa k < 196 ∧ ∀ i, i < dep B.pa k → rowTo B k i = gr (nxP N) (N 1) (gS N) (dep B.pa k) (a * 14 + b) i))) := by
  obtain ⟨v, e52, ev1, ev2, ev3⟩ := H.obj
  have hv := vP_ab hN ha hb
  refine (s261 e52 c53 hN M ha hb H.1).mono ?_
  rintro o ⟨y, h1, rfl, F1, ⟨rfl, z2, z3⟩ | ⟨k, B, rfl, k1, z2, z3, z4, z5, z6, z7⟩⟩
  · exact ⟨_, _, rfl, F1, z3.mr (by omega) ⟨ev1, ev2, ev3⟩, Or.inl ⟨rfl, (pair_no hN hv z2).2⟩⟩
  · obtain ⟨y1, y2, y3, y4⟩ := pair_ev hN hv z2 z3 z4 z5 z6
    exact ⟨_, _, rfl, F1, z7.mr (by omega) ⟨ev1, ev2, ev3⟩, Or.inr ⟨k, B, rfl, k1, z2, z3, z4, ⟨v, ⟨ev1, ev2, ev3⟩, z7⟩, y2, y1, y3, y4⟩⟩
theorem c147_x {X : ai_X} {h : ai_H} {tp : Int32} {N : Nat → Nat} (d0 : h[0]? = some (cOne tp)) (hN : HN N) (C : CH h 3 N) {a b : Int32} (hx : ¬ ((¬ a < 0 ∧ ¬ nI (N 0) ≤ a) ∧ (¬ b < 0 ∧ ¬ nI (N 0) ≤ b))) : Mt X am_147 [.ref 0, .int a, .int b] h (Qe (-2) h) := by
  have e3 := C.1
  have hn := hN.n
  refine rk_aload_n rfl rfl ?_
  refine rk_get rfl (by assumption) rfl ?_
  refine rk_iload_n rfl rfl ?_
  refine rk_cv1e rfl rfl (by assumption) rfl rfl (Nat.le_of_ble_eq_true rfl) (Nat.le_of_ble_eq_true rfl) (s23N C _) ?_
  refine rk_if_eq rfl rfl (fun hc4 => ?_) (fun hc4 => ?_)
  · replace hc4 := (bI_0).mp hc4
    refine rk_bipush (v := (-2)) rfl (by decide) ?_
    exact rk_ireturn rfl rfl Qe_mk
  · replace hc4 := Decidable.not_not.mp (mt bI_0.mpr hc4)
    refine rk_aload_n rfl rfl ?_
    refine rk_get rfl (by assumption) rfl ?_
    refine rk_iload_n rfl rfl ?_
    refine rk_cv1e rfl rfl (by assumption) rfl rfl (Nat.le_of_ble_eq_true rfl) (Nat.le_of_ble_eq_true rfl) (s23N C _) ?_
    refine rk_if_ne rfl rfl (fun hc9 => ?_) (fun hc9 => ?_)
    · replace hc9 := Decidable.not_not.mp (mt bI_0.mpr hc9)
      exact absurd ⟨hc4, hc9⟩ hx
    · replace hc9 := Decidable.not_not.mp hc9
      replace hc9 := (bI_0).mp hc9
      refine rk_bipush (v := (-2)) rfl (by decide) ?_
      exact rk_ireturn rfl rfl Qe_mk
theorem c158_x {X : ai_X} {h : ai_H} {tp : Int32} {N : Nat → Nat} (d0 : h[0]? = some (cOne tp)) (hN : HN N) (C : CH h 3 N) {a b : Int32} (hx : ¬ ((¬ a < 0 ∧ ¬ nI (N 0) ≤ a) ∧ (¬ b < 0 ∧ ¬ nI (N 0) ≤ b))) : Mt X am_158 [.ref 0, .int a, .int b] h (Qe (-2) h) := by
  have e3 := C.1
  have hn := hN.n
  refine rk_aload_n rfl rfl ?_
  refine rk_get rfl (by assumption) rfl ?_
  refine rk_iload_n rfl rfl ?_
  refine rk_cv1e rfl rfl (by assumption) rfl rfl (Nat.le_of_ble_eq_true rfl) (Nat.le_of_ble_eq_true rfl) (s23N C _) ?_
  refine rk_if_eq rfl rfl (fun hc4 => ?_) (fun hc4 => ?_)
  · replace hc4 := (bI_0).mp hc4
    refine rk_bipush (v := (-2)) rfl (by decide) ?_
    exact rk_ireturn rfl rfl Qe_mk
  · replace hc4 := Decidable.not_not.mp (mt bI_0.mpr hc4)
    refine rk_aload_n rfl rfl ?_
    refine rk_get rfl (by assumption) rfl ?_
    refine rk_iload_n rfl rfl ?_
    refine rk_cv1e rfl rfl (by assumption) rfl rfl (Nat.le_of_ble_eq_true rfl) (Nat.le_of_ble_eq_true rfl) (s23N C _) ?_
    refine rk_if_ne rfl rfl (fun hc9 => ?_) (fun hc9 => ?_)
    · replace hc9 := Decidable.not_not.mp (mt bI_0.mpr hc9)
      exact absurd ⟨hc4, hc9⟩ hx
    · replace hc9 := Decidable.not_not.mp hc9
      replace hc9 := (bI_0).mp hc9
      refine rk_bipush (v := (-2)) rfl (by decide) ?_
      exact rk_ireturn rfl rfl Qe_mk
theorem c160_x {X : ai_X} {h : ai_H} {tp : Int32} {N : Nat → Nat} (d0 : h[0]? = some (cOne tp)) (hN : HN N) (C : CH h 3 N) {a b : Int32} (hx : ¬ ((¬ a < 0 ∧ ¬ nI (N 0) ≤ a) ∧ (¬ b < 0 ∧ ¬ nI (N 0) ≤ b))) : Mt X am_160 [.ref 0, .int a, .int b] h (Qe (-2) h) := by
  have e3 := C.1
  have hn := hN.n
  refine rk_aload_n rfl rfl ?_
  refine rk_get rfl (by assumption) rfl ?_
  refine rk_iload_n rfl rfl ?_
  refine rk_cv1e rfl rfl (by assumption) rfl rfl (Nat.le_of_ble_eq_true rfl) (Nat.le_of_ble_eq_true rfl) (s23N C _) ?_
  refine rk_if_eq rfl rfl (fun hc4 => ?_) (fun hc4 => ?_)
  · replace hc4 := (bI_0).mp hc4
    refine rk_bipush (v := (-2)) rfl (by decide) ?_
    exact rk_ireturn rfl rfl Qe_mk
  · replace hc4 := Decidable.not_not.mp (mt bI_0.mpr hc4)
    refine rk_aload_n rfl rfl ?_
    refine rk_get rfl (by assumption) rfl ?_
    refine rk_iload_n rfl rfl ?_
    refine rk_cv1e rfl rfl (by assumption) rfl rfl (Nat.le_of_ble_eq_true rfl) (Nat.le_of_ble_eq_true rfl) (s23N C _) ?_
    refine rk_if_ne rfl rfl (fun hc9 => ?_) (fun hc9 => ?_)
    · replace hc9 := Decidable.not_not.mp (mt bI_0.mpr hc9)
      exact absurd ⟨hc4, hc9⟩ hx
    · replace hc9 := Decidable.not_not.mp hc9
      replace hc9 := (bI_0).mp hc9
      refine rk_bipush (v := (-2)) rfl (by decide) ?_
      exact rk_ireturn rfl rfl Qe_mk
theorem c147_v {X : ai_X} {h : ai_H} {tp : Int32} {N : Nat → Nat} (d0 : h[0]? = some (cOne tp)) (hN : HN N) (C : CH h 3 N) {f0 : Nat → Int32} (d27 : h[27]? = some cPa) (c28 : h[28]? = some (cI 196 f0)) {a b : Nat} (ha : a < N 0) (hb : b < N 0) : Mt X am_147 [.ref 0, .int (nI a), .int (nI b)] h (Qi (fun w h1 => w = ev N gM 196 (a * 14 + b) ∧ Fr 28 29 h h1)) := by
  have e3 := C.1
  have hn := hN.n
  refine rk_aload_n rfl rfl ?_
  refine rk_get rfl (by assumption) rfl ?_
  refine rk_iload_n rfl rfl ?_
  refine rk_cv1e rfl rfl (by assumption) rfl rfl (Nat.le_of_ble_eq_true rfl) (Nat.le_of_ble_eq_true rfl) (s23N C _) ?_
  refine rk_if_eq rfl rfl (fun hc4 => ?_) (fun hc4 => ?_)
  · replace hc4 := (bI_0).mp hc4
    exact absurd (in_mk (by omega) ha) hc4
  · replace hc4 := Decidable.not_not.mp (mt bI_0.mpr hc4)
    refine rk_aload_n rfl rfl ?_
    refine rk_get rfl (by assumption) rfl ?_
    refine rk_iload_n rfl rfl ?_
    refine rk_cv1e rfl rfl (by assumption) rfl rfl (Nat.le_of_ble_eq_true rfl) (Nat.le_of_ble_eq_true rfl) (s23N C _) ?_
    refine rk_if_ne rfl rfl (fun hc9 => ?_) (fun hc9 => ?_)
    · replace hc9 := Decidable.not_not.mp (mt bI_0.mpr hc9)
      refine rk_aload_n rfl rfl ?_
      refine rk_get rfl (by assumption) rfl ?_
      refine rk_aload_n rfl rfl ?_
      refine rk_get rfl (by assumption) rfl ?_
      refine rk_cv1v rfl rfl (by assumption) rfl rfl (Nat.le_of_ble_eq_true rfl) (Nat.le_of_ble_eq_true rfl) (s52 hN C d27 c28 (by omega)) (fun h1 hF => ?_)
      obtain ⟨F1, f1, g28, hf1⟩ := hF
      have e0 := (F1.2 0 (by omega)).trans d0
      have e27 := (F1.2 27 (by omega)).trans d27
      have C1 := C.fr2 F1 (by omega)
      replace e3 := C1.1
      refine rk_aload_n rfl rfl ?_
      refine rk_get rfl (by assumption) rfl ?_
      refine rk_iload_n rfl rfl ?_
      refine rk_iload_n rfl rfl ?_
      refine rk_cv2e rfl rfl (by assumption) rfl rfl (Nat.le_of_ble_eq_true rfl) (Nat.le_of_ble_eq_true rfl) (s51 e27 g28 (by omega) (by omega)) ?_
      rw [hf1 a b ha hb]
      exact rk_ireturn rfl rfl ⟨_, _, rfl, rfl, F1⟩
    · replace hc9 := Decidable.not_not.mp hc9
      replace hc9 := (bI_0).mp hc9
      exact absurd (in_mk (by omega) hb) hc9
theorem c158_v {X : ai_X} {h : ai_H} {tp : Int32} {N : Nat → Nat} (d0 : h[0]? = some (cOne tp)) (hN : HN N) (C : CH h 3 N) {f0 : Nat → Int32} (d27 : h[27]? = some cPa) (c28 : h[28]? = some (cI 196 f0)) {a b : Nat} (ha : a < N 0) (hb : b < N 0) : Mt X am_158 [.ref 0, .int (nI a), .int (nI b)] h (Qi (fun w h1 => w = bI (ev N (gS N) 196 (a * 14 + b) = -1) ∧ Fr 28 29 h h1)) := by
  have e3 := C.1
  have hn := hN.n
  refine rk_aload_n rfl rfl ?_
  refine rk_get rfl (by assumption) rfl ?_
  refine rk_iload_n rfl rfl ?_
  refine rk_cv1e rfl rfl (by assumption) rfl rfl (Nat.le_of_ble_eq_true rfl) (Nat.le_of_ble_eq_true rfl) (s23N C _) ?_
  refine rk_if_eq rfl rfl (fun hc4 => ?_) (fun hc4 => ?_)
  · replace hc4 := (bI_0).mp hc4
    exact absurd (in_mk (by omega) ha) hc4
  · replace hc4 := Decidable.not_not.mp (mt bI_0.mpr hc4)
    refine rk_aload_n rfl rfl ?_
    refine rk_get rfl (by assumption) rfl ?_
    refine rk_iload_n rfl rfl ?_
    refine rk_cv1e rfl rfl (by assumption) rfl rfl (Nat.le_of_ble_eq_true rfl) (Nat.le_of_ble_eq_true rfl) (s23N C _) ?_
    refine rk_if_ne rfl rfl (fun hc9 => ?_) (fun hc9 => ?_)
    · replace hc9 := Decidable.not_not.mp (mt bI_0.mpr hc9)
      refine rk_aload_n rfl rfl ?_
      refine rk_get rfl (by assumption) rfl ?_
      refine rk_aload_n rfl rfl ?_
      refine rk_get rfl (by assumption) rfl ?_
      refine rk_cv1v rfl rfl (by assumption) rfl rfl (Nat.le_of_ble_eq_true rfl) (Nat.le_of_ble_eq_true rfl) (s53 hN C d27 c28 (by omega)) (fun h1 hF => ?_)
      obtain ⟨F1, f1, g28, hf1⟩ := hF
      have e0 := (F1.2 0 (by omega)).trans d0
      have e27 := (F1.2 27 (by omega)).trans d27
      have C1 := C.fr2 F1 (by omega)
      replace e3 := C1.1
      refine rk_aload_n rfl rfl ?_
      refine rk_get rfl (by assumption) rfl ?_
      refine rk_iload_n rfl rfl ?_
      refine rk_iload_n rfl rfl ?_
      refine rk_cv2e rfl rfl (by assumption) rfl rfl (Nat.le_of_ble_eq_true rfl) (Nat.le_of_ble_eq_true rfl) (s51 e27 g28 (by omega) (by omega)) ?_
      rw [hf1 a b ha hb]
      refine rk_iconst (v := (-1)) rfl (by decide) ?_
      refine rk_icmp_ne rfl rfl (fun hc23 => ?_) (fun hc23 => ?_)
      · refine rk_iconst (v := nI 0) rfl (by decide) ?_
        first | exact rk_ireturn rfl rfl ⟨_, _, rfl, by rw [bI_t (by assumption)]; rfl, F1⟩ | exact rk_ireturn rfl rfl ⟨_, _, rfl, by rw [bI_f (by assumption)]; rfl, F1⟩
      · replace hc23 := Decidable.not_not.mp hc23
        refine rk_iconst (v := nI 1) rfl (by decide) ?_
        refine rk_goto rfl rfl ?_
        first | exact rk_ireturn rfl rfl ⟨_, _, rfl, by rw [bI_t (by assumption)]; rfl, F1⟩ | exact rk_ireturn rfl rfl ⟨_, _, rfl, by rw [bI_f (by assumption)]; rfl, F1⟩
    · replace hc9 := Decidable.not_not.mp hc9
      replace hc9 := (bI_0).mp hc9
      exact absurd (in_mk (by omega) hb) hc9
def nvb (N : Nat → Nat) (a : Nat) : Nat := ffi (fun b => decide (ev N gM 196 (a * 14 + b) = -1)) (N 0 - (a + 1)) (a + 1)
def nva (N : Nat → Nat) : Nat := ffi (fun a => decide (nvb N a < N 0)) (N 0) 0
def nev (N : Nat → Nat) : Int32 := if nva N = N 0 then -1 else nI (100 * nva N + nvb N (nva N))
theorem nvb_no {N : Nat → Nat} {a : Nat} (ha : a < N 0) (h : ∀ b, a < b → b < N 0 → ¬ ev N gM 196 (a * 14 + b) = -1) : nvb N a = N 0 := by
  unfold nvb
  rw [ffi_no _ _ (fun i a1 a2 z => h i (by omega) (by omega) (of_decide_eq_true z))]
  omega
theorem nev_no {N : Nat → Nat} (h : ∀ a b, a < b → b < N 0 → ¬ ev N gM 196 (a * 14 + b) = -1) : nev N = -1 := by
  have : nva N = N 0 := by
    unfold nva
    rw [ffi_no _ _ (fun i a1 a2 z => by
      have := nvb_no (show i < N 0 by omega) (h i)
      have z2 := of_decide_eq_true z
      omega)]
    omega
  rw [nev, if_pos this]
theorem nev_at {N : Nat → Nat} {a b : Nat} (hab : a < b) (hb : b < N 0) (h : ev N gM 196 (a * 14 + b) = -1) (h1 : ∀ b', a < b' → b' < b → ¬ ev N gM 196 (a * 14 + b') = -1) (h2 : ∀ a' b', a' < a → a' < b' → b' < N 0 → ¬ ev N gM 196 (a' * 14 + b') = -1) : nI (100 * a + b) = nev N := by
  have e1 : nvb N a = b := ffi_at _ _ b (by omega) (by omega) (decide_eq_true h) (fun i a1 a2 z => h1 i (by omega) a2 (of_decide_eq_true z))
  have e2 : nva N = a := ffi_at _ _ a (by omega) (by omega) (decide_eq_true (by rw [e1]; exact hb)) (fun i a1 a2 z => by
    have := nvb_no (show i < N 0 by omega) (fun b' => h2 i b' a2)
    have z2 := of_decide_eq_true z
    omega)
  rw [nev, if_neg (by omega), e2, e1]
theorem l148i {X : ai_X} {h : ai_H} {tp : Int32} {N : Nat → Nat} (d0 : h[0]? = some (cOne tp)) (hN : HN N) (C : CH h 3 N) {f : Nat → Int32} (d27 : h[27]? = some cPa) (c28 : h[28]? = some (cI 196 f)) (hf : ∀ x y, x < N 0 → y < N 0 → f (x * 14 + y) = ev N gM 196 (x * 14 + y)) {a : Nat} (ha : a < N 0) (h2 : ∀ a' b', a' < a → a' < b' → b' < N 0 → ¬ ev N gM 196 (a' * 14 + b') = -1) (z : (∀ b', a < b' → b' < N 0 → ¬ ev N gM 196 (a * 14 + b') = -1) → Rk X am_148 36 [some (.ref 0), some (.int (nI a)), some (.int (nI (N 0)))] [] h (Qe (nev N) h)) : ∀ (d : Nat) (b : Nat), N 0 < b + d → (a < b) → (b ≤ N 0) → (∀ b', a < b' → b' < b → ¬ ev N gM 196 (a * 14 + b') = -1) → Rk X am_148 16 [some (.ref 0), some (.int (nI a)), some (.int (nI b))] [] h (Qe (nev N) h) := by
  intro d
  induction d with
  | zero => intro b hd hab hb h1; exfalso; omega
  | succ d ih =>
    intro b hd hab hb h1
    have e3 := C.1
    have hn := hN.n
    refine rk_iload_n rfl rfl ?_
    refine rk_aload_n rfl rfl ?_
    refine rk_get rfl (by assumption) rfl ?_
    refine rk_get rfl (by assumption) rfl ?_
    refine rk_icmp_ge rfl rfl (fun hc20 => ?_) (fun hc20 => ?_)
    · replace hc20 := (nI_leI (by omega) (by omega)).mp hc20
      have hb2 : b = N 0 := by omega
      subst hb2
      exact z h1
    · replace hc20 := mt (nI_leI (by omega) (by omega)).mpr hc20
      refine rk_aload_n rfl rfl ?_
      refine rk_get rfl (by assumption) rfl ?_
      refine rk_iload_n rfl rfl ?_
      refine rk_iload_n rfl rfl ?_
      refine rk_cv2e rfl rfl (by assumption) rfl rfl (Nat.le_of_ble_eq_true rfl) (Nat.le_of_ble_eq_true rfl) (s51 d27 c28 (by omega) (by omega)) ?_
      rw [hf a b ha (by omega)]
      refine rk_iconst (v := (-1)) rfl (by decide) ?_
      refine rk_icmp_ne rfl rfl (fun hc27 => ?_) (fun hc27 => ?_)
      · refine rk_iinc rfl rfl (n_inc _) rfl ?_
        refine rk_goto rfl rfl ?_
        refine ih (b + 1) (by omega) (by omega) (by omega) (fun b' a1 a2 => ?_)
        by_cases y : b' = b
        · subst y; exact hc27
        · exact h1 b' a1 (by omega)
      · replace hc27 := Decidable.not_not.mp hc27
        refine rk_bipush (v := nI 100) rfl (by decide) ?_
        refine rk_iload_n rfl rfl ?_
        refine rk_imul rfl (pk_mul _ _) ?_
        refine rk_iload_n rfl rfl ?_
        refine rk_iadd rfl (nI_add _ _) ?_
        exact rk_ireturn rfl rfl (Qe_of (nev_at hab (by omega) hc27 h1 h2))
theorem l148 {X : ai_X} {h : ai_H} {tp : Int32} {N : Nat → Nat} (d0 : h[0]? = some (cOne tp)) (hN : HN N) (C : CH h 3 N) {f : Nat → Int32} (d27 : h[27]? = some cPa) (c28 : h[28]? = some (cI 196 f)) (hf : ∀ x y, x < N 0 → y < N 0 → f (x * 14 + y) = ev N gM 196 (x * 14 + y)) : ∀ (d : Nat) (a : Nat) (c2 : Option Value), N 0 < a + d → (a ≤ N 0) → (∀ a' b', a' < a → a' < b' → b' < N 0 → ¬ ev N gM 196 (a' * 14 + b') = -1) → Rk X am_148 7 [some (.ref 0), some (.int (nI a)), c2] [] h (Qe (nev N) h) := by
  intro d
  induction d with
  | zero => intro a c2 hd ha h2; exfalso; omega
  | succ d ih =>
    intro a c2 hd ha h2
    have e3 := C.1
    have hn := hN.n
    refine rk_iload_n rfl rfl ?_
    refine rk_aload_n rfl rfl ?_
    refine rk_get rfl (by assumption) rfl ?_
    refine rk_get rfl (by assumption) rfl ?_
    refine rk_icmp_ge rfl rfl (fun hc11 => ?_) (fun hc11 => ?_)
    · replace hc11 := (nI_leI (by omega) (by omega)).mp hc11
      refine rk_iconst (v := (-1)) rfl (by decide) ?_
      exact rk_ireturn rfl rfl (Qe_of (nev_no (fun a' b' a1 a2 => h2 a' b' (by omega) a1 a2)).symm)
    · replace hc11 := mt (nI_leI (by omega) (by omega)).mpr hc11
      refine rk_iload_n rfl rfl ?_
      refine rk_iconst (v := nI 1) rfl (by decide) ?_
      refine rk_iadd rfl (nI_add _ _) ?_
      refine rk_istore_n rfl (Nat.le_of_ble_eq_true rfl) rfl ?_
      refine l148i d0 hN C d27 c28 hf (by omega) h2 (fun y => ?_) (N 0 + 1) (a + 1) (by omega) (by omega) (by omega) (fun b' a1 a2 => by omega)
      refine rk_iinc rfl rfl (n_inc _) rfl ?_
      refine rk_goto rfl rfl ?_
      refine ih (a + 1) _ (by omega) (by omega) (fun a' b' a1 a2 a3 => ?_)
      by_cases q : a' = a
      · subst q; exact y b' a2 a3
      · exact h2 a' b' (by omega) a2 a3
theorem c148 {X : ai_X} {h : ai_H} {tp : Int32} {N : Nat → Nat} (d0 : h[0]? = some (cOne tp)) (hN : HN N) (C : CH h 3 N) {f0 : Nat → Int32} (d27 : h[27]? = some cPa) (c28 : h[28]? = some (cI 196 f0)) : Mt X am_148 [.ref 0] h (Qi (fun w h1 => w = nev N ∧ Fr 28 29 h h1)) := by
  have e3 := C.1
  have hn := hN.n
  refine rk_aload_n rfl rfl ?_
  refine rk_get rfl (by assumption) rfl ?_
  refine rk_aload_n rfl rfl ?_
  refine rk_get rfl (by assumption) rfl ?_
  refine rk_cv1v rfl rfl (by assumption) rfl rfl (Nat.le_of_ble_eq_true rfl) (Nat.le_of_ble_eq_true rfl) (s52 hN C d27 c28 (by omega)) (fun h1 hF => ?_)
  obtain ⟨F1, f1, g28, hf1⟩ := hF
  have e0 := (F1.2 0 (by omega)).trans d0
  have e27 := (F1.2 27 (by omega)).trans d27
  have C1 := C.fr2 F1 (by omega)
  replace e3 := C1.1
  refine rk_iconst (v := nI 0) rfl (by decide) ?_
  refine rk_istore_n rfl (Nat.le_of_ble_eq_true rfl) rfl ?_
  refine (l148 e0 hN C1 e27 g28 hf1 (N 0 + 1) 0 _ (by omega) (by omega) (fun a' b' a1 => absurd a1 (by omega))).mono ?_
  rintro o ⟨w, h2, rfl, rfl, rfl⟩
  exact ⟨_, _, rfl, rfl, F1⟩
def nfk (N : Nat → Nat) (a : Nat) : Bool := any (fun b => decide (ev N (gS N) 196 (b * 14 + a) = -1)) a
def clk (N : Nat → Nat) : Nat → Nat
  | 0 => 0
  | a + 1 => clk N a + if nfk N a = true then 0 else 1
theorem clk_le (N : Nat → Nat) : ∀ a, clk N a ≤ a
  | 0 => Nat.le_refl _
  | a + 1 => by have := clk_le N a; simp only [clk]; split <;> omega
theorem nfk_t {N : Nat → Nat} {a b : Nat} (hb : b < a) (h : ev N (gS N) 196 (b * 14 + a) = -1) : nfk N a = true := (any_iff a).mpr ⟨b, hb, decide_eq_true h⟩
theorem nfk_f {N : Nat → Nat} {a : Nat} (h : ∀ b, b < a → ¬ ev N (gS N) 196 (b * 14 + a) = -1) : ¬ nfk N a = true := fun z => by
  obtain ⟨b, hb, e⟩ := (any_iff a).mp z
  exact h b hb (of_decide_eq_true e)
theorem l59 {X : ai_X} {h : ai_H} {N : Nat → Nat} {f : Nat → Int32} (hN : HN N) (d27 : h[27]? = some cPa) (c28 : h[28]? = some (cI 196 f)) (hf : ∀ x y, x < N 0 → y < N 0 → f (x * 14 + y) = ev N (gS N) 196 (x * 14 + y)) {a : Nat} (ha : a < N 0) : ∀ (d : Nat) (b : Nat), a < b + d → (b ≤ a) → (∀ b', b' < b → ¬ ev N (gS N) 196 (b' * 14 + a) = -1) → Rk X am_59 2 [some (.ref 27), some (.int (nI a)), some (.int (nI b))] [] h (Qe (bI (¬ nfk N a = true)) h) := by
  intro d
  induction d with
  | zero => intro b hd hb h1; exfalso; omega
  | succ d ih =>
    intro b hd hb h1
    have hn := hN.n
    refine rk_iload_n rfl rfl ?_
    refine rk_iload_n rfl rfl ?_
    refine rk_icmp_ge rfl rfl (fun hc4 => ?_) (fun hc4 => ?_)
    · replace hc4 := (nI_leI (by omega) (by omega)).mp hc4
      refine rk_iconst (v := nI 1) rfl (by decide) ?_
      exact rk_ireturn rfl (by decide) (Qe_of (by rw [bI_t (nfk_f (fun b' y => h1 b' (by omega)))]; rfl))
    · replace hc4 := mt (nI_leI (by omega) (by omega)).mpr hc4
      refine rk_aload_n rfl rfl ?_
      refine rk_iload_n rfl rfl ?_
      refine rk_iload_n rfl rfl ?_
      refine rk_cv2e rfl rfl (by assumption) rfl rfl (Nat.le_of_ble_eq_true rfl) (Nat.le_of_ble_eq_true rfl) (s51 d27 c28 (by omega) (by omega)) ?_
      rw [hf b a (by omega) ha]
      refine rk_iconst (v := (-1)) rfl (by decide) ?_
      refine rk_icmp_ne rfl rfl (fun hc10 => ?_) (fun hc10 => ?_)
      · refine rk_iinc rfl rfl (n_inc _) rfl ?_
        refine rk_goto rfl rfl ?_
        refine ih (b + 1) (by omega) (by omega) (fun b' a1 => ?_)
        by_cases y : b' = b
        · subst y; exact hc10
        · exact h1 b' (by omega)
      · replace hc10 := Decidable.not_not.mp hc10
        refine rk_iconst (v := nI 0) rfl (by decide) ?_
        exact rk_ireturn rfl (by decide) (Qe_of (by rw [bI_f (fun z => z (nfk_t (by omega) hc10))]; rfl))
theorem s59 {X : ai_X} {h : ai_H} {N : Nat → Nat} {f : Nat → Int32} (hN : HN N) (d27 : h[27]? = some cPa) (c28 : h[28]? = some (cI 196 f)) (hf : ∀ x y, x < N 0 → y < N 0 → f (x * 14 + y) = ev N (gS N) 196 (x * 14 + y)) {a : Nat} (ha : a < N 0) : Mt X am_59 [.ref 27, .int (nI a)] h (Qe (bI (¬ nfk N a = true)) h) := by
  refine rk_iconst (v := nI 0) rfl (by decide) ?_
  refine rk_istore_n rfl (Nat.le_of_ble_eq_true rfl) rfl ?_
  exact l59 hN d27 c28 hf ha (a + 1) 0 (by omega) (by omega) (fun b' y => absurd y (by omega))
theorem l159 {X : ai_X} {h : ai_H} {tp : Int32} {N : Nat → Nat} (d0 : h[0]? = some (cOne tp)) (hN : HN N) (C : CH h 3 N) {f : Nat → Int32} (d27 : h[27]? = some cPa) (c28 : h[28]? = some (cI 196 f)) (hf : ∀ x y, x < N 0 → y < N 0 → f (x * 14 + y) = ev N (gS N) 196 (x * 14 + y)) : ∀ (d : Nat) (a : Nat), N 0 < a + d → (a ≤ N 0) → Rk X am_159 9 [some (.ref 0), some (.int (nI (clk N a))), some (.int (nI a))] [] h (Qe (nI (clk N (N 0))) h) := by
  intro d
  induction d with
  | zero => intro a hd ha; exfalso; omega
  | succ d ih =>
    intro a hd ha
    have e3 := C.1
    have hn := hN.n
    have hcle := clk_le N a
    refine rk_iload_n rfl rfl ?_
    refine rk_aload_n rfl rfl ?_
    refine rk_get rfl (by assumption) rfl ?_
    refine rk_get rfl (by assumption) rfl ?_
    refine rk_icmp_ge rfl rfl (fun hc13 => ?_) (fun hc13 => ?_)
    · replace hc13 := (nI_leI (by omega) (by omega)).mp hc13
      refine rk_iload_n rfl rfl ?_
      exact rk_ireturn rfl rfl (Qe_of (by rw [show a = N 0 by omega]))
    · replace hc13 := mt (nI_leI (by omega) (by omega)).mpr hc13
      refine rk_aload_n rfl rfl ?_
      refine rk_get rfl (by assumption) rfl ?_
      refine rk_iload_n rfl rfl ?_
      refine rk_cv1e rfl rfl (by assumption) rfl rfl (Nat.le_of_ble_eq_true rfl) (Nat.le_of_ble_eq_true rfl) (s59 hN d27 c28 hf (by omega)) ?_
      refine rk_if_eq rfl rfl (fun hc18 => ?_) (fun hc18 => ?_)
      · replace hc18 := (bI_0).mp hc18
        have hcl : clk N (a + 1) = clk N a := by rw [clk, if_pos (Decidable.not_not.mp hc18)]; rfl
        refine rk_iinc rfl rfl (n_inc _) rfl ?_
        refine rk_goto rfl rfl ?_
        have z := ih (a + 1) (by omega) (by omega)
        rw [hcl] at z
        exact z
      · replace hc18 := Decidable.not_not.mp (mt bI_0.mpr hc18)
        have hcl : clk N (a + 1) = clk N a + 1 := by rw [clk, if_neg hc18]
        refine rk_iinc rfl rfl (n_inc _) rfl ?_
        refine rk_iinc rfl rfl (n_inc _) rfl ?_
        refine rk_goto rfl rfl ?_
        have z := ih (a + 1) (by omega) (by omega)
        rw [hcl] at z
        exact z
theorem c159 {X : ai_X} {h : ai_H} {tp : Int32} {N : Nat → Nat} (d0 : h[0]? = some (cOne tp)) (hN : HN N) (C : CH h 3 N) {f0 : Nat → Int32} (d27 : h[27]? = some cPa) (c28 : h[28]? = some (cI 196 f0)) : Mt X am_159 [.ref 0] h (Qi (fun w h1 => w = nI (clk N (N 0)) ∧ Fr 28 29 h h1)) := by
  have e3 := C.1
  have hn := hN.n
  refine rk_aload_n rfl rfl ?_
  refine rk_get rfl (by assumption) rfl ?_
  refine rk_aload_n rfl rfl ?_
  refine rk_get rfl (by assumption) rfl ?_
  refine rk_cv1v rfl rfl (by assumption) rfl rfl (Nat.le_of_ble_eq_true rfl) (Nat.le_of_ble_eq_true rfl) (s53 hN C d27 c28 (by omega)) (fun h1 hF => ?_)
  obtain ⟨F1, f1, g28, hf1⟩ := hF
  have e0 := (F1.2 0 (by omega)).trans d0
  have e27 := (F1.2 27 (by omega)).trans d27
  have C1 := C.fr2 F1 (by omega)
  replace e3 := C1.1
  refine rk_iconst (v := nI 0) rfl (by decide) ?_
  refine rk_istore_n rfl (Nat.le_of_ble_eq_true rfl) rfl ?_
  refine rk_iconst (v := nI 0) rfl (by decide) ?_
  refine rk_istore_n rfl (Nat.le_of_ble_eq_true rfl) rfl ?_
  refine (l159 e0 hN C1 e27 g28 hf1 (N 0 + 1) 0 (by omega) (by omega)).mono ?_
  rintro o ⟨w, h2, rfl, rfl, rfl⟩
  exact ⟨_, _, rfl, rfl, F1⟩
/-- what a row by pairs leaves FOUND -/
def CR (h h1 : ai_H) (d : Nat) (x : Nat → Nat) : Prop := h1.length = h.length ∧ (∀ q : Nat, ¬ (15 ≤ q ∧ q < 19) → q ≠ 28 → h1[q]? = h[q]?) ∧ (∃ n f, RouteAt h1 17 n f) ∧ RtAt h1 15 d x
theorem c160_n {X : ai_X} {h : ai_H} {tp : Int32} {N : Nat → Nat} (d0 : h[0]? = some (cOne tp)) (hN : HN N) (C : CH h 3 N) {f0 : Nat → Int32} (d27 : h[27]? = some cPa) (c28 : h[28]? = some (cI 196 f0)) {a b : Nat} (ha : a < N 0) (hb : b < N 0) (hm : ev N (gS N) 196 (a * 14 + b) = -1) : Mt X am_160 [.ref 0, .int (nI a), .int (nI b)] h (Qi (fun w h1 => w = -1 ∧ Fr 28 29 h h1)) := by
  have e3 := C.1
  have hn := hN.n
  refine rk_aload_n rfl rfl ?_
  refine rk_get rfl (by assumption) rfl ?_
  refine rk_iload_n rfl rfl ?_
  refine rk_cv1e rfl rfl (by assumption) rfl rfl (Nat.le_of_ble_eq_true rfl) (Nat.le_of_ble_eq_true rfl) (s23N C _) ?_
  refine rk_if_eq rfl rfl (fun hc4 => ?_) (fun hc4 => ?_)
  · replace hc4 := (bI_0).mp hc4
    exact absurd (in_mk (by omega) ha) hc4
  · replace hc4 := Decidable.not_not.mp (mt bI_0.mpr hc4)
    refine rk_aload_n rfl rfl ?_
    refine rk_get rfl (by assumption) rfl ?_
    refine rk_iload_n rfl rfl ?_
    refine rk_cv1e rfl rfl (by assumption) rfl rfl (Nat.le_of_ble_eq_true rfl) (Nat.le_of_ble_eq_true rfl) (s23N C _) ?_
    refine rk_if_ne rfl rfl (fun hc9 => ?_) (fun hc9 => ?_)
    · replace hc9 := Decidable.not_not.mp (mt bI_0.mpr hc9)
      refine rk_aload_n rfl rfl ?_
      refine rk_get rfl (by assumption) rfl ?_
      refine rk_aload_n rfl rfl ?_
      refine rk_get rfl (by assumption) rfl ?_
      refine rk_cv1v rfl rfl (by assumption) rfl rfl (Nat.le_of_ble_eq_true rfl) (Nat.le_of_ble_eq_true rfl) (s53 hN C d27 c28 (by omega)) (fun h1 hF => ?_)
      obtain ⟨F1, f1, g28, hf1⟩ := hF
      have e0 := (F1.2 0 (by omega)).trans d0
      have e27 := (F1.2 27 (by omega)).trans d27
      have C1 := C.fr2 F1 (by omega)
      replace e3 := C1.1
      refine rk_aload_n rfl rfl ?_
      refine rk_get rfl (by assumption) rfl ?_
      refine rk_iload_n rfl rfl ?_
      refine rk_iload_n rfl rfl ?_
      refine rk_cv2e rfl rfl (by assumption) rfl rfl (Nat.le_of_ble_eq_true rfl) (Nat.le_of_ble_eq_true rfl) (s51 e27 g28 (by omega) (by omega)) ?_
      rw [hf1 a b ha hb]
      refine rk_istore_n rfl (Nat.le_of_ble_eq_true rfl) rfl ?_
      refine rk_iload_n rfl rfl ?_
      refine rk_iconst (v := (-1)) rfl (by decide) ?_
      refine rk_icmp_ne rfl rfl (fun hc25 => ?_) (fun hc25 => ?_)
      · exact absurd hm hc25
      · replace hc25 := Decidable.not_not.mp hc25
        refine rk_iconst (v := (-1)) rfl (by decide) ?_
        exact rk_ireturn rfl rfl ⟨_, _, rfl, rfl, F1⟩
    · replace hc9 := Decidable.not_not.mp hc9
      replace hc9 := (bI_0).mp hc9
      exact absurd (in_mk (by omega) hb) hc9
theorem c160_v {X : ai_X} {h : ai_H} {tp : Int32} {N : Nat → Nat} (d0 : h[0]? = some (cOne tp)) (hN : HN N) (C : CH h 3 N) {f0 : Nat → Int32} (d27 : h[27]? = some cPa) (c28 : h[28]? = some (cI 196 f0)) {a b : Nat} (ha : a < N 0) (hb : b < N 0) {n5 n7 : Int32} {f5 f7 : Nat → Int32} (R15 : RouteAt h 15 n5 f5) (R17 : RouteAt h 17 n7 f7) {k : Nat} (hk : k < 196) (hl : lsP N (gS N) k (a * 14 + b)) : Mt X am_160 [.ref 0, .int (nI a), .int (nI b)] h (Qi (fun w h1 => w = nI k ∧ CR h h1 k (gr (nxP N) (N 1) (gS N) k (a * 14 + b)))) := by
  have e3 := C.1
  have hn := hN.n
  have hek := ev_lst (s := 196) hl (by omega)
  refine rk_aload_n rfl rfl ?_
  refine rk_get rfl (by assumption) rfl ?_
  refine rk_iload_n rfl rfl ?_
  refine rk_cv1e rfl rfl (by assumption) rfl rfl (Nat.le_of_ble_eq_true rfl) (Nat.le_of_ble_eq_true rfl) (s23N C _) ?_
  refine rk_if_eq rfl rfl (fun hc4 => ?_) (fun hc4 => ?_)
  · replace hc4 := (bI_0).mp hc4
    exact absurd (in_mk (by omega) ha) hc4
  · replace hc4 := Decidable.not_not.mp (mt bI_0.mpr hc4)
    refine rk_aload_n rfl rfl ?_
    refine rk_get rfl (by assumption) rfl ?_
    refine rk_iload_n rfl rfl ?_
    refine rk_cv1e rfl rfl (by assumption) rfl rfl (Nat.le_of_ble_eq_true rfl) (Nat.le_of_ble_eq_true rfl) (s23N C _) ?_
    refine rk_if_ne rfl rfl (fun hc9 => ?_) (fun hc9 => ?_)
    · replace hc9 := Decidable.not_not.mp (mt bI_0.mpr hc9)
      refine rk_aload_n rfl rfl ?_
      refine rk_get rfl (by assumption) rfl ?_
      refine rk_aload_n rfl rfl ?_
      refine rk_get rfl (by assumption) rfl ?_
      refine rk_cv1v rfl rfl (by assumption) rfl rfl (Nat.le_of_ble_eq_true rfl) (Nat.le_of_ble_eq_true rfl) (s53 hN C d27 c28 (by omega)) (fun h1 hF => ?_)
      obtain ⟨F1, f1, g28, hf1⟩ := hF
      have e0 := (F1.2 0 (by omega)).trans d0
      have e27 := (F1.2 27 (by omega)).trans d27
      have C1 := C.fr2 F1 (by omega)
      replace e3 := C1.1
      refine rk_aload_n rfl rfl ?_
      refine rk_get rfl (by assumption) rfl ?_
      refine rk_iload_n rfl rfl ?_
      refine rk_iload_n rfl rfl ?_
      refine rk_cv2e rfl rfl (by assumption) rfl rfl (Nat.le_of_ble_eq_true rfl) (Nat.le_of_ble_eq_true rfl) (s51 e27 g28 (by omega) (by omega)) ?_
      rw [hf1 a b ha hb, hek]
      have S15 : RouteAt h1 15 n5 f5 := R15.fr (fun q _ _ => F1.2 q (by omega))
      have S17 : RouteAt h1 17 n7 f7 := R17.fr (fun q _ _ => F1.2 q (by omega))
      have r17 := S17.1
      have r15 := S15.1
      refine rk_istore_n rfl (Nat.le_of_ble_eq_true rfl) rfl ?_
      refine rk_iload_n rfl rfl ?_
      refine rk_iconst (v := (-1)) rfl (by decide) ?_
      refine rk_icmp_ne rfl rfl (fun hc25 => ?_) (fun hc25 => ?_)
      · refine rk_aload_n rfl rfl ?_
        refine rk_get rfl (by assumption) rfl ?_
        refine rk_cv0v rfl rfl (by assumption) rfl rfl (Nat.le_of_ble_eq_true rfl) (Nat.le_of_ble_eq_true rfl) (s88 S17) (fun h1 hF => ?_)
        obtain ⟨F2, T17⟩ := hF
        have e0b := (F2.2 0 (by omega)).trans e0
        have e27b := (F2.2 27 (by omega)).trans e27
        have g28b := (F2.2 28 (by omega)).trans g28
        have C2 := C1.fr2 F2 (by omega)
        have T15 : RouteAt h1 15 n5 f5 := S15.fr (fun q _ _ => F2.2 q (by omega))
        refine rk_aload_n rfl rfl ?_
        refine rk_get rfl (by assumption) rfl ?_
        refine rk_aload_n rfl rfl ?_
        refine rk_get rfl (by assumption) rfl ?_
        refine rk_iload_n rfl rfl ?_
        refine rk_iload_n rfl rfl ?_
        refine rk_aload_n rfl rfl ?_
        refine rk_get rfl (by assumption) rfl ?_
        refine rk_cv4v rfl rfl (by assumption) rfl rfl (Nat.le_of_ble_eq_true rfl) (Nat.le_of_ble_eq_true rfl) (s57 hN C2 e27b g28b hf1 ⟨Or.inl rfl, by omega⟩ ha hb hl (by omega) T17) (fun h1 hF => ?_)
        obtain ⟨F3, f3, U17, -, y3⟩ := hF
        rw [Nat.zero_add] at U17
        have e0c := (F3.2 0 (by omega)).trans e0b
        have U15 : RouteAt h1 15 n5 f5 := T15.fr (fun q _ _ => F3.2 q (by omega))
        have u15 := U15.1
        refine rk_aload_n rfl rfl ?_
        refine rk_get rfl (by assumption) rfl ?_
        refine rk_aload_n rfl rfl ?_
        refine rk_get rfl (by assumption) rfl ?_
        refine rk_cv1v rfl rfl (by assumption) rfl rfl (Nat.le_of_ble_eq_true rfl) (Nat.le_of_ble_eq_true rfl) (s92 U15 (by omega) U17 (by omega)) (fun h1 hF => ?_)
        obtain ⟨F4, f4, V15, y4⟩ := hF
        refine rk_iload_n rfl rfl ?_
        refine rk_ireturn rfl rfl ⟨_, _, rfl, rfl, by rw [F4.1, F3.1, F2.1, F1.1], fun q a1 a2 => ?_, ⟨_, _, U17.fr (fun q _ _ => F4.2 q (by omega))⟩, f4, V15, fun i hi => ?_⟩
        · exact (F4.2 q (by omega)).trans ((F3.2 q (by omega)).trans ((F2.2 q (by omega)).trans (F1.2 q (by omega))))
        · rw [y4 i hi]
          have := y3 i hi (by omega)
          rwa [Nat.zero_add] at this
      · replace hc25 := Decidable.not_not.mp hc25
        exact absurd hc25 (nm_eq (by omega))
    · replace hc9 := Decidable.not_not.mp hc9
      replace hc9 := (bI_0).mp hc9
      exact absurd (in_mk (by omega) hb) hc9
theorem m243_x {X : ai_X} {h : ai_H} {v A : Nat → Int32} {N : Nat → Nat} (c0 : h[52]? = some (cMdl v)) (c1 : h[53]? = some (cI 2346 A)) (hN : HN N) (M : MH A N) {a b : Int32} (hx : ¬ ((¬ a < 0 ∧ ¬ nI (N 0) ≤ a) ∧ (¬ b < 0 ∧ ¬ nI (N 0) ≤ b))) : Rk X am_243 3 (ai_loc (ai_mL am_243) [.ref 52, .int a, .int b]) [] h (Qe (-2) h) := by
  obtain ⟨a0, a1, a268, a269, a270, a271, apl, apc, aot, asg, awt⟩ := id M
  refine rk_aload_n rfl rfl ?_
  refine rk_iload_n rfl rfl ?_
  refine rk_cv1e rfl rfl (by assumption) rfl rfl (Nat.le_of_ble_eq_true rfl) (Nat.le_of_ble_eq_true rfl) (s207n c0 c1 a0 (by have := hN.n; omega) _) ?_
  refine rk_if_eq rfl rfl (fun hc6 => ?_) (fun hc6 => ?_)
  · replace hc6 := (bI_0).mp hc6
    refine rk_bipush (v := (-2)) rfl (by decide) ?_
    exact rk_ireturn rfl rfl Qe_mk
  · replace hc6 := Decidable.not_not.mp (mt bI_0.mpr hc6)
    refine rk_aload_n rfl rfl ?_
    refine rk_iload_n rfl rfl ?_
    refine rk_cv1e rfl rfl (by assumption) rfl rfl (Nat.le_of_ble_eq_true rfl) (Nat.le_of_ble_eq_true rfl) (s207n c0 c1 a0 (by have := hN.n; omega) _) ?_
    refine rk_if_ne rfl rfl (fun hc10 => ?_) (fun hc10 => ?_)
    · replace hc10 := Decidable.not_not.mp (mt bI_0.mpr hc10)
      exact absurd ⟨hc6, hc10⟩ hx
    · replace hc10 := Decidable.not_not.mp hc10
      replace hc10 := (bI_0).mp hc10
      refine rk_bipush (v := (-2)) rfl (by decide) ?_
      exact rk_ireturn rfl rfl Qe_mk
theorem m262_x {X : ai_X} {h : ai_H} {v A : Nat → Int32} {N : Nat → Nat} (c0 : h[52]? = some (cMdl v)) (c1 : h[53]? = some (cI 2346 A)) (hN : HN N) (M : MH A N) {a b : Int32} (hx : ¬ ((¬ a < 0 ∧ ¬ nI (N 0) ≤ a) ∧ (¬ b < 0 ∧ ¬ nI (N 0) ≤ b))) : Rk X am_262 3 (ai_loc (ai_mL am_262) [.ref 52, .int a, .int b]) [] h (Qe (-2) h) := by
  obtain ⟨a0, a1, a268, a269, a270, a271, apl, apc, aot, asg, awt⟩ := id M
  refine rk_aload_n rfl rfl ?_
  refine rk_iload_n rfl rfl ?_
  refine rk_cv1e rfl rfl (by assumption) rfl rfl (Nat.le_of_ble_eq_true rfl) (Nat.le_of_ble_eq_true rfl) (s207n c0 c1 a0 (by have := hN.n; omega) _) ?_
  refine rk_if_eq rfl rfl (fun hc6 => ?_) (fun hc6 => ?_)
  · replace hc6 := (bI_0).mp hc6
    refine rk_bipush (v := (-2)) rfl (by decide) ?_
    exact rk_ireturn rfl rfl Qe_mk
  · replace hc6 := Decidable.not_not.mp (mt bI_0.mpr hc6)
    refine rk_aload_n rfl rfl ?_
    refine rk_iload_n rfl rfl ?_
    refine rk_cv1e rfl rfl (by assumption) rfl rfl (Nat.le_of_ble_eq_true rfl) (Nat.le_of_ble_eq_true rfl) (s207n c0 c1 a0 (by have := hN.n; omega) _) ?_
    refine rk_if_ne rfl rfl (fun hc10 => ?_) (fun hc10 => ?_)
    · replace hc10 := Decidable.not_not.mp (mt bI_0.mpr hc10)
      exact absurd ⟨hc6, hc10⟩ hx
    · replace hc10 := Decidable.not_not.mp hc10
      replace hc10 := (bI_0).mp hc10
      refine rk_bipush (v := (-2)) rfl (by decide) ?_
      exact rk_ireturn rfl rfl Qe_mk
theorem m264_x {X : ai_X} {h : ai_H} {v A : Nat → Int32} {N : Nat → Nat} (c0 : h[52]? = some (cMdl v)) (c1 : h[53]? = some (cI 2346 A)) (hN : HN N) (M : MH A N) {a b : Int32} (hx : ¬ ((¬ a < 0 ∧ ¬ nI (N 0) ≤ a) ∧ (¬ b < 0 ∧ ¬ nI (N 0) ≤ b))) : Rk X am_264 3 (ai_loc (ai_mL am_264) [.ref 52, .int a, .int b]) [] h (Qe (-2) h) := by
  obtain ⟨a0, a1, a268, a269, a270, a271, apl, apc, aot, asg, awt⟩ := id M
  refine rk_aload_n rfl rfl ?_
  refine rk_iload_n rfl rfl ?_
  refine rk_cv1e rfl rfl (by assumption) rfl rfl (Nat.le_of_ble_eq_true rfl) (Nat.le_of_ble_eq_true rfl) (s207n c0 c1 a0 (by have := hN.n; omega) _) ?_
  refine rk_if_eq rfl rfl (fun hc6 => ?_) (fun hc6 => ?_)
  · replace hc6 := (bI_0).mp hc6
    refine rk_bipush (v := (-2)) rfl (by decide) ?_
    exact rk_ireturn rfl rfl Qe_mk
  · replace hc6 := Decidable.not_not.mp (mt bI_0.mpr hc6)
    refine rk_aload_n rfl rfl ?_
    refine rk_iload_n rfl rfl ?_
    refine rk_cv1e rfl rfl (by assumption) rfl rfl (Nat.le_of_ble_eq_true rfl) (Nat.le_of_ble_eq_true rfl) (s207n c0 c1 a0 (by have := hN.n; omega) _) ?_
    refine rk_if_ne rfl rfl (fun hc10 => ?_) (fun hc10 => ?_)
    · replace hc10 := Decidable.not_not.mp (mt bI_0.mpr hc10)
      exact absurd ⟨hc6, hc10⟩ hx
    · replace hc10 := Decidable.not_not.mp hc10
      replace hc10 := (bI_0).mp hc10
      refine rk_bipush (v := (-2)) rfl (by decide) ?_
      exact rk_ireturn rfl rfl Qe_mk
theorem m243_v {X : ai_X} {h : ai_H} {w A : Nat → Int32} {N : Nat → Nat} {mk : Nat} (c53 : h[53]? = some (cI 2346 A)) (hN : HN N) (M : MH A N) (H : MR h w mk) (hmk : mk + 200 < 2 ^ 28) {a b : Nat} (ha : a < N 0) (hb : b < N 0) : Rk X am_243 3 (ai_loc (ai_mL am_243) [.ref 52, .int (nI a), .int (nI b)]) [] h (Qi (fun y h1 => y = ev N gM 196 (a * 14 + b) ∧ FrM h h1 ∧ MR h1 w (mk + 1))) := by
  obtain ⟨a0, a1, a268, a269, a270, a271, apl, apc, aot, asg, awt⟩ := id M
  have hn := hN.n
  obtain ⟨v, c0, -⟩ := H.obj
  have c1 := c53
  refine rk_aload_n rfl rfl ?_
  refine rk_iload_n rfl rfl ?_
  refine rk_cv1e rfl rfl (by assumption) rfl rfl (Nat.le_of_ble_eq_true rfl) (Nat.le_of_ble_eq_true rfl) (s207n c0 c1 a0 (by have := hN.n; omega) _) ?_
  refine rk_if_eq rfl rfl (fun hc6 => ?_) (fun hc6 => ?_)
  · replace hc6 := (bI_0).mp hc6
    exact absurd (in_mk (by omega) ha) hc6
  · replace hc6 := Decidable.not_not.mp (mt bI_0.mpr hc6)
    refine rk_aload_n rfl rfl ?_
    refine rk_iload_n rfl rfl ?_
    refine rk_cv1e rfl rfl (by assumption) rfl rfl (Nat.le_of_ble_eq_true rfl) (Nat.le_of_ble_eq_true rfl) (s207n c0 c1 a0 (by have := hN.n; omega) _) ?_
    refine rk_if_ne rfl rfl (fun hc10 => ?_) (fun hc10 => ?_)
    · replace hc10 := Decidable.not_not.mp (mt bI_0.mpr hc10)
      refine rk_aload_n rfl rfl ?_
      refine rk_iload_n rfl rfl ?_
      refine rk_iload_n rfl rfl ?_
      refine rk_cv2i rfl rfl (by assumption) rfl rfl (Nat.le_of_ble_eq_true rfl) (Nat.le_of_ble_eq_true rfl) (s241E c53 hN M ha hb H (by omega)) (fun w h1 hF => ?_)
      obtain ⟨F1, H1, z1⟩ := hF
      rcases z1 with ⟨rfl, z2⟩ | ⟨k, B, rfl, k1, z2, z3, z4, ⟨w1, -, z5⟩, z6, z7, z8, z9⟩
      · refine rk_istore_n rfl (Nat.le_of_ble_eq_true rfl) rfl ?_
        refine rk_iload_n rfl rfl ?_
        refine rk_iconst (v := (-1)) rfl (by decide) ?_
        refine rk_icmp_ne rfl rfl (fun z => absurd rfl z) (fun _ => ?_)
        refine rk_iconst (v := (-1)) rfl (by decide) ?_
        refine rk_goto rfl rfl ?_
        exact rk_ireturn rfl rfl ⟨_, _, rfl, z2.symm, F1, H1⟩
      · obtain ⟨v1, e52, -⟩ := z5.obj
        refine rk_istore_n rfl (Nat.le_of_ble_eq_true rfl) rfl ?_
        refine rk_iload_n rfl rfl ?_
        refine rk_iconst (v := (-1)) rfl (by decide) ?_
        refine rk_icmp_ne rfl rfl (fun _ => ?_) (fun z => absurd (Decidable.not_not.mp z) (nm_eq (by omega)))
        refine rk_aload_n rfl rfl ?_
        refine rk_iload_n rfl rfl ?_
        refine rk_cv1e rfl rfl e52 rfl rfl (Nat.le_of_ble_eq_true rfl) (Nat.le_of_ble_eq_true rfl) (s242 z5 z3 z4) ?_
        exact rk_ireturn rfl rfl ⟨_, _, rfl, z6.symm, F1, H1⟩
    · replace hc10 := Decidable.not_not.mp hc10
      replace hc10 := (bI_0).mp hc10
      exact absurd (in_mk (by omega) hb) hc10
theorem m262_v {X : ai_X} {h : ai_H} {w A : Nat → Int32} {N : Nat → Nat} {mk : Nat} (c53 : h[53]? = some (cI 2346 A)) (hN : HN N) (M : MH A N) (H : MR h w mk) (hmk : mk + 200 < 2 ^ 28) {a b : Nat} (ha : a < N 0) (hb : b < N 0) : Rk X am_262 3 (ai_loc (ai_mL am_262) [.ref 52, .int (nI a), .int (nI b)]) [] h (Qi (fun y h1 => y = bI (ev N (gS N) 196 (a * 14 + b) = -1) ∧ FrM h h1 ∧ MR h1 w (mk + 1))) := by
  obtain ⟨a0, a1, a268, a269, a270, a271, apl, apc, aot, asg, awt⟩ := id M
  have hn := hN.n
  obtain ⟨v, c0, -⟩ := H.obj
  have c1 := c53
  refine rk_aload_n rfl rfl ?_
  refine rk_iload_n rfl rfl ?_
  refine rk_cv1e rfl rfl (by assumption) rfl rfl (Nat.le_of_ble_eq_true rfl) (Nat.le_of_ble_eq_true rfl) (s207n c0 c1 a0 (by have := hN.n; omega) _) ?_
  refine rk_if_eq rfl rfl (fun hc6 => ?_) (fun hc6 => ?_)
  · replace hc6 := (bI_0).mp hc6
    exact absurd (in_mk (by omega) ha) hc6
  · replace hc6 := Decidable.not_not.mp (mt bI_0.mpr hc6)
    refine rk_aload_n rfl rfl ?_
    refine rk_iload_n rfl rfl ?_
    refine rk_cv1e rfl rfl (by assumption) rfl rfl (Nat.le_of_ble_eq_true rfl) (Nat.le_of_ble_eq_true rfl) (s207n c0 c1 a0 (by have := hN.n; omega) _) ?_
    refine rk_if_ne rfl rfl (fun hc10 => ?_) (fun hc10 => ?_)
    · replace hc10 := Decidable.not_not.mp (mt bI_0.mpr hc10)
      refine rk_aload_n rfl rfl ?_
      refine rk_iload_n rfl rfl ?_
      refine rk_iload_n rfl rfl ?_
      refine rk_cv2i rfl rfl (by assumption) rfl rfl (Nat.le_of_ble_eq_true rfl) (Nat.le_of_ble_eq_true rfl) (s261E c53 hN M ha hb H (by omega)) (fun w h1 hF => ?_)
      obtain ⟨F1, H1, z1⟩ := hF
      rcases z1 with ⟨rfl, z2⟩ | ⟨k, B, rfl, k1, z2, z3, z4, -, z6, z7, z8, z9⟩
      · refine rk_iconst (v := (-1)) rfl (by decide) ?_
        refine rk_icmp_ne rfl rfl (fun z => absurd rfl z) (fun _ => ?_)
        refine rk_iconst (v := nI 1) rfl (by decide) ?_
        refine rk_goto rfl rfl ?_
        exact rk_ireturn rfl rfl ⟨_, _, rfl, by rw [bI_t z2]; exact nI_one, F1, H1⟩
      · refine rk_iconst (v := (-1)) rfl (by decide) ?_
        refine rk_icmp_ne rfl rfl (fun _ => ?_) (fun z => absurd (Decidable.not_not.mp z) (nm_eq (by omega)))
        refine rk_iconst (v := nI 0) rfl (by decide) ?_
        exact rk_ireturn rfl rfl ⟨_, _, rfl, by rw [bI_f (by rw [z6]; exact nm_eq (by omega))]; exact nI_0, F1, H1⟩
    · replace hc10 := Decidable.not_not.mp hc10
      replace hc10 := (bI_0).mp hc10
      exact absurd (in_mk (by omega) hb) hc10
theorem m264_v {X : ai_X} {h : ai_H} {w A : Nat → Int32} {N : Nat → Nat} {mk : Nat} (c53 : h[53]? = some (cI 2346 A)) (hN : HN N) (M : MH A N) (H : MR h w mk) (hmk : mk + 200 < 2 ^ 28) {a b : Nat} (ha : a < N 0) (hb : b < N 0) : Rk X am_264 3 (ai_loc (ai_mL am_264) [.ref 52, .int (nI a), .int (nI b)]) [] h (Qi (fun y h1 => FrF h h1 ∧ (∃ w1, (w1 5 = w 5 ∧ w1 13 = w 13 ∧ w1 14 = w 14) ∧ MW h1 w1 (mk + 1)) ∧ ∃ A1, h1[53]? = some (cI 2346 A1) ∧ ((y = -1 ∧ ev N (gS N) 196 (a * 14 + b) = -1 ∧ A1 = A) ∨ ∃ k, k < 196 ∧ y = nI k ∧ lsP N (gS N) k (a * 14 + b) ∧ FD A A1 k (gr (nxP N) (N 1) (gS N) k (a * 14 + b))))) := by
  obtain ⟨a0, a1, a268, a269, a270, a271, apl, apc, aot, asg, awt⟩ := id M
  have hn := hN.n
  obtain ⟨v, c0, -⟩ := H.obj
  have c1 := c53
  refine rk_aload_n rfl rfl ?_
  refine rk_iload_n rfl rfl ?_
  refine rk_cv1e rfl rfl (by assumption) rfl rfl (Nat.le_of_ble_eq_true rfl) (Nat.le_of_ble_eq_true rfl) (s207n c0 c1 a0 (by have := hN.n; omega) _) ?_
  refine rk_if_eq rfl rfl (fun hc6 => ?_) (fun hc6 => ?_)
  · replace hc6 := (bI_0).mp hc6
    exact absurd (in_mk (by omega) ha) hc6
  · replace hc6 := Decidable.not_not.mp (mt bI_0.mpr hc6)
    refine rk_aload_n rfl rfl ?_
    refine rk_iload_n rfl rfl ?_
    refine rk_cv1e rfl rfl (by assumption) rfl rfl (Nat.le_of_ble_eq_true rfl) (Nat.le_of_ble_eq_true rfl) (s207n c0 c1 a0 (by have := hN.n; omega) _) ?_
    refine rk_if_ne rfl rfl (fun hc10 => ?_) (fun hc10 => ?_)
    · replace hc10 := Decidable.not_not.mp (mt bI_0.mpr hc10)
      refine rk_aload_n rfl rfl ?_
      refine rk_iload_n rfl rfl ?_
      refine rk_iload_n rfl rfl ?_
      refine rk_cv2i rfl rfl (by assumption) rfl rfl (Nat.le_of_ble_eq_true rfl) (Nat.le_of_ble_eq_true rfl) (s261E c53 hN M ha hb H (by omega)) (fun w h1 hF => ?_)
      obtain ⟨F1, H1, z1⟩ := hF
      have e53 := (F1.2 53 (by omega) (by omega)).trans c53
      rcases z1 with ⟨rfl, z2⟩ | ⟨k, B, rfl, k1, z2, z3, z4, ⟨w1, q1, z5⟩, z6, z7, z8, z9⟩
      · refine rk_istore_n rfl (Nat.le_of_ble_eq_true rfl) rfl ?_
        refine rk_iload_n rfl rfl ?_
        refine rk_iconst (v := (-1)) rfl (by decide) ?_
        refine rk_icmp_ne rfl rfl (fun z => absurd rfl z) (fun _ => ?_)
        refine rk_iconst (v := (-1)) rfl (by decide) ?_
        refine rk_goto rfl rfl ?_
        exact rk_ireturn rfl rfl ⟨_, _, rfl, F1.f, ⟨w, ⟨rfl, rfl, rfl⟩, H1.2⟩, A, e53, Or.inl ⟨rfl, z2, rfl⟩⟩
      · obtain ⟨v1, e52, -⟩ := z5.obj
        refine rk_istore_n rfl (Nat.le_of_ble_eq_true rfl) rfl ?_
        refine rk_iload_n rfl rfl ?_
        refine rk_iconst (v := (-1)) rfl (by decide) ?_
        refine rk_icmp_ne rfl rfl (fun _ => ?_) (fun z => absurd (Decidable.not_not.mp z) (nm_eq (by omega)))
        refine rk_aload_n rfl rfl ?_
        refine rk_iload_n rfl rfl ?_
        refine rk_cv1i rfl rfl e52 rfl rfl (Nat.le_of_ble_eq_true rfl) (Nat.le_of_ble_eq_true rfl) (s237 z5 z3 z4 e53) (fun y h2 hF => ?_)
        obtain ⟨rfl, ⟨q2, -⟩ | ⟨q2, F2, A1, q3, q4, q5, q6⟩⟩ := hF
        · omega
        · exact rk_ireturn rfl rfl ⟨_, _, rfl, F1.f2 F2, ⟨w1, q1, (z5.fr (fun q hq => F2.2 q (by omega))).mw⟩, A1, q3, Or.inr ⟨_, z8, rfl, z7, q4, fun i hi => by rw [q5 i hi, z9 i hi], q6⟩⟩
    · replace hc10 := Decidable.not_not.mp hc10
      replace hc10 := (bI_0).mp hc10
      exact absurd (in_mk (by omega) hb) hc10
theorem l244i {X : ai_X} {h : ai_H} {w A : Nat → Int32} {N : Nat → Nat} {mk : Nat} (c53 : h[53]? = some (cI 2346 A)) (hN : HN N) (M : MH A N) (hmk : mk + 200 < 2 ^ 28) {a : Nat} (ha : a < N 0) (h2 : ∀ a' b', a' < a → a' < b' → b' < N 0 → ¬ ev N gM 196 (a' * 14 + b') = -1) (z : ∀ g m, FrM h g → MR g w m → m ≤ mk + 14 * (a + 1) → (∀ b', a < b' → b' < N 0 → ¬ ev N gM 196 (a * 14 + b') = -1) → Rk X am_244 35 [some (.ref 52), some (.int (nI a)), some (.int (nI (N 0)))] [] g (Qi (fun y h1 => y = nev N ∧ FrM h h1 ∧ ∃ m, m ≤ mk + 200 ∧ MR h1 w m))) : ∀ (d : Nat) (b : Nat) (g : ai_H) (m : Nat), N 0 < b + d → (a < b) → (b ≤ N 0) → (∀ b', a < b' → b' < b → ¬ ev N gM 196 (a * 14 + b') = -1) → (FrM h g) → (MR g w m) → (m ≤ mk + 14 * a + b) → Rk X am_244 15 [some (.ref 52), some (.int (nI a)), some (.int (nI b))] [] g (Qi (fun y h1 => y = nev N ∧ FrM h h1 ∧ ∃ m, m ≤ mk + 200 ∧ MR h1 w m)) := by
  intro d
  induction d with
  | zero => intro b g m hd hab hb hq1 F H hm; exfalso; omega
  | succ d ih =>
    intro b g m hd hab hb hq1 F H hm
    obtain ⟨a0, a1, a268, a269, a270, a271, apl, apc, aot, asg, awt⟩ := id M
    have hn := hN.n
    obtain ⟨v, e52, -⟩ := H.obj
    have e53 := (F.2 53 (by omega) (by omega)).trans c53
    refine rk_iload_n rfl rfl ?_
    refine rk_aload_n rfl rfl ?_
    refine rk_get rfl (by assumption) rfl ?_
    refine rk_iconst (v := nI 0) rfl (by decide) ?_
    refine rk_iald rfl (by assumption) (rfl) (by omega) (by decide) ?_
    rw [a0]
    refine rk_icmp_ge rfl rfl (fun hc20 => ?_) (fun hc20 => ?_)
    · replace hc20 := (nI_leI (by omega) (by omega)).mp hc20
      have hb2 : b = N 0 := by omega
      subst hb2
      exact z g m F H (by omega) hq1
    · replace hc20 := mt (nI_leI (by omega) (by omega)).mpr hc20
      refine rk_aload_n rfl rfl ?_
      refine rk_iload_n rfl rfl ?_
      refine rk_iload_n rfl rfl ?_
      refine rk_cv2i rfl rfl (by assumption) rfl rfl (Nat.le_of_ble_eq_true rfl) (Nat.le_of_ble_eq_true rfl) (s241E e53 hN M ha (by omega) H (by omega)) (fun w h1 hF => ?_)
      obtain ⟨F1, H1, z1⟩ := hF
      rcases z1 with ⟨rfl, z2⟩ | ⟨k, B, rfl, k1, -, -, -, -, z6, -, z8, -⟩
      · refine rk_iconst (v := (-1)) rfl (by decide) ?_
        refine rk_icmp_ne rfl rfl (fun z => absurd rfl z) (fun _ => ?_)
        refine rk_bipush (v := nI 100) rfl (by decide) ?_
        refine rk_iload_n rfl rfl ?_
        refine rk_imul rfl (pk_mul _ _) ?_
        refine rk_iload_n rfl rfl ?_
        refine rk_iadd rfl (nI_add _ _) ?_
        exact rk_ireturn rfl rfl ⟨_, _, rfl, nev_at hab (by omega) z2 hq1 h2, F.tr F1, m + 1, by omega, H1⟩
      have hne : ¬ ev N gM 196 (a * 14 + b) = -1 := by rw [z6]; exact nm_eq (by omega)
      refine rk_iconst (v := (-1)) rfl (by decide) ?_
      refine rk_icmp_ne rfl rfl (fun _ => ?_) (fun z => absurd (Decidable.not_not.mp z) (nm_eq (by omega)))
      refine rk_iinc rfl rfl (n_inc _) rfl ?_
      refine rk_goto rfl rfl ?_
      refine ih (b + 1) _ (m + 1) (by omega) (by omega) (by omega) (fun b' a1 a2 => ?_) (F.tr F1) H1 (by omega)
      by_cases y : b' = b
      · subst y; exact hne
      · exact hq1 b' a1 (by omega)
theorem l244 {X : ai_X} {h : ai_H} {w A : Nat → Int32} {N : Nat → Nat} {mk : Nat} (c53 : h[53]? = some (cI 2346 A)) (hN : HN N) (M : MH A N) (hmk : mk + 200 < 2 ^ 28) : ∀ (d : Nat) (a : Nat) (g : ai_H) (m : Nat) (c2 : Option Value), N 0 < a + d → (a ≤ N 0) → (∀ a' b', a' < a → a' < b' → b' < N 0 → ¬ ev N gM 196 (a' * 14 + b') = -1) → (FrM h g) → (MR g w m) → (m ≤ mk + 14 * a) → Rk X am_244 5 [some (.ref 52), some (.int (nI a)), c2] [] g (Qi (fun y h1 => y = nev N ∧ FrM h h1 ∧ ∃ m, m ≤ mk + 200 ∧ MR h1 w m)) := by
  intro d
  induction d with
  | zero => intro a g m c2 hd ha h2 F H hm; exfalso; omega
  | succ d ih =>
    intro a g m c2 hd ha h2 F H hm
    obtain ⟨a0, a1, a268, a269, a270, a271, apl, apc, aot, asg, awt⟩ := id M
    have hn := hN.n
    obtain ⟨v, e52, -⟩ := H.obj
    have e53 := (F.2 53 (by omega) (by omega)).trans c53
    refine rk_iload_n rfl rfl ?_
    refine rk_aload_n rfl rfl ?_
    refine rk_get rfl (by assumption) rfl ?_
    refine rk_iconst (v := nI 0) rfl (by decide) ?_
    refine rk_iald rfl (by assumption) (rfl) (by omega) (by decide) ?_
    rw [a0]
    refine rk_icmp_ge rfl rfl (fun hc10 => ?_) (fun hc10 => ?_)
    · replace hc10 := (nI_leI (by omega) (by omega)).mp hc10
      refine rk_iconst (v := (-1)) rfl (by decide) ?_
      exact rk_ireturn rfl rfl ⟨_, _, rfl, (nev_no (fun a' b' a1 a2 => h2 a' b' (by omega) a1 a2)).symm, F, m, by omega, H⟩
    · replace hc10 := mt (nI_leI (by omega) (by omega)).mpr hc10
      refine rk_iload_n rfl rfl ?_
      refine rk_iconst (v := nI 1) rfl (by decide) ?_
      refine rk_iadd rfl (nI_add _ _) ?_
      refine rk_istore_n rfl (Nat.le_of_ble_eq_true rfl) rfl ?_
      refine l244i (h := h) c53 hN M hmk (by omega) h2 (fun g2 m2 F2 H2 hm2 y => ?_) (N 0 + 1) (a + 1) g m (by omega) (by omega) (by omega) (fun b' a1 a2 => by omega) F H (by omega)
      refine rk_iinc rfl rfl (n_inc _) rfl ?_
      refine rk_goto rfl rfl ?_
      refine ih (a + 1) g2 m2 _ (by omega) (by omega) (fun a' b' a1 a2 a3 => ?_) F2 H2 (by omega)
      by_cases q : a' = a
      · subst q; exact y b' a2 a3
      · exact h2 a' b' (by omega) a2 a3
theorem m244 {X : ai_X} {h : ai_H} {w A : Nat → Int32} {N : Nat → Nat} {mk : Nat} (c53 : h[53]? = some (cI 2346 A)) (hN : HN N) (M : MH A N) (H : MR h w mk) (hmk : mk + 200 < 2 ^ 28) : Rk X am_244 3 (ai_loc (ai_mL am_244) [.ref 52]) [] h (Qi (fun y h1 => y = nev N ∧ FrM h h1 ∧ ∃ m, m ≤ mk + 200 ∧ MR h1 w m)) := by
  refine rk_iconst (v := nI 0) rfl (by decide) ?_
  refine rk_istore_n rfl (Nat.le_of_ble_eq_true rfl) rfl ?_
  exact l244 c53 hN M hmk (N 0 + 1) 0 h mk _ (by omega) (by omega) (fun a' b' a1 => absurd a1 (by omega)) FrM.rfl' H (by omega)
theorem l263i {X : ai_X} {h : ai_H} {w A : Nat → Int32} {N : Nat → Nat} {mk : Nat} (c53 : h[53]? = some (cI 2346 A)) (hN : HN N) (M : MH A N) (hmk : mk + 200 < 2 ^ 28) {a : Nat} (ha : a < N 0) {P : ai_O → Prop} {c1 : Int32} (z : ∀ g m, FrM h g → MR g w m → m ≤ mk + 14 * (a + 1) → Rk X am_263 34 [some (.ref 52), some (.int c1), some (.int (nI a)), some (.int (bI (¬ any (fun b' => decide (ev N (gS N) 196 (b' * 14 + a) = -1)) a = true))), some (.int (nI a))] [] g P) : ∀ (d : Nat) (b : Nat) (g : ai_H) (m : Nat), a < b + d → (b ≤ a) → (FrM h g) → (MR g w m) → (m ≤ mk + 14 * a + b) → Rk X am_263 17 [some (.ref 52), some (.int c1), some (.int (nI a)), some (.int (bI (¬ any (fun b' => decide (ev N (gS N) 196 (b' * 14 + a) = -1)) b = true))), some (.int (nI b))] [] g (P) := by
  intro d
  induction d with
  | zero => intro b g m hd hb F H hm; exfalso; omega
  | succ d ih =>
    intro b g m hd hb F H hm
    obtain ⟨a0, a1, a268, a269, a270, a271, apl, apc, aot, asg, awt⟩ := id M
    have hn := hN.n
    obtain ⟨v, e52, -⟩ := H.obj
    have e53 := (F.2 53 (by omega) (by omega)).trans c53
    have hstep0 : ¬ (¬ any (fun b' => decide (ev N (gS N) 196 (b' * 14 + a) = -1)) (b) = true) → nI 0 = bI (¬ any (fun b' => decide (ev N (gS N) 196 (b' * 14 + a) = -1)) (b + 1) = true) := fun y => by rw [bI_f (fun q => y (fun y2 => q (by rw [any, y2]; rfl)))]; exact nI_0
    refine rk_iload rfl rfl ?_
    refine rk_iload_n rfl rfl ?_
    refine rk_icmp_ge rfl rfl (fun hc19 => ?_) (fun hc19 => ?_)
    · replace hc19 := (nI_leI (by omega) (by omega)).mp hc19
      have hb2 : b = a := by omega
      subst hb2
      exact z g m F H (by omega)
    · replace hc19 := mt (nI_leI (by omega) (by omega)).mpr hc19
      refine rk_iload_n rfl rfl ?_
      refine rk_if_eq rfl rfl (fun hc21 => ?_) (fun hc21 => ?_)
      · replace hc21 := (bI_0).mp hc21
        refine rk_iconst (v := nI 0) rfl (by decide) ?_
        rw [hstep0 hc21]
        refine rk_istore_n rfl (Nat.le_of_ble_eq_true rfl) rfl ?_
        refine rk_iinc rfl rfl (n_inc _) rfl ?_
        refine rk_goto rfl rfl ?_
        exact ih (b + 1) g m (by omega) (by omega) F H (by omega)
        -- done
      · replace hc21 := Decidable.not_not.mp (mt bI_0.mpr hc21)
        refine rk_aload_n rfl rfl ?_
        refine rk_iload_n rfl rfl ?_
        refine rk_iload rfl rfl ?_
        refine rk_cv2i rfl rfl (by assumption) rfl rfl (Nat.le_of_ble_eq_true rfl) (Nat.le_of_ble_eq_true rfl) (s261E e53 hN M ha (by omega) H (by omega)) (fun w h1 hF => ?_)
        obtain ⟨F1, H1, z1⟩ := hF
        have hsy := ev_sym (s := 196) hN (GP_S hN) ha (show b < N 0 by omega)
        rcases z1 with ⟨rfl, z2⟩ | ⟨k, B, rfl, k1, -, -, -, -, z6, -, z8, -⟩
        · refine rk_iconst (v := (-1)) rfl (by decide) ?_
          refine rk_icmp_eq rfl rfl (fun _ => ?_) (fun z => absurd rfl z)
          refine rk_iconst (v := nI 0) rfl (by decide) ?_
          have hb0 : nI 0 = bI (¬ any (fun b' => decide (ev N (gS N) 196 (b' * 14 + a) = -1)) (b + 1) = true) := by rw [bI_f (fun q => q ((any_iff _).mpr ⟨b, by omega, decide_eq_true (hsy.symm.trans z2)⟩))]; exact nI_0
          rw [hb0]
          refine rk_istore_n rfl (Nat.le_of_ble_eq_true rfl) rfl ?_
          refine rk_iinc rfl rfl (n_inc _) rfl ?_
          refine rk_goto rfl rfl ?_
          exact ih (b + 1) _ (m + 1) (by omega) (by omega) (F.tr F1) H1 (by omega)
        · refine rk_iconst (v := (-1)) rfl (by decide) ?_
          refine rk_icmp_eq rfl rfl (fun z => absurd z (nm_eq (by omega))) (fun _ => ?_)
          refine rk_iconst (v := nI 1) rfl (by decide) ?_
          refine rk_goto rfl rfl ?_
          have hb1 : nI 1 = bI (¬ any (fun b' => decide (ev N (gS N) 196 (b' * 14 + a) = -1)) (b + 1) = true) := by
            rw [bI_t]
            · exact nI_one
            · intro y
              obtain ⟨b', q1, q2⟩ := (any_iff _).mp y
              have q3 := of_decide_eq_true q2
              by_cases q : b' = b
              · subst q; rw [← hsy, z6] at q3; exact nm_eq (by omega) q3
              · exact hc21 ((any_iff _).mpr ⟨b', by omega, q2⟩)
          rw [hb1]
          refine rk_istore_n rfl (Nat.le_of_ble_eq_true rfl) rfl ?_
          refine rk_iinc rfl rfl (n_inc _) rfl ?_
          refine rk_goto rfl rfl ?_
          exact ih (b + 1) _ (m + 1) (by omega) (by omega) (F.tr F1) H1 (by omega)
theorem l263 {X : ai_X} {h : ai_H} {w A : Nat → Int32} {N : Nat → Nat} {mk : Nat} (c53 : h[53]? = some (cI 2346 A)) (hN : HN N) (M : MH A N) (hmk : mk + 200 < 2 ^ 28) : ∀ (d : Nat) (a : Nat) (g : ai_H) (m : Nat) (c3 c4 : Option Value), N 0 < a + d → (a ≤ N 0) → (FrM h g) → (MR g w m) → (m ≤ mk + 14 * a) → Rk X am_263 7 [some (.ref 52), some (.int (nI (clk N a))), some (.int (nI a)), c3, c4] [] g (Qi (fun y h1 => y = nI (clk N (N 0)) ∧ FrM h h1 ∧ ∃ m, m ≤ mk + 200 ∧ MR h1 w m)) := by
  intro d
  induction d with
  | zero => intro a g m c3 c4 hd ha F H hm; exfalso; omega
  | succ d ih =>
    intro a g m c3 c4 hd ha F H hm
    obtain ⟨a0, a1, a268, a269, a270, a271, apl, apc, aot, asg, awt⟩ := id M
    have hn := hN.n
    obtain ⟨v, e52, -⟩ := H.obj
    have e53 := (F.2 53 (by omega) (by omega)).trans c53
    have hcle := clk_le N a
    refine rk_iload_n rfl rfl ?_
    refine rk_aload_n rfl rfl ?_
    refine rk_get rfl (by assumption) rfl ?_
    refine rk_iconst (v := nI 0) rfl (by decide) ?_
    refine rk_iald rfl (by assumption) (rfl) (by omega) (by decide) ?_
    rw [a0]
    refine rk_icmp_ge rfl rfl (fun hc12 => ?_) (fun hc12 => ?_)
    · replace hc12 := (nI_leI (by omega) (by omega)).mp hc12
      refine rk_iload_n rfl rfl ?_
      exact rk_ireturn rfl rfl ⟨_, _, rfl, by rw [show a = N 0 by omega], F, m, by omega, H⟩
    · replace hc12 := mt (nI_leI (by omega) (by omega)).mpr hc12
      refine rk_iconst (v := nI 1) rfl (by decide) ?_
      refine rk_istore_n rfl (Nat.le_of_ble_eq_true rfl) rfl ?_
      rw [show nI 1 = bI (¬ any (fun b' => decide (ev N (gS N) 196 (b' * 14 + a) = -1)) (0) = true) by rw [bI_t (by simp [any])]; exact nI_one]
      refine rk_iconst (v := nI 0) rfl (by decide) ?_
      refine rk_istore rfl (Nat.le_of_ble_eq_true rfl) rfl ?_
      refine l263i (h := h) c53 hN M hmk (by omega) (fun g2 m2 F2 H2 hm2 => ?_) (a + 1) 0 g m (by omega) (by omega) F H (by omega)
      refine rk_iload_n rfl rfl ?_
      refine rk_iload_n rfl rfl ?_
      refine rk_if_eq rfl rfl (fun hc => ?_) (fun hc => ?_)
      · replace hc := bI_0.mp hc
        have hcl : clk N (a + 1) = clk N a + 0 := by
          rw [clk, if_pos (show nfk N a = true from Decidable.not_not.mp hc)]
        refine rk_iconst (v := nI 0) rfl (by decide) ?_
        refine rk_iadd rfl (nI_add _ _) ?_
        rw [← hcl]
        refine rk_istore_n rfl (Nat.le_of_ble_eq_true rfl) rfl ?_
        refine rk_iinc rfl rfl (n_inc _) rfl ?_
        refine rk_goto rfl rfl ?_
        exact ih (a + 1) g2 m2 _ _ (by omega) (by omega) F2 H2 (by omega)
      · replace hc := Decidable.not_not.mp (mt bI_0.mpr hc)
        have hcl : clk N (a + 1) = clk N a + 1 := by rw [clk, if_neg (show ¬ nfk N a = true from hc)]
        refine rk_iconst (v := nI 1) rfl (by decide) ?_
        refine rk_goto rfl rfl ?_
        refine rk_iadd rfl (nI_add _ _) ?_
        rw [← hcl]
        refine rk_istore_n rfl (Nat.le_of_ble_eq_true rfl) rfl ?_
        refine rk_iinc rfl rfl (n_inc _) rfl ?_
        refine rk_goto rfl rfl ?_
        exact ih (a + 1) g2 m2 _ _ (by omega) (by omega) F2 H2 (by omega)
theorem m263 {X : ai_X} {h : ai_H} {w A : Nat → Int32} {N : Nat → Nat} {mk : Nat} (c53 : h[53]? = some (cI 2346 A)) (hN : HN N) (M : MH A N) (H : MR h w mk) (hmk : mk + 200 < 2 ^ 28) : Rk X am_263 3 (ai_loc (ai_mL am_263) [.ref 52]) [] h (Qi (fun y h1 => y = nI (clk N (N 0)) ∧ FrM h h1 ∧ ∃ m, m ≤ mk + 200 ∧ MR h1 w m)) := by
  refine rk_iconst (v := nI 0) rfl (by decide) ?_
  refine rk_istore_n rfl (Nat.le_of_ble_eq_true rfl) rfl ?_
  refine rk_iconst (v := nI 0) rfl (by decide) ?_
  refine rk_istore_n rfl (Nat.le_of_ble_eq_true rfl) rfl ?_
  exact l263 c53 hN M hmk (N 0 + 1) 0 h mk _ _ (by omega) (by omega) FrM.rfl' H (by omega)
theorem MQs.mr {h : ai_H} {mk : Nat} {v : Nat → Int32} (hv : h[52]? = some (cMdl v)) (H : MQs h mk) : MR h v mk := by
  refine ⟨H, ?_⟩
  obtain ⟨v', e1, e2, -, -, -, -, -, -, sm, a6, a7⟩ := H
  rw [hv] at e1
  obtain ⟨x1, x2, x3, x4⟩ := cMdl_inj (Option.some.inj e1)
  exact ⟨v, hv, rfl, rfl, rfl, x4.trans e2, sm, a6, a7⟩
/-- helpers of pairs were written, the model searched, nothing is FOUND anew -/
theorem fin_p {m c s m1 : Nat} {h h1 h2 h3 : ai_H} {tp : Nat} {T A im rs rm v : Nat → Int32} {nu : Nat → Int64} {fk fp : Int32} {b : Nat → Option Nat} {N : Nat → Nat} (hP : InvP m c s h tp T A im rs rm nu fk fp b) (hV : HV A 0 (N 0) (N 1) (N 271)) (hFV : FV A 0 (N 1)) (hv : v 5 = nI tp ∧ v 13 = fk ∧ v 14 = fp) (F1 : Fr 28 29 h h1) (hk : ∀ q : Nat, q ≠ 52 → h2[q]? = h1[q]?) (hl : h2.length = h1.length) (F3 : FrM h2 h3) (w3 : MW h3 v m1) (hm1 : m1 ≤ 4000 * (m + 1)) (k : ai_Sk h h3) : Inv (m + 1) (c + 0) (s + 0) h3 := by
  obtain ⟨hA, hB, hR, hI, hS, hO, hM, hVV, hD, hc, hs⟩ := id hP
  obtain ⟨-, R9, ⟨n0, f0, R, hFC⟩, n7, f7, R17⟩ := id hB
  obtain ⟨n33, d33⟩ := hO.2.1
  exact fin0 hP hV hm1 hv F1.1 (fun q hq => F1.2 q (by omega)) ⟨n7, f7, R17.fr (fun q _ _ => F1.2 q (by omega))⟩ ⟨n33, (F1.2 33 (by omega)).trans d33⟩ hk hl F3.f w3 ((F3.2 53 (by omega) (by omega)).trans ((hk 53 (by omega)).trans ((F1.2 53 (by omega)).trans hM.2.1))) (fun _ _ => rfl) ⟨n0, f0, R.fr (fun q _ _ => (F3.2 q (by omega) (by omega)).trans ((hk q (by omega)).trans (F1.2 q (by omega)))), hFC⟩ hFV k
theorem ob16 (X : ai_X) : O16 X Inv := by
  intro a0 a1
  refine ob_gen fun m c s h hm I => ?_
  obtain ⟨tp, T, A, im, rs, rm, nu, fk, fp, b, hP⟩ := id I
  obtain ⟨N, mk, hN, C, M, -, hV, hFV, H, hmk, hv⟩ := Inv.sdat hP hm
  obtain ⟨hA, hB, hR, hI, hS, hO, hM, hVV, hD, hc, hs⟩ := id hP
  obtain ⟨v, d52⟩ := I.m52
  have d53 := hM.2.1
  have d0 := hA.1
  have h80 := hM.len
  have hn := hN.n
  have d27 := hO.1
  obtain ⟨f28, c28⟩ := hO.2.2.2.2.2.2.1
  obtain ⟨-, R9, ⟨n0, f0, R, hFC⟩, n7, f7, R17⟩ := id hB
  by_cases hx : (¬ a0 < 0 ∧ ¬ nI (N 0) ≤ a0) ∧ (¬ a1 < 0 ∧ ¬ nI (N 0) ≤ a1)
  · obtain ⟨a, ha, rfl⟩ := in_of (by omega) hx.1
    obtain ⟨b', hb, rfl⟩ := in_of (by omega) hx.2
    refine ⟨_, _, c147_v d0 hN C d27 c28 ha hb, ?_⟩
    rintro h1 F1 k1
    have e52 := (F1.2 52 (by omega)).trans d52
    refine ⟨⟨_, e52⟩, md_g rfl rfl rfl rfl e52 (fun h2 g2 hk hl => ?_)⟩
    have H2 : MQs h2 mk := H.fr (fun q a1 a2 => (hk q (by omega)).trans (F1.2 q (by omega))) d52 g2 rfl
    refine (m243_v ((hk 53 (by omega)).trans ((F1.2 53 (by omega)).trans d53)) hN M (H2.mr g2) (by omega) ha hb).mono ?_
    rintro o ⟨y, h3, e1, hy, F3, H3⟩
    subst e1
    exact ⟨_, _, rfl, hy, fun k2 => fin_p hP hV hFV (hv v d52) F1 hk hl F3 H3.2 (by omega) (k1.trans k2)⟩
  · exact og_pure I (c147_x d0 hN C hx) (md_thr rfl rfl rfl rfl d52 (fun h2 g2 hk => m243_x g2 ((hk 53 (by omega)).trans d53) hN M hx))
theorem ob27 (X : ai_X) : O27 X Inv := by
  intro a0 a1
  refine ob_gen fun m c s h hm I => ?_
  obtain ⟨tp, T, A, im, rs, rm, nu, fk, fp, b, hP⟩ := id I
  obtain ⟨N, mk, hN, C, M, -, hV, hFV, H, hmk, hv⟩ := Inv.sdat hP hm
  obtain ⟨hA, hB, hR, hI, hS, hO, hM, hVV, hD, hc, hs⟩ := id hP
  obtain ⟨v, d52⟩ := I.m52
  have d53 := hM.2.1
  have d0 := hA.1
  have h80 := hM.len
  have hn := hN.n
  have d27 := hO.1
  obtain ⟨f28, c28⟩ := hO.2.2.2.2.2.2.1
  obtain ⟨-, R9, ⟨n0, f0, R, hFC⟩, n7, f7, R17⟩ := id hB
  by_cases hx : (¬ a0 < 0 ∧ ¬ nI (N 0) ≤ a0) ∧ (¬ a1 < 0 ∧ ¬ nI (N 0) ≤ a1)
  · obtain ⟨a, ha, rfl⟩ := in_of (by omega) hx.1
    obtain ⟨b', hb, rfl⟩ := in_of (by omega) hx.2
    refine ⟨_, _, c158_v d0 hN C d27 c28 ha hb, ?_⟩
    rintro h1 F1 k1
    have e52 := (F1.2 52 (by omega)).trans d52
    refine ⟨⟨_, e52⟩, md_g rfl rfl rfl rfl e52 (fun h2 g2 hk hl => ?_)⟩
    have H2 : MQs h2 mk := H.fr (fun q a1 a2 => (hk q (by omega)).trans (F1.2 q (by omega))) d52 g2 rfl
    refine (m262_v ((hk 53 (by omega)).trans ((F1.2 53 (by omega)).trans d53)) hN M (H2.mr g2) (by omega) ha hb).mono ?_
    rintro o ⟨y, h3, e1, hy, F3, H3⟩
    subst e1
    exact ⟨_, _, rfl, hy, fun k2 => fin_p hP hV hFV (hv v d52) F1 hk hl F3 H3.2 (by omega) (k1.trans k2)⟩
  · exact og_pure I (c158_x d0 hN C hx) (md_thr rfl rfl rfl rfl d52 (fun h2 g2 hk => m262_x g2 ((hk 53 (by omega)).trans d53) hN M hx))
theorem ob17 (X : ai_X) : O17 X Inv := by
  refine ob_gen fun m c s h hm I => ?_
  obtain ⟨tp, T, A, im, rs, rm, nu, fk, fp, b, hP⟩ := id I
  obtain ⟨N, mk, hN, C, M, -, hV, hFV, H, hmk, hv⟩ := Inv.sdat hP hm
  obtain ⟨hA, hB, hR, hI, hS, hO, hM, hVV, hD, hc, hs⟩ := id hP
  obtain ⟨v, d52⟩ := I.m52
  have d53 := hM.2.1
  have d0 := hA.1
  have h80 := hM.len
  have hn := hN.n
  have d27 := hO.1
  obtain ⟨f28, c28⟩ := hO.2.2.2.2.2.2.1
  obtain ⟨-, R9, ⟨n0, f0, R, hFC⟩, n7, f7, R17⟩ := id hB
  refine ⟨_, _, c148 d0 hN C d27 c28, ?_⟩
  rintro h1 F1 k1
  have e52 := (F1.2 52 (by omega)).trans d52
  refine ⟨⟨_, e52⟩, md_g rfl rfl rfl rfl e52 (fun h2 g2 hk hl => ?_)⟩
  have H2 : MQs h2 mk := H.fr (fun q a1 a2 => (hk q (by omega)).trans (F1.2 q (by omega))) d52 g2 rfl
  refine (m244 ((hk 53 (by omega)).trans ((F1.2 53 (by omega)).trans d53)) hN M (H2.mr g2) (by omega)).mono ?_
  rintro o ⟨y, h3, e1, hy, F3, m3, hm3, H3⟩
  subst e1
  exact ⟨_, _, rfl, hy, fun k2 => fin_p hP hV hFV (hv v d52) F1 hk hl F3 H3.2 (by omega) (k1.trans k2)⟩
theorem ob28 (X : ai_X) : O28 X Inv := by
  refine ob_gen fun m c s h hm I => ?_
  obtain ⟨tp, T, A, im, rs, rm, nu, fk, fp, b, hP⟩ := id I
  obtain ⟨N, mk, hN, C, M, -, hV, hFV, H, hmk, hv⟩ := Inv.sdat hP hm
  obtain ⟨hA, hB, hR, hI, hS, hO, hM, hVV, hD, hc, hs⟩ := id hP
  obtain ⟨v, d52⟩ := I.m52
  have d53 := hM.2.1
  have d0 := hA.1
  have h80 := hM.len
  have hn := hN.n
  have d27 := hO.1
  obtain ⟨f28, c28⟩ := hO.2.2.2.2.2.2.1
  obtain ⟨-, R9, ⟨n0, f0, R, hFC⟩, n7, f7, R17⟩ := id hB
  refine ⟨_, _, c159 d0 hN C d27 c28, ?_⟩
  rintro h1 F1 k1
  have e52 := (F1.2 52 (by omega)).trans d52
  refine ⟨⟨_, e52⟩, md_g rfl rfl rfl rfl e52 (fun h2 g2 hk hl => ?_)⟩
  have H2 : MQs h2 mk := H.fr (fun q a1 a2 => (hk q (by omega)).trans (F1.2 q (by omega))) d52 g2 rfl
  refine (m263 ((hk 53 (by omega)).trans ((F1.2 53 (by omega)).trans d53)) hN M (H2.mr g2) (by omega)).mono ?_
  rintro o ⟨y, h3, e1, hy, F3, m3, hm3, H3⟩
  subst e1
  exact ⟨_, _, rfl, hy, fun k2 => fin_p hP hV hFV (hv v d52) F1 hk hl F3 H3.2 (by omega) (k1.trans k2)⟩
theorem ob29 (X : ai_X) : O29 X Inv := by
  intro a0 a1
  refine ob_gen fun m c s h hm I => ?_
  obtain ⟨tp, T, A, im, rs, rm, nu, fk, fp, b, hP⟩ := id I
  obtain ⟨N, mk, hN, C, M, -, hV, hFV, H, hmk, hv⟩ := Inv.sdat hP hm
  obtain ⟨hA, hB, hR, hI, hS, hO, hM, hVV, hD, hc, hs⟩ := id hP
  obtain ⟨v, d52⟩ := I.m52
  have d53 := hM.2.1
  have d0 := hA.1
  have h80 := hM.len
  have hn := hN.n
  have d27 := hO.1
  obtain ⟨f28, c28⟩ := hO.2.2.2.2.2.2.1
  obtain ⟨-, R9, ⟨n0, f0, R, hFC⟩, n7, f7, R17⟩ := id hB
  obtain ⟨n33, d33⟩ := hO.2.1
  by_cases hx : (¬ a0 < 0 ∧ ¬ nI (N 0) ≤ a0) ∧ (¬ a1 < 0 ∧ ¬ nI (N 0) ≤ a1)
  · obtain ⟨a, ha, rfl⟩ := in_of (by omega) hx.1
    obtain ⟨b', hb, rfl⟩ := in_of (by omega) hx.2
    rcases ev_196 (g := gS N) hN (vP_ab hN ha hb) with ⟨k, hk196, hl, he⟩ | ⟨hno, he⟩
    · refine ⟨_, _, c160_v d0 hN C d27 c28 ha hb R R17 hk196 hl, ?_⟩
      rintro h1 ⟨l1, K1, R17b, R15b⟩ k1
      have e52 := (K1 52 (by omega) (by omega)).trans d52
      refine ⟨⟨_, e52⟩, md_g rfl rfl rfl rfl e52 (fun h2 g2 hk hlen => ?_)⟩
      have H2 : MQs h2 mk := H.fr (fun q a1 a2 => (hk q (by omega)).trans (K1 q (by omega) (by omega))) d52 g2 rfl
      refine (m264_v ((hk 53 (by omega)).trans ((K1 53 (by omega) (by omega)).trans d53)) hN M (H2.mr g2) (by omega) ha hb).mono ?_
      rintro o ⟨y, h3, e1, F3, ⟨w1, q1, W3⟩, A1, c53, z3⟩
      subst e1
      rcases z3 with ⟨-, z4, -⟩ | ⟨k', hk', hy, hl', hfd⟩
      · rw [he] at z4
        exact absurd z4 (nm_eq (by omega))
      · have hkk := hl'.uniq hl
        subst hkk
        refine ⟨_, _, rfl, hy, fun k2 => fin0 hP hV (by omega) (hv v d52) l1 (fun q hq => K1 q (by omega) (by omega)) R17b ⟨n33, (K1 33 (by omega) (by omega)).trans d33⟩ hk hlen F3 (W3.tr q1) c53 hfd.2.2 ?_ ?_ (k1.trans k2)⟩
        · obtain ⟨f5, r5, y5⟩ := R15b
          have kk : ∀ q : Nat, 15 ≤ q → q < 15 + 2 → h3[q]? = h1[q]? := fun q a1 a2 => (F3.2 q (by omega) (by omega) (by omega)).trans (hk q (by omega))
          refine ⟨_, f5, r5.fr kk, hfd.1.symm, fun i hi => ?_⟩
          rw [Nat.zero_add, hfd.1, nI_clamp (by omega)] at hi
          rw [y5 i hi, Nat.zero_add, hfd.2.1 i hi]
        · have hgr := gr_row _ _ hl.1
          exact Or.inr ⟨k', by omega, by rw [Nat.zero_add]; exact hfd.1, fun i hi => ⟨_, hgr.1 i hi, by rw [Nat.zero_add]; exact hfd.2.1 i hi⟩⟩
    · refine ⟨_, _, c160_n d0 hN C d27 c28 ha hb he, ?_⟩
      rintro h1 F1 k1
      have e52 := (F1.2 52 (by omega)).trans d52
      refine ⟨⟨_, e52⟩, md_g rfl rfl rfl rfl e52 (fun h2 g2 hk hlen => ?_)⟩
      have H2 : MQs h2 mk := H.fr (fun q a1 a2 => (hk q (by omega)).trans (F1.2 q (by omega))) d52 g2 rfl
      refine (m264_v ((hk 53 (by omega)).trans ((F1.2 53 (by omega)).trans d53)) hN M (H2.mr g2) (by omega) ha hb).mono ?_
      rintro o ⟨y, h3, e1, F3, ⟨w1, q1, W3⟩, A1, c53, z3⟩
      subst e1
      rcases z3 with ⟨hy, z4, rfl⟩ | ⟨k', hk', hy, hl', hfd⟩
      · exact ⟨_, _, rfl, hy, fun k2 => fin0 hP hV (by omega) (hv v d52) F1.1 (fun q hq => F1.2 q (by omega)) ⟨n7, f7, R17.fr (fun q _ _ => F1.2 q (by omega))⟩ ⟨n33, (F1.2 33 (by omega)).trans d33⟩ hk hlen F3 (W3.tr q1) c53 (fun _ _ => rfl) ⟨n0, f0, R.fr (fun q _ _ => (F3.2 q (by omega) (by omega) (by omega)).trans ((hk q (by omega)).trans (F1.2 q (by omega)))), hFC⟩ hFV (k1.trans k2)⟩
      · exact absurd hl'.1 (hno k')
  · exact og_pure I (c160_x d0 hN C hx) (md_thr rfl rfl rfl rfl d52 (fun h2 g2 hk => m264_x g2 ((hk 53 (by omega)).trans d53) hN M hx))
