/-! DOUBT: the model, the obligation -/
theorem SC.of37 {h h1 h2 : ai_H} (S : SC h h1) (F : Fr 37 41 h1 h2) : SC h h2 := by
  obtain ⟨a, b, ⟨n, f, r⟩, n33, e⟩ := S
  exact ⟨F.1.trans a, fun q x y z => (F.2 q (by omega)).trans (b q x y z), ⟨n, f, r.fr (fun q _ _ => F.2 q (by omega))⟩, n33, (F.2 33 (by omega)).trans e⟩
theorem InvO.s36 {h : ai_H} (O : InvO h) : h[36]? = some cSg ∧ ShI h 37 84 ∧ ShI h 38 84 ∧ ShI h 39 10 ∧ ShI h 40 14 := by
  obtain ⟨a1, -, a3, a4, s1, s2, s3, s4, s5, s6, s7, s8, s9, s10, s11, s12, s13, s14, s15⟩ := O
  exact ⟨a3, s10, s11, s12, s13⟩
theorem c155_x {X : ai_X} {h : ai_H} {tp : Int32} {ro : Nat → Option Nat} {N : Nat → Nat} (d0 : h[0]? = some (cOne tp)) (hN : HN N) (C : CH h 3 N) (d19 : h[19]? = some (cR 3 4 ro)) (hro : ∀ i, i < 4 → ro i = some (44 + 2 * i)) (Q : ∃ n f, RouteAt h 17 n f) (O : InvO h) {a b c : Int32} (ha : ¬ (¬ a < 0 ∧ ¬ nI 4 ≤ a)) : Mt X am_155 [.ref 0, .int a, .int b, .int c] h (Qi (fun y h1 => y = -2 ∧ SC h h1)) := by
  have d3 := C.1
  refine rk_aload_n rfl rfl ?_
  refine rk_iload_n rfl rfl ?_
  refine rk_cv1e rfl rfl (by assumption) rfl rfl (Nat.le_of_ble_eq_true rfl) (Nat.le_of_ble_eq_true rfl) (s179 _) ?_
  refine rk_if_ne rfl rfl (fun hc3 => ?_) (fun hc3 => ?_)
  · replace hc3 := Decidable.not_not.mp (mt bI_0.mpr hc3)
    exact absurd hc3 ha
  · replace hc3 := Decidable.not_not.mp hc3
    replace hc3 := (bI_0).mp hc3
    refine rk_bipush (v := (-2)) rfl (by decide) ?_
    exact rk_ireturn rfl rfl ⟨_, _, rfl, rfl, SC.rfl' Q O⟩
theorem c155_o {X : ai_X} {h : ai_H} {tp : Int32} {ro : Nat → Option Nat} {N : Nat → Nat} (d0 : h[0]? = some (cOne tp)) (hN : HN N) (C : CH h 3 N) (d19 : h[19]? = some (cR 3 4 ro)) (hro : ∀ i, i < 4 → ro i = some (44 + 2 * i)) (Q : ∃ n f, RouteAt h 17 n f) (O : InvO h) {i L : Nat} {code : Int32} {x : Nat → Nat} (hi : i < 4) (R : CRow h i (N 1) code L x) {b c : Int32} (hb : ¬ IsSet N b) : Mt X am_155 [.ref 0, .int (nI i), .int b, .int c] h (Qi (fun y h1 => y = (if code = 0 then -3 else code) ∧ SC h h1)) := by
  have d3 := C.1
  refine rk_aload_n rfl rfl ?_
  refine rk_iload_n rfl rfl ?_
  refine rk_cv1e rfl rfl (by assumption) rfl rfl (Nat.le_of_ble_eq_true rfl) (Nat.le_of_ble_eq_true rfl) (s179 _) ?_
  refine rk_if_ne rfl rfl (fun hc3 => ?_) (fun hc3 => ?_)
  · replace hc3 := Decidable.not_not.mp (mt bI_0.mpr hc3)
    refine rk_aload_n rfl rfl ?_
    refine rk_iload_n rfl rfl ?_
    refine rk_cv1i rfl rfl (by assumption) rfl rfl (Nat.le_of_ble_eq_true rfl) (Nat.le_of_ble_eq_true rfl) (s180 d0 d19 hro hi C rfl Q R) (fun w h1 hF => ?_)
    obtain ⟨rfl, F1, Q1, R1⟩ := hF
    have e0 := (F1.2 0 (by omega)).trans d0
    have C1 := C.fr2 F1 (by omega)
    have e3 := C1.1
    refine rk_istore rfl (Nat.le_of_ble_eq_true rfl) rfl ?_
    refine rk_iload rfl rfl ?_
    refine rk_if_eq rfl rfl (fun hc11 => ?_) (fun hc11 => ?_)
    · subst hc11
      have R2 := R1 rfl
      obtain ⟨hL, hx⟩ := R.x
      have e17 := R2.choose_spec.1.1
      refine rk_aload_n rfl rfl ?_
      refine rk_get rfl (by assumption) rfl ?_
      refine rk_iload_n rfl rfl ?_
      refine rk_cv1e rfl rfl (by assumption) rfl rfl (Nat.le_of_ble_eq_true rfl) (Nat.le_of_ble_eq_true rfl) (s26N hN C1 _) ?_
      refine rk_if_eq rfl rfl (fun hc18 => ?_) (fun hc18 => ?_)
      · replace hc18 := (bI_0).mp hc18
        refine rk_bipush (v := (-3)) rfl (by decide) ?_
        exact rk_ireturn rfl rfl ⟨_, _, rfl, by first | rw [if_neg (by assumption)] | rw [if_pos rfl], SC.of17 F1 Q1 O⟩
      · replace hc18 := Decidable.not_not.mp (mt bI_0.mpr hc18)
        exact absurd hc18 hb
    · refine rk_iload rfl rfl ?_
      exact rk_ireturn rfl rfl ⟨_, _, rfl, by first | rw [if_neg (by assumption)] | rw [if_pos rfl], SC.of17 F1 Q1 O⟩
  · replace hc3 := Decidable.not_not.mp hc3
    replace hc3 := (bI_0).mp hc3
    exact absurd (in_mk (by omega) hi) hc3
theorem c155_v {X : ai_X} {h : ai_H} {tp : Int32} {ro : Nat → Option Nat} {N : Nat → Nat} (d0 : h[0]? = some (cOne tp)) (hN : HN N) (C : CH h 3 N) (d19 : h[19]? = some (cR 3 4 ro)) (hro : ∀ i, i < 4 → ro i = some (44 + 2 * i)) (Q : ∃ n f, RouteAt h 17 n f) (O : InvO h) {i L : Nat} {code : Int32} {x : Nat → Nat} (hi : i < 4) (R : CRow h i (N 1) code L x) {s : Nat} {now : Bool} (h0 : 0 < s) (hs : s < 2 ^ N 0) : Mt X am_155 [.ref 0, .int (nI i), .int (nI s), .int (bI (now = true))] h (Qi (fun y h1 => y = (if code = 0 then nI (dbs N s x L now) else code) ∧ SC h h1)) := by
  have d3 := C.1
  obtain ⟨d36, S37, S38, S39, S40⟩ := O.s36
  refine rk_aload_n rfl rfl ?_
  refine rk_iload_n rfl rfl ?_
  refine rk_cv1e rfl rfl (by assumption) rfl rfl (Nat.le_of_ble_eq_true rfl) (Nat.le_of_ble_eq_true rfl) (s179 _) ?_
  refine rk_if_ne rfl rfl (fun hc3 => ?_) (fun hc3 => ?_)
  · replace hc3 := Decidable.not_not.mp (mt bI_0.mpr hc3)
    refine rk_aload_n rfl rfl ?_
    refine rk_iload_n rfl rfl ?_
    refine rk_cv1i rfl rfl (by assumption) rfl rfl (Nat.le_of_ble_eq_true rfl) (Nat.le_of_ble_eq_true rfl) (s180 d0 d19 hro hi C rfl Q R) (fun w h1 hF => ?_)
    obtain ⟨rfl, F1, Q1, R1⟩ := hF
    have e0 := (F1.2 0 (by omega)).trans d0
    have C1 := C.fr2 F1 (by omega)
    have e3 := C1.1
    refine rk_istore rfl (Nat.le_of_ble_eq_true rfl) rfl ?_
    refine rk_iload rfl rfl ?_
    refine rk_if_eq rfl rfl (fun hc11 => ?_) (fun hc11 => ?_)
    · subst hc11
      have R2 := R1 rfl
      obtain ⟨hL, hx⟩ := R.x
      have e17 := R2.choose_spec.1.1
      have e36 := (F1.2 36 (by omega)).trans d36
      refine rk_aload_n rfl rfl ?_
      refine rk_get rfl (by assumption) rfl ?_
      refine rk_iload_n rfl rfl ?_
      refine rk_cv1e rfl rfl (by assumption) rfl rfl (Nat.le_of_ble_eq_true rfl) (Nat.le_of_ble_eq_true rfl) (s26N hN C1 _) ?_
      refine rk_if_eq rfl rfl (fun hc18 => ?_) (fun hc18 => ?_)
      · replace hc18 := (bI_0).mp hc18
        exact absurd (isSet_mk hN h0 hs) hc18
      · replace hc18 := Decidable.not_not.mp (mt bI_0.mpr hc18)
        refine rk_aload_n rfl rfl ?_
        refine rk_get rfl (by assumption) rfl ?_
        refine rk_aload_n rfl rfl ?_
        refine rk_get rfl (by assumption) rfl ?_
        refine rk_iload_n rfl rfl ?_
        refine rk_iload_n rfl rfl ?_
        refine rk_cv3i rfl rfl (by assumption) rfl rfl (Nat.le_of_ble_eq_true rfl) (Nat.le_of_ble_eq_true rfl) (s122 (now := now) hN C1 e36 R2 hL hx hs (S37.fr (F1.2 37 (by omega))) (S38.fr (F1.2 38 (by omega))) (S39.fr (F1.2 39 (by omega))) (S40.fr (F1.2 40 (by omega)))) (fun w h1 hF => ?_)
        obtain ⟨rfl, F2⟩ := hF
        refine rk_goto rfl rfl ?_
        first | exact rk_ireturn rfl rfl ⟨_, _, rfl, by rw [if_pos rfl], (SC.of17 F1 Q1 O).of37 F2⟩ | exact rk_ireturn rfl rfl ⟨_, _, rfl, by first | rw [if_neg (by assumption)] | rw [if_pos rfl], SC.of17 F1 Q1 O⟩
    · refine rk_iload rfl rfl ?_
      first | exact rk_ireturn rfl rfl ⟨_, _, rfl, by rw [if_pos rfl], (SC.of17 F1 Q1 O).of37 F2⟩ | exact rk_ireturn rfl rfl ⟨_, _, rfl, by first | rw [if_neg (by assumption)] | rw [if_pos rfl], SC.of17 F1 Q1 O⟩
  · replace hc3 := Decidable.not_not.mp hc3
    replace hc3 := (bI_0).mp hc3
    exact absurd (in_mk (by omega) hi) hc3
def rp (N w : Nat → Nat) (r : Nat) : Nat := ffi (fun k => decide (w k = w r)) (N 0) 0
theorem rp_ok {N w : Nat → Nat} {r : Nat} (hr : r < N 0) : rp N w r < N 0 ∧ w (rp N w r) = w r ∧ rp N w r ≤ r ∧ ∀ i, i < rp N w r → ¬ w i = w r := by
  obtain ⟨h1, -, h3, h4⟩ := ffi_ex (p := fun k => decide (w k = w r)) (N 0) 0 ⟨r, by omega, by omega, decide_eq_true rfl⟩
  refine ⟨by unfold rp; omega, of_decide_eq_true h3, ?_, fun i hi z => h4 i (by omega) hi (decide_eq_true z)⟩
  apply Decidable.byContradiction
  intro y
  exact h4 r (by omega) (by unfold rp at y; omega) (decide_eq_true rfl)
theorem rp_iff {N w : Nat → Nat} {a b : Nat} (ha : a < N 0) (hb : b < N 0) : rp N w a = rp N w b ↔ w a = w b := by
  constructor
  · intro h
    rw [← (rp_ok (w := w) ha).2.1, ← (rp_ok (w := w) hb).2.1, h]
  · intro h
    unfold rp
    rw [h]
theorem l254a {X : ai_X} {h : ai_H} {v A : Nat → Int32} {N : Nat → Nat} (c0 : h[52]? = some (cMdl v)) (c1 : h[53]? = some (cI 2346 A)) (hN : HN N) (M : MH A N) {w : Nat → Nat} {f68 : Nat → Int32} (c68 : h[68]? = some (cI 14 f68)) (hw : ∀ r, r < N 0 → f68 r = nI (w r)) (hwb : ∀ r, r < N 0 → w r < 2 ^ 20) {P : ai_O → Prop} {x3 : Option Value} (z : ∀ g f69 c2, Fr 69 70 h g → g[69]? = some (cI 14 f69) → (∀ r, r < N 0 → f69 r = nI (w r)) → Rk X am_254 20 [some (.ref 52), some (.ref 69), c2, x3] [] g P) : ∀ (d : Nat) (r : Nat) (g : ai_H) (f69 : Nat → Int32), N 0 < r + d → (r ≤ N 0) → (Fr 69 70 h g) → (g[69]? = some (cI 14 f69)) → (∀ r', r' < r → f69 r' = nI (w r')) → Rk X am_254 5 [some (.ref 52), some (.ref 69), some (.int (nI r)), x3] [] g (P) := by
  intro d
  induction d with
  | zero => intro r g f69 hd hr F c69 hf; exfalso; omega
  | succ d ih =>
    intro r g f69 hd hr F c69 hf
    obtain ⟨a0, a1, a268, a269, a270, a271, apl, apc, aot, asg, awt⟩ := id M
    have hn := hN.n
    have e52 := (F.2 52 (by omega)).trans c0
    have e53 := (F.2 53 (by omega)).trans c1
    have e68 := (F.2 68 (by omega)).trans c68
    have F0 : Fr 69 70 h g := F
    refine rk_iload_n rfl rfl ?_
    refine rk_aload_n rfl rfl ?_
    refine rk_get rfl (by assumption) rfl ?_
    refine rk_iconst (v := nI 0) rfl (by decide) ?_
    refine rk_iald rfl (by assumption) (rfl) (by omega) (by decide) ?_
    rw [a0]
    refine rk_icmp_ge rfl rfl (fun hc10 => ?_) (fun hc10 => ?_)
    · replace hc10 := (nI_leI (by omega) (by omega)).mp hc10
      have hr2 : r = N 0 := by omega
      subst hr2
      exact z g f69 _ F c69 hf
    · replace hc10 := mt (nI_leI (by omega) (by omega)).mpr hc10
      refine rk_aload_n rfl rfl ?_
      refine rk_iload_n rfl rfl ?_
      refine rk_aload_n rfl rfl ?_
      refine rk_get rfl (by assumption) rfl ?_
      refine rk_iload_n rfl rfl ?_
      refine rk_iald rfl (by assumption) (rfl) (by omega) (by decide) ?_
      rw [hw r (by omega)]
      refine rk_iast rfl c69 (rfl) (by omega) (by decide) ?_
      refine hp_gen c69 (fun h1 g1 hk1 hl1 => ?_)
      replace e52 := (hk1 _ (by omega)).trans e52
      replace e53 := (hk1 _ (by omega)).trans e53
      replace e68 := (hk1 _ (by omega)).trans e68
      replace F0 := F0.tr (Fr.mk1 hk1 hl1 (by omega) (by omega))
      replace c69 := g1
      refine rk_iinc rfl rfl (n_inc _) rfl ?_
      refine rk_goto rfl rfl ?_
      refine ih (r + 1) _ _ (by omega) (by omega) F0 c69 (fun r' hr' => ?_)
      simp only [upd]
      by_cases q : r' = r
      · subst q; rw [if_pos rfl]
      · rw [if_neg q]; exact hf r' (by omega)
theorem l254k {X : ai_X} {h : ai_H} {v : Nat → Int32} {N w : Nat → Nat} {f69 : Nat → Int32} {r : Nat} (hN : HN N) (c69 : h[69]? = some (cI 14 f69)) (hw : ∀ r, r < N 0 → f69 r = nI (w r)) (hwb : ∀ r, r < N 0 → w r < 2 ^ 20) (hr : r < N 0) {P : ai_O → Prop} (z : Rk X am_254 39 [some (.ref 52), some (.ref 69), some (.int (nI r)), some (.int (nI (rp N w r)))] [] h P) : ∀ (d : Nat) (k : Nat), rp N w r < k + d → (k ≤ rp N w r) → Rk X am_254 30 [some (.ref 52), some (.ref 69), some (.int (nI r)), some (.int (nI k))] [] h (P) := by
  intro d
  induction d with
  | zero => intro k hd hk; exfalso; omega
  | succ d ih =>
    intro k hd hk
    have hn := hN.n
    have hrp := rp_ok (w := w) hr
    have hb1 := hwb k (by omega)
    have hb2 := hwb r hr
    refine rk_aload_n rfl rfl ?_
    refine rk_iload_n rfl rfl ?_
    refine rk_iald rfl (by assumption) (rfl) (by omega) (by decide) ?_
    rw [hw k (by omega)]
    refine rk_aload_n rfl rfl ?_
    refine rk_iload_n rfl rfl ?_
    refine rk_iald rfl (by assumption) (rfl) (by omega) (by decide) ?_
    rw [hw r hr]
    refine rk_icmp_eq rfl rfl (fun hc36 => ?_) (fun hc36 => ?_)
    · replace hc36 := (nI_eq (by omega) (by omega)).mp hc36
      have hkk : k = rp N w r := by
        apply Decidable.byContradiction
        intro y
        exact hrp.2.2.2 k (by omega) hc36
      subst hkk
      exact z
    · replace hc36 := mt (nI_eq (by omega) (by omega)).mpr hc36
      refine rk_iinc rfl rfl (n_inc _) rfl ?_
      refine rk_goto rfl rfl ?_
      have hne : k ≠ rp N w r := fun y => hc36 (by rw [y]; exact hrp.2.1)
      exact ih (k + 1) (by omega) (by omega)
theorem l254b {X : ai_X} {h : ai_H} {v A : Nat → Int32} {N : Nat → Nat} (c0 : h[52]? = some (cMdl v)) (c1 : h[53]? = some (cI 2346 A)) (hN : HN N) (M : MH A N) {w : Nat → Nat} {f69 : Nat → Int32} (c69 : h[69]? = some (cI 14 f69)) (hw : ∀ r, r < N 0 → f69 r = nI (w r)) (hwb : ∀ r, r < N 0 → w r < 2 ^ 20) : ∀ (d : Nat) (r : Nat) (g : ai_H) (f68 : Nat → Int32) (c3 : Option Value), N 0 < r + d → (r ≤ N 0) → (Fr 68 69 h g) → (g[68]? = some (cI 14 f68)) → (∀ r', r' < r → f68 r' = nI (rp N w r')) → Rk X am_254 22 [some (.ref 52), some (.ref 69), some (.int (nI r)), c3] [] g (Qv (fun h1 => Fr 68 69 h h1 ∧ ∃ f68, h1[68]? = some (cI 14 f68) ∧ ∀ r, r < N 0 → f68 r = nI (rp N w r))) := by
  intro d
  induction d with
  | zero => intro r g f68 c3 hd hr F c68 hf; exfalso; omega
  | succ d ih =>
    intro r g f68 c3 hd hr F c68 hf
    obtain ⟨a0, a1, a268, a269, a270, a271, apl, apc, aot, asg, awt⟩ := id M
    have hn := hN.n
    have e52 := (F.2 52 (by omega)).trans c0
    have e53 := (F.2 53 (by omega)).trans c1
    have e69 := (F.2 69 (by omega)).trans c69
    have F0 : Fr 68 69 h g := F
    refine rk_iload_n rfl rfl ?_
    refine rk_aload_n rfl rfl ?_
    refine rk_get rfl (by assumption) rfl ?_
    refine rk_iconst (v := nI 0) rfl (by decide) ?_
    refine rk_iald rfl (by assumption) (rfl) (by omega) (by decide) ?_
    rw [a0]
    refine rk_icmp_ge rfl rfl (fun hc27 => ?_) (fun hc27 => ?_)
    · replace hc27 := (nI_leI (by omega) (by omega)).mp hc27
      exact rk_return rfl rfl ⟨_, rfl, F, f68, c68, fun r' hr' => hf r' (by omega)⟩
    · replace hc27 := mt (nI_leI (by omega) (by omega)).mpr hc27
      refine rk_iconst (v := nI 0) rfl (by decide) ?_
      refine rk_istore_n rfl (Nat.le_of_ble_eq_true rfl) rfl ?_
      refine l254k (v := v) (w := w) hN e69 hw hwb (r := r) (by omega) ?_ (rp N w r + 1) 0 (by omega) (Nat.zero_le _)
      refine rk_aload_n rfl rfl ?_
      refine rk_get rfl (by assumption) rfl ?_
      refine rk_iload_n rfl rfl ?_
      refine rk_iload_n rfl rfl ?_
      refine rk_iast rfl c68 (rfl) (by omega) (by decide) ?_
      refine hp_gen c68 (fun h1 g1 hk1 hl1 => ?_)
      replace e52 := (hk1 _ (by omega)).trans e52
      replace e53 := (hk1 _ (by omega)).trans e53
      replace e69 := (hk1 _ (by omega)).trans e69
      replace F0 := F0.tr (Fr.mk1 hk1 hl1 (by omega) (by omega))
      replace c68 := g1
      refine rk_iinc rfl rfl (n_inc _) rfl ?_
      refine rk_goto rfl rfl ?_
      refine ih (r + 1) _ _ _ (by omega) (by omega) F0 c68 (fun r' hr' => ?_)
      simp only [upd]
      by_cases q : r' = r
      · subst q; rw [if_pos rfl]
      · rw [if_neg q]; exact hf r' (by omega)
theorem s254 {X : ai_X} {h : ai_H} {v A : Nat → Int32} {N : Nat → Nat} (c0 : h[52]? = some (cMdl v)) (c1 : h[53]? = some (cI 2346 A)) (hN : HN N) (M : MH A N) {w : Nat → Nat} {f68 : Nat → Int32} (c68 : h[68]? = some (cI 14 f68)) (hw : ∀ r, r < N 0 → f68 r = nI (w r)) (hwb : ∀ r, r < N 0 → w r < 2 ^ 20) (S69 : ShI h 69 14) : Mt X am_254 [.ref 52] h (Qv (fun h1 => Fr 68 70 h h1 ∧ ∃ f68, h1[68]? = some (cI 14 f68) ∧ ∀ r, r < N 0 → f68 r = nI (rp N w r))) := by
  obtain ⟨f69, c69⟩ := S69
  refine rk_aload_n rfl rfl ?_
  refine rk_get rfl (by assumption) rfl ?_
  refine rk_astore_n rfl (Nat.le_of_ble_eq_true rfl) rfl ?_
  refine rk_iconst (v := nI 0) rfl (by decide) ?_
  refine rk_istore_n rfl (Nat.le_of_ble_eq_true rfl) rfl ?_
  refine l254a (h := h) c0 c1 hN M c68 hw hwb (fun g f1 c2 F d69 hf => ?_) (N 0 + 1) 0 h f69 (by omega) (Nat.zero_le _) Fr.rfl' c69 (fun r' y => absurd y (by omega))
  refine rk_iconst (v := nI 0) rfl (by decide) ?_
  refine rk_istore_n rfl (Nat.le_of_ble_eq_true rfl) rfl ?_
  refine (l254b (h := g) ((F.2 52 (by omega)).trans c0) ((F.2 53 (by omega)).trans c1) hN M d69 hf hwb (N 0 + 1) 0 g f68 _ (by omega) (Nat.zero_le _) Fr.rfl' ((F.2 68 (by omega)).trans c68) (fun r' y => absurd y (by omega))).mono ?_
  rintro o ⟨h3, rfl, F3, f, y1, y2⟩
  exact ⟨_, rfl, (F.mono (by omega) (by omega)).tr (F3.mono (by omega) (by omega)), f, y1, y2⟩
/-- the model behind k tones: rooms, and which have seen the same -/
def MSt (h : ai_H) (N x : Nat → Nat) (k : Nat) : Prop := ∃ (f67 f68 : Nat → Int32) (sn : Nat → Nat), h[67]? = some (cI 14 f67) ∧ h[68]? = some (cI 14 f68) ∧ (∀ r, r < N 0 → f67 r = nI (bh N x r k) ∧ f68 r = nI (sn r) ∧ sn r < 14) ∧ ∀ a b, a < N 0 → b < N 0 → (sn a = sn b ↔ sab N x a b k = true)
theorem l253 {X : ai_X} {h : ai_H} {v A : Nat → Int32} {N : Nat → Nat} (c0 : h[52]? = some (cMdl v)) (c1 : h[53]? = some (cI 2346 A)) (hN : HN N) (M : MH A N) {P : ai_O → Prop} (z : ∀ g f67 f68 c1, Fr 67 69 h g → g[67]? = some (cI 14 f67) → g[68]? = some (cI 14 f68) → (∀ r, r < N 0 → f67 r = nI r ∧ f68 r = nI (sg N r)) → Rk X am_253 25 [some (.ref 52), c1] [] g P) : ∀ (d : Nat) (r : Nat) (g : ai_H) (f67 f68 : Nat → Int32), N 0 < r + d → (r ≤ N 0) → (Fr 67 69 h g) → (g[67]? = some (cI 14 f67)) → (g[68]? = some (cI 14 f68)) → (∀ r', r' < r → f67 r' = nI r' ∧ f68 r' = nI (sg N r')) → Rk X am_253 2 [some (.ref 52), some (.int (nI r))] [] g (P) := by
  intro d
  induction d with
  | zero => intro r g f67 f68 hd hr F c67 c68 hf; exfalso; omega
  | succ d ih =>
    intro r g f67 f68 hd hr F c67 c68 hf
    obtain ⟨a0, a1, a268, a269, a270, a271, apl, apc, aot, asg, awt⟩ := id M
    have hn := hN.n
    have e52 := (F.2 52 (by omega)).trans c0
    have e53 := (F.2 53 (by omega)).trans c1
    have F0 : Fr 67 69 h g := F
    refine rk_iload_n rfl rfl ?_
    refine rk_aload_n rfl rfl ?_
    refine rk_get rfl (by assumption) rfl ?_
    refine rk_iconst (v := nI 0) rfl (by decide) ?_
    refine rk_iald rfl (by assumption) (rfl) (by omega) (by decide) ?_
    rw [a0]
    refine rk_icmp_ge rfl rfl (fun hc7 => ?_) (fun hc7 => ?_)
    · replace hc7 := (nI_leI (by omega) (by omega)).mp hc7
      have hr2 : r = N 0 := by omega
      subst hr2
      exact z g f67 f68 _ F c67 c68 hf
    · replace hc7 := mt (nI_leI (by omega) (by omega)).mpr hc7
      refine rk_aload_n rfl rfl ?_
      refine rk_get rfl (by assumption) rfl ?_
      refine rk_iload_n rfl rfl ?_
      refine rk_iload_n rfl rfl ?_
      refine rk_iast rfl c67 (rfl) (by omega) (by decide) ?_
      refine hp_gen c67 (fun h1 g1 hk1 hl1 => ?_)
      replace e52 := (hk1 _ (by omega)).trans e52
      replace e53 := (hk1 _ (by omega)).trans e53
      replace F0 := F0.tr (Fr.mk1 hk1 hl1 (by omega) (by omega))
      replace c68 := (hk1 _ (by omega)).trans c68
      replace c67 := g1
      refine rk_aload_n rfl rfl ?_
      refine rk_get rfl (by assumption) rfl ?_
      refine rk_iload_n rfl rfl ?_
      refine rk_aload_n rfl rfl ?_
      refine rk_get rfl (by assumption) rfl ?_
      refine rk_sipush (v := nI 254) rfl (by decide) ?_
      refine rk_iload_n rfl rfl ?_
      refine rk_iadd rfl (nI_add _ _) ?_
      refine rk_iald rfl (by assumption) (rfl) (by omega) (by decide) ?_
      rw [asg r (by omega)]
      refine rk_iast rfl c68 (rfl) (by omega) (by decide) ?_
      refine hp_gen c68 (fun h1 g1 hk1 hl1 => ?_)
      replace e52 := (hk1 _ (by omega)).trans e52
      replace e53 := (hk1 _ (by omega)).trans e53
      replace F0 := F0.tr (Fr.mk1 hk1 hl1 (by omega) (by omega))
      replace c67 := (hk1 _ (by omega)).trans c67
      replace c68 := g1
      refine rk_iinc rfl rfl (n_inc _) rfl ?_
      refine rk_goto rfl rfl ?_
      refine ih (r + 1) _ _ _ (by omega) (by omega) F0 c67 c68 (fun r' hr' => ?_)
      simp only [upd]
      by_cases q : r' = r
      · subst q; rw [if_pos rfl, if_pos rfl]; exact ⟨rfl, rfl⟩
      · rw [if_neg q, if_neg q]; exact hf r' (by omega)
theorem s253 {X : ai_X} {h : ai_H} {v A : Nat → Int32} {N : Nat → Nat} (c0 : h[52]? = some (cMdl v)) (c1 : h[53]? = some (cI 2346 A)) (hN : HN N) (M : MH A N) {x : Nat → Nat} (S67 : ShI h 67 14) (S68 : ShI h 68 14) (S69 : ShI h 69 14) : Mt X am_253 [.ref 52] h (Qv (fun h1 => Fr 67 70 h h1 ∧ MSt h1 N x 0)) := by
  obtain ⟨f67, c67⟩ := S67
  obtain ⟨f68, c68⟩ := S68
  have hn := hN.n
  refine rk_iconst (v := nI 0) rfl (by decide) ?_
  refine rk_istore_n rfl (Nat.le_of_ble_eq_true rfl) rfl ?_
  refine l253 (h := h) c0 c1 hN M (fun g f1 f2 c2 F d67 d68 hf => ?_) (N 0 + 1) 0 h f67 f68 (by omega) (Nat.zero_le _) Fr.rfl' c67 c68 (fun r' y => absurd y (by omega))
  have e52 := (F.2 52 (by omega)).trans c0
  refine rk_aload_n rfl rfl ?_
  refine rk_cv0v rfl rfl (by assumption) rfl rfl (Nat.le_of_ble_eq_true rfl) (Nat.le_of_ble_eq_true rfl) (s254 (w := sg N) e52 ((F.2 53 (by omega)).trans c1) hN M d68 (fun r hr => (hf r hr).2) (fun r hr => by have := hN.xsg (r := r) (by omega); omega) (S69.fr (F.2 69 (by omega)))) (fun h1 hF => ?_)
  obtain ⟨F2, f3, y1, y2⟩ := hF
  refine rk_return rfl rfl ⟨_, rfl, (F.mono (by omega) (by omega)).tr (F2.mono (by omega) (by omega)), f1, f3, rp N (sg N), (F2.2 67 (by omega)).trans d67, y1, fun r hr => ⟨(hf r hr).1, y2 r hr, ?_⟩, fun a b ha hb => ?_⟩
  · have := (rp_ok (w := sg N) hr).1
    omega
  · rw [rp_iff ha hb]
    exact ⟨fun z => decide_eq_true z.symm, fun z => (of_decide_eq_true z).symm⟩
theorem l255 {X : ai_X} {h : ai_H} {v A : Nat → Int32} {N : Nat → Nat} (c0 : h[52]? = some (cMdl v)) (c1 : h[53]? = some (cI 2346 A)) (hN : HN N) (M : MH A N) {t : Nat} {sp sn : Nat → Nat} (ht : t < N 1) (hsp : ∀ r, r < N 0 → sp r < N 0) (hsn : ∀ r, r < N 0 → sn r < 14) {P : ai_O → Prop} (z : ∀ g f67 f68 c2, Fr 67 69 h g → g[67]? = some (cI 14 f67) → g[68]? = some (cI 14 f68) → (∀ r, r < N 0 → f67 r = nI (pl N (sp r) t) ∧ f68 r = nI (10 * sn r + sg N (pl N (sp r) t))) → Rk X am_255 41 [some (.ref 52), some (.int (nI t)), c2] [] g P) : ∀ (d : Nat) (r : Nat) (g : ai_H) (f67 f68 : Nat → Int32), N 0 < r + d → (r ≤ N 0) → (Fr 67 69 h g) → (g[67]? = some (cI 14 f67)) → (g[68]? = some (cI 14 f68)) → (∀ r', r' < r → f67 r' = nI (pl N (sp r') t) ∧ f68 r' = nI (10 * sn r' + sg N (pl N (sp r') t))) → (∀ r', r ≤ r' → r' < N 0 → f67 r' = nI (sp r') ∧ f68 r' = nI (sn r')) → Rk X am_255 2 [some (.ref 52), some (.int (nI t)), some (.int (nI r))] [] g (P) := by
  intro d
  induction d with
  | zero => intro r g f67 f68 hd hr F c67 c68 hf hg; exfalso; omega
  | succ d ih =>
    intro r g f67 f68 hd hr F c67 c68 hf hg
    obtain ⟨a0, a1, a268, a269, a270, a271, apl, apc, aot, asg, awt⟩ := id M
    have hn := hN.n
    have e52 := (F.2 52 (by omega)).trans c0
    have e53 := (F.2 53 (by omega)).trans c1
    have F0 : Fr 67 69 h g := F
    have hgr := hg r (Nat.le_refl _)
    refine rk_iload_n rfl rfl ?_
    refine rk_aload_n rfl rfl ?_
    refine rk_get rfl (by assumption) rfl ?_
    refine rk_iconst (v := nI 0) rfl (by decide) ?_
    refine rk_iald rfl (by assumption) (rfl) (by omega) (by decide) ?_
    rw [a0]
    refine rk_icmp_ge rfl rfl (fun hc7 => ?_) (fun hc7 => ?_)
    · replace hc7 := (nI_leI (by omega) (by omega)).mp hc7
      have hr2 : r = N 0 := by omega
      subst hr2
      exact z g f67 f68 _ F c67 c68 hf
    · replace hc7 := mt (nI_leI (by omega) (by omega)).mpr hc7
      refine rk_aload_n rfl rfl ?_
      refine rk_get rfl (by assumption) rfl ?_
      refine rk_iload_n rfl rfl ?_
      refine rk_aload_n rfl rfl ?_
      refine rk_aload_n rfl rfl ?_
      refine rk_get rfl (by assumption) rfl ?_
      refine rk_iload_n rfl rfl ?_
      refine rk_iald rfl (by assumption) (rfl) (by omega) (by decide) ?_
      rw [(hgr (by omega)).1]
      have hspr := hsp r (by omega)
      have hpp := hN.xpl hspr ht
      refine rk_iload_n rfl rfl ?_
      refine rk_cv2e rfl rfl (by assumption) rfl rfl (Nat.le_of_ble_eq_true rfl) (Nat.le_of_ble_eq_true rfl) (s210N e52 e53 M hN hspr ht) ?_
      refine rk_iast rfl c67 (rfl) (by omega) (by decide) ?_
      refine hp_gen c67 (fun h1 g1 hk1 hl1 => ?_)
      replace e52 := (hk1 _ (by omega)).trans e52
      replace e53 := (hk1 _ (by omega)).trans e53
      replace F0 := F0.tr (Fr.mk1 hk1 hl1 (by omega) (by omega))
      replace c68 := (hk1 _ (by omega)).trans c68
      replace c67 := g1
      refine rk_aload_n rfl rfl ?_
      refine rk_get rfl (by assumption) rfl ?_
      refine rk_iload_n rfl rfl ?_
      refine rk_bipush (v := nI 10) rfl (by decide) ?_
      refine rk_aload_n rfl rfl ?_
      refine rk_get rfl (by assumption) rfl ?_
      refine rk_iload_n rfl rfl ?_
      refine rk_iald rfl (by assumption) (rfl) (by omega) (by decide) ?_
      rw [(hgr (by omega)).2]
      refine rk_imul rfl (pk_mul _ _) ?_
      refine rk_aload_n rfl rfl ?_
      refine rk_get rfl (by assumption) rfl ?_
      refine rk_sipush (v := nI 254) rfl (by decide) ?_
      refine rk_aload_n rfl rfl ?_
      refine rk_get rfl (by assumption) rfl ?_
      refine rk_iload_n rfl rfl ?_
      refine rk_iald rfl (by assumption) (rfl) (by omega) (by decide) ?_
      rw [show upd f67 r (nI (pl N (sp r) t)) r = nI (pl N (sp r) t) from if_pos rfl]
      refine rk_iadd rfl (nI_add _ _) ?_
      refine rk_iald rfl (by assumption) (rfl) (by omega) (by decide) ?_
      rw [asg _ (by omega)]
      refine rk_iadd rfl (nI_add _ _) ?_
      refine rk_iast rfl c68 (rfl) (by omega) (by decide) ?_
      refine hp_gen c68 (fun h1 g1 hk1 hl1 => ?_)
      replace e52 := (hk1 _ (by omega)).trans e52
      replace e53 := (hk1 _ (by omega)).trans e53
      replace F0 := F0.tr (Fr.mk1 hk1 hl1 (by omega) (by omega))
      replace c67 := (hk1 _ (by omega)).trans c67
      replace c68 := g1
      refine rk_iinc rfl rfl (n_inc _) rfl ?_
      refine rk_goto rfl rfl ?_
      refine ih (r + 1) _ _ _ (by omega) (by omega) F0 c67 c68 (fun r' hr' => ?_) (fun r' a1 a2 => ?_)
      · simp only [upd]
        by_cases q : r' = r
        · subst q; rw [if_pos rfl, if_pos rfl]; exact ⟨rfl, rfl⟩
        · rw [if_neg q, if_neg q]; exact hf r' (by omega)
      · simp only [upd]
        rw [if_neg (by omega), if_neg (by omega)]
        exact hg r' (by omega) a2
theorem s255 {X : ai_X} {h : ai_H} {v A : Nat → Int32} {N : Nat → Nat} (c0 : h[52]? = some (cMdl v)) (c1 : h[53]? = some (cI 2346 A)) (hN : HN N) (M : MH A N) {x : Nat → Nat} {k : Nat} (hx : ∀ i, i < k + 1 → x i < N 1) (H : MSt h N x k) (S69 : ShI h 69 14) : Mt X am_255 [.ref 52, .int (nI (x k))] h (Qv (fun h1 => Fr 67 70 h h1 ∧ MSt h1 N x (k + 1))) := by
  obtain ⟨f67, f68, sn, c67, c68, hf, hsn⟩ := H
  have hn := hN.n
  have hbl : ∀ r, r < N 0 → bh N x r k < N 0 := fun r hr => bh_lt hN hr k (fun j hj => hx j (by omega))
  refine rk_iconst (v := nI 0) rfl (by decide) ?_
  refine rk_istore_n rfl (Nat.le_of_ble_eq_true rfl) rfl ?_
  refine l255 (h := h) (sp := fun r => bh N x r k) (sn := sn) c0 c1 hN M (hx k (by omega)) hbl (fun r hr => (hf r hr).2.2) (fun g f1 f2 c2 F d67 d68 hg => ?_) (N 0 + 1) 0 h f67 f68 (by omega) (Nat.zero_le _) Fr.rfl' c67 c68 (fun r' y => absurd y (by omega)) (fun r' _ hr' => ⟨(hf r' hr').1, (hf r' hr').2.1⟩)
  have e52 := (F.2 52 (by omega)).trans c0
  have hsg : ∀ r, r < N 0 → sg N (bh N x r (k + 1)) < 10 := fun r hr => hN.xsg (by have := bh_lt hN hr (k + 1) hx; omega)
  refine rk_aload_n rfl rfl ?_
  refine rk_cv0v rfl rfl (by assumption) rfl rfl (Nat.le_of_ble_eq_true rfl) (Nat.le_of_ble_eq_true rfl) (s254 (w := fun r => 10 * sn r + sg N (bh N x r (k + 1))) e52 ((F.2 53 (by omega)).trans c1) hN M d68 (fun r hr => (hg r hr).2) (fun r hr => by have := hsg r hr; have := (hf r hr).2.2; show 10 * sn r + sg N (bh N x r (k + 1)) < _; omega) (S69.fr (F.2 69 (by omega)))) (fun h1 hF => ?_)
  obtain ⟨F2, f3, y1, y2⟩ := hF
  refine rk_return rfl rfl ⟨_, rfl, (F.mono (by omega) (by omega)).tr (F2.mono (by omega) (by omega)), f1, f3, rp N (fun r => 10 * sn r + sg N (bh N x r (k + 1))), (F2.2 67 (by omega)).trans d67, y1, fun r hr => ⟨(hg r hr).1, y2 r hr, ?_⟩, fun a b ha hb => ?_⟩
  · have := (rp_ok (w := fun r => 10 * sn r + sg N (bh N x r (k + 1))) hr).1
    omega
  · rw [rp_iff ha hb]
    have ga := hsg a ha
    have gb := hsg b hb
    show 10 * sn a + sg N (bh N x a (k + 1)) = 10 * sn b + sg N (bh N x b (k + 1)) ↔ (sab N x a b k && decide (sg N (bh N x b (k + 1)) = sg N (bh N x a (k + 1)))) = true
    rw [Bool.and_eq_true, ← hsn a b ha hb, decide_eq_true_iff]
    omega
def dpb (N : Nat → Nat) (S : Nat) (x : Nat → Nat) (k : Nat) (now : Bool) (a b : Nat) : Bool := (decide (S / 2 ^ b % 2 = 1) && sab N x a b k) && (decide (¬ b = a) && !(now && decide (bh N x b k = bh N x a k)))
theorem dpb_iff {N x : Nat → Nat} {S k a b : Nat} {now : Bool} : dpb N S x k now a b = true ↔ (S / 2 ^ b % 2 = 1 ∧ sab N x a b k = true) ∧ ¬ b = a ∧ ¬ (now = true ∧ bh N x b k = bh N x a k) := by
  unfold dpb
  rw [Bool.and_eq_true, Bool.and_eq_true, Bool.and_eq_true, decide_eq_true_iff, decide_eq_true_iff, Bool.not_eq_true', Bool.eq_false_iff, Ne, Bool.and_eq_true, decide_eq_true_iff]
theorem dbt_t {N x : Nat → Nat} {S k r : Nat} {now : Bool} (h : S / 2 ^ r % 2 = 1) : dbt N S x k now r = any (dpb N S x k now r) (N 0) := by
  unfold dbt
  rw [decide_eq_true h, Bool.true_and]
  rfl
theorem dbt_f {N x : Nat → Nat} {S k r : Nat} {now : Bool} (h : ¬ S / 2 ^ r % 2 = 1) : ¬ dbt N S x k now r = true := by
  unfold dbt
  rw [Bool.and_eq_true, decide_eq_true_iff]
  exact fun z => h z.1
theorem l256b {X : ai_X} {h : ai_H} {v A : Nat → Int32} {N : Nat → Nat} (c0 : h[52]? = some (cMdl v)) (c1 : h[53]? = some (cI 2346 A)) (hN : HN N) (M : MH A N) {x : Nat → Nat} {S k : Nat} {now : Bool} {f67 f68 : Nat → Int32} {sn : Nat → Nat} (c67 : h[67]? = some (cI 14 f67)) (c68 : h[68]? = some (cI 14 f68)) (hf : ∀ r, r < N 0 → f67 r = nI (bh N x r k) ∧ f68 r = nI (sn r) ∧ sn r < 14) (hsn : ∀ a b, a < N 0 → b < N 0 → (sn a = sn b ↔ sab N x a b k = true)) (hS : S < 2 ^ N 0) (hx : ∀ i, i < k → x i < N 1) {a : Nat} {c3 : Int32} (ha : a < N 0) {P : ai_O → Prop} (z : Rk X am_256 65 [some (.ref 52), some (.int (nI S)), some (.int (bI (now = true))), some (.int c3), some (.int (nI a)), some (.int (bI (any (dpb N S x k now a) (N 0) = true))), some (.int (nI (N 0)))] [] h P) : ∀ (d : Nat) (b : Nat), N 0 < b + d → (b ≤ N 0) → Rk X am_256 21 [some (.ref 52), some (.int (nI S)), some (.int (bI (now = true))), some (.int c3), some (.int (nI a)), some (.int (bI (any (dpb N S x k now a) b = true))), some (.int (nI b))] [] h (P) := by
  intro d
  induction d with
  | zero => intro b hd hb; exfalso; omega
  | succ d ih =>
    intro b hd hb
    obtain ⟨a0, a1, a268, a269, a270, a271, apl, apc, aot, asg, awt⟩ := id M
    have hn := hN.n
    have hp14 := hN.p14
    have hba := bh_lt hN ha k hx
    have hbb : b < N 0 → bh N x b k < N 0 := fun y => bh_lt hN y k hx
    have hfa' := hf a ha
    have hfb := hf b
    refine rk_iload rfl rfl ?_
    refine rk_aload_n rfl rfl ?_
    refine rk_get rfl (by assumption) rfl ?_
    refine rk_iconst (v := nI 0) rfl (by decide) ?_
    refine rk_iald rfl (by assumption) (rfl) (by omega) (by decide) ?_
    rw [a0]
    refine rk_icmp_ge rfl rfl (fun hc26 => ?_) (fun hc26 => ?_)
    · replace hc26 := (nI_leI (by omega) (by omega)).mp hc26
      have hb2 : b = N 0 := by omega
      subst hb2
      exact z
    · replace hc26 := mt (nI_leI (by omega) (by omega)).mpr hc26
      refine rk_iload rfl rfl ?_
      refine rk_if_ne rfl rfl (fun hc28 => ?_) (fun hc28 => ?_)
      · replace hc28 := Decidable.not_not.mp (mt bI_0.mpr hc28)
        have ht : any (dpb N S x k now a) (b + 1) = true := by
          obtain ⟨i, hi, y⟩ := (any_iff _).mp hc28
          exact (any_iff _).mpr ⟨i, by omega, y⟩
        refine rk_iconst (v := nI 1) rfl (by decide) ?_
        refine rk_goto rfl rfl ?_
        refine rk_istore rfl (Nat.le_of_ble_eq_true rfl) rfl ?_
        refine rk_iinc rfl rfl (n_inc _) rfl ?_
        refine rk_goto rfl rfl ?_
        first
          | (have zz := ih (b + 1) (by omega) (by omega)
             rw [bI_t ht, ← nI_one] at zz
             exact zz)
          | (have zz := ih (b + 1) (by omega) (by omega)
             rw [bI_f hfa, ← nI_0] at zz
             exact zz)
      · replace hc28 := Decidable.not_not.mp hc28
        replace hc28 := (bI_0).mp hc28
        refine rk_iload rfl rfl ?_
        refine rk_iload rfl rfl ?_
        refine rk_icmp_eq rfl rfl (fun hc31 => ?_) (fun hc31 => ?_)
        · replace hc31 := (nI_eq (by omega) (by omega)).mp hc31
          have hfa : ¬ any (dpb N S x k now a) (b + 1) = true := fun y => by
            obtain ⟨i, hi, y2⟩ := (any_iff _).mp y
            by_cases q : i = b
            · subst q
              obtain ⟨⟨w1, w2⟩, w3, w4⟩ := dpb_iff.mp y2
              exact w3 hc31.symm
            · exact hc28 ((any_iff _).mpr ⟨i, by omega, y2⟩)
          refine rk_iconst (v := nI 0) rfl (by decide) ?_
          refine rk_istore rfl (Nat.le_of_ble_eq_true rfl) rfl ?_
          refine rk_iinc rfl rfl (n_inc _) rfl ?_
          refine rk_goto rfl rfl ?_
          first
            | (have zz := ih (b + 1) (by omega) (by omega)
               rw [bI_t ht, ← nI_one] at zz
               exact zz)
            | (have zz := ih (b + 1) (by omega) (by omega)
               rw [bI_f hfa, ← nI_0] at zz
               exact zz)
        · replace hc31 := mt (nI_eq (by omega) (by omega)).mpr hc31
          refine rk_iload_n rfl rfl ?_
          refine rk_iload rfl rfl ?_
          refine rk_ishr rfl (b_shr (by omega) (by omega)) ?_
          refine rk_iconst (v := nI 1) rfl (by decide) ?_
          refine rk_iand rfl (b_and1U _) ?_
          refine rk_iconst (v := nI 1) rfl (by decide) ?_
          refine rk_icmp_ne rfl rfl (fun hc38 => ?_) (fun hc38 => ?_)
          · replace hc38 := mt (nI_eq (by omega) (by omega)).mpr hc38
            have hfa : ¬ any (dpb N S x k now a) (b + 1) = true := fun y => by
              obtain ⟨i, hi, y2⟩ := (any_iff _).mp y
              by_cases q : i = b
              · subst q
                obtain ⟨⟨w1, w2⟩, w3, w4⟩ := dpb_iff.mp y2
                exact hc38 w1
              · exact hc28 ((any_iff _).mpr ⟨i, by omega, y2⟩)
            refine rk_iconst (v := nI 0) rfl (by decide) ?_
            refine rk_istore rfl (Nat.le_of_ble_eq_true rfl) rfl ?_
            refine rk_iinc rfl rfl (n_inc _) rfl ?_
            refine rk_goto rfl rfl ?_
            first
              | (have zz := ih (b + 1) (by omega) (by omega)
                 rw [bI_t ht, ← nI_one] at zz
                 exact zz)
              | (have zz := ih (b + 1) (by omega) (by omega)
                 rw [bI_f hfa, ← nI_0] at zz
                 exact zz)
          · replace hc38 := Decidable.not_not.mp hc38
            replace hc38 := (nI_eq (by omega) (by omega)).mp hc38
            refine rk_aload_n rfl rfl ?_
            refine rk_get rfl (by assumption) rfl ?_
            refine rk_iload rfl rfl ?_
            refine rk_iald rfl (by assumption) (rfl) (by omega) (by decide) ?_
            rw [hfa'.2.1]
            refine rk_aload_n rfl rfl ?_
            refine rk_get rfl (by assumption) rfl ?_
            refine rk_iload rfl rfl ?_
            refine rk_iald rfl (by assumption) (rfl) (by omega) (by decide) ?_
            rw [(hfb (by omega)).2.1]
            have hs1 := hfa'.2.2
            have hs2 := (hfb (by omega)).2.2
            refine rk_icmp_ne rfl rfl (fun hc47 => ?_) (fun hc47 => ?_)
            · replace hc47 := mt (nI_eq (by omega) (by omega)).mpr hc47
              have hfa : ¬ any (dpb N S x k now a) (b + 1) = true := fun y => by
                obtain ⟨i, hi, y2⟩ := (any_iff _).mp y
                by_cases q : i = b
                · subst q
                  obtain ⟨⟨w1, w2⟩, w3, w4⟩ := dpb_iff.mp y2
                  exact hc47 ((hsn a i ha (by omega)).mpr w2)
                · exact hc28 ((any_iff _).mpr ⟨i, by omega, y2⟩)
              refine rk_iconst (v := nI 0) rfl (by decide) ?_
              refine rk_istore rfl (Nat.le_of_ble_eq_true rfl) rfl ?_
              refine rk_iinc rfl rfl (n_inc _) rfl ?_
              refine rk_goto rfl rfl ?_
              first
                | (have zz := ih (b + 1) (by omega) (by omega)
                   rw [bI_t ht, ← nI_one] at zz
                   exact zz)
                | (have zz := ih (b + 1) (by omega) (by omega)
                   rw [bI_f hfa, ← nI_0] at zz
                   exact zz)
            · replace hc47 := Decidable.not_not.mp hc47
              replace hc47 := (nI_eq (by omega) (by omega)).mp hc47
              refine rk_iload_n rfl rfl ?_
              refine rk_if_eq rfl rfl (fun hc49 => ?_) (fun hc49 => ?_)
              · replace hc49 := (bI_0).mp hc49
                have ht : any (dpb N S x k now a) (b + 1) = true := (any_iff _).mpr ⟨b, by omega, dpb_iff.mpr ⟨⟨hc38, (hsn a b ha (by omega)).mp hc47⟩, fun y => hc31 y.symm, fun y => hc49 y.1⟩⟩
                refine rk_iconst (v := nI 1) rfl (by decide) ?_
                refine rk_goto rfl rfl ?_
                refine rk_istore rfl (Nat.le_of_ble_eq_true rfl) rfl ?_
                refine rk_iinc rfl rfl (n_inc _) rfl ?_
                refine rk_goto rfl rfl ?_
                first
                  | (have zz := ih (b + 1) (by omega) (by omega)
                     rw [bI_t ht, ← nI_one] at zz
                     exact zz)
                  | (have zz := ih (b + 1) (by omega) (by omega)
                     rw [bI_f hfa, ← nI_0] at zz
                     exact zz)
              · replace hc49 := Decidable.not_not.mp (mt bI_0.mpr hc49)
                refine rk_aload_n rfl rfl ?_
                refine rk_get rfl (by assumption) rfl ?_
                refine rk_iload rfl rfl ?_
                refine rk_iald rfl (by assumption) (rfl) (by omega) (by decide) ?_
                rw [hfa'.1]
                refine rk_aload_n rfl rfl ?_
                refine rk_get rfl (by assumption) rfl ?_
                refine rk_iload rfl rfl ?_
                refine rk_iald rfl (by assumption) (rfl) (by omega) (by decide) ?_
                rw [(hfb (by omega)).1]
                replace hbb := hbb (by omega)
                refine rk_icmp_eq rfl rfl (fun hc58 => ?_) (fun hc58 => ?_)
                · replace hc58 := (nI_eq (by omega) (by omega)).mp hc58
                  have hfa : ¬ any (dpb N S x k now a) (b + 1) = true := fun y => by
                    obtain ⟨i, hi, y2⟩ := (any_iff _).mp y
                    by_cases q : i = b
                    · subst q
                      obtain ⟨⟨w1, w2⟩, w3, w4⟩ := dpb_iff.mp y2
                      exact w4 ⟨hc49, hc58.symm⟩
                    · exact hc28 ((any_iff _).mpr ⟨i, by omega, y2⟩)
                  refine rk_iconst (v := nI 0) rfl (by decide) ?_
                  refine rk_istore rfl (Nat.le_of_ble_eq_true rfl) rfl ?_
                  refine rk_iinc rfl rfl (n_inc _) rfl ?_
                  refine rk_goto rfl rfl ?_
                  first
                    | (have zz := ih (b + 1) (by omega) (by omega)
                       rw [bI_t ht, ← nI_one] at zz
                       exact zz)
                    | (have zz := ih (b + 1) (by omega) (by omega)
                       rw [bI_f hfa, ← nI_0] at zz
                       exact zz)
                · replace hc58 := mt (nI_eq (by omega) (by omega)).mpr hc58
                  have ht : any (dpb N S x k now a) (b + 1) = true := (any_iff _).mpr ⟨b, by omega, dpb_iff.mpr ⟨⟨hc38, (hsn a b ha (by omega)).mp hc47⟩, fun y => hc31 y.symm, fun y => hc58 y.2.symm⟩⟩
                  refine rk_iconst (v := nI 1) rfl (by decide) ?_
                  refine rk_goto rfl rfl ?_
                  refine rk_istore rfl (Nat.le_of_ble_eq_true rfl) rfl ?_
                  refine rk_iinc rfl rfl (n_inc _) rfl ?_
                  refine rk_goto rfl rfl ?_
                  first
                    | (have zz := ih (b + 1) (by omega) (by omega)
                       rw [bI_t ht, ← nI_one] at zz
                       exact zz)
                    | (have zz := ih (b + 1) (by omega) (by omega)
                       rw [bI_f hfa, ← nI_0] at zz
                       exact zz)
theorem l256 {X : ai_X} {h : ai_H} {v A : Nat → Int32} {N : Nat → Nat} (c0 : h[52]? = some (cMdl v)) (c1 : h[53]? = some (cI 2346 A)) (hN : HN N) (M : MH A N) {x : Nat → Nat} {S k : Nat} {now : Bool} {f67 f68 : Nat → Int32} {sn : Nat → Nat} (c67 : h[67]? = some (cI 14 f67)) (c68 : h[68]? = some (cI 14 f68)) (hf : ∀ r, r < N 0 → f67 r = nI (bh N x r k) ∧ f68 r = nI (sn r) ∧ sn r < 14) (hsn : ∀ a b, a < N 0 → b < N 0 → (sn a = sn b ↔ sab N x a b k = true)) (hS : S < 2 ^ N 0) (hx : ∀ i, i < k → x i < N 1) : ∀ (d : Nat) (a : Nat) (c5 c6 : Option Value), N 0 < a + d → (a ≤ N 0) → Rk X am_256 4 [some (.ref 52), some (.int (nI S)), some (.int (bI (now = true))), some (.int (nI (dcn (dbt N S x k now) a))), some (.int (nI a)), c5, c6] [] h (Qe (nI (dbs N S x k now)) h) := by
  intro d
  induction d with
  | zero => intro a c5 c6 hd ha; exfalso; omega
  | succ d ih =>
    intro a c5 c6 hd ha
    obtain ⟨a0, a1, a268, a269, a270, a271, apl, apc, aot, asg, awt⟩ := id M
    have hn := hN.n
    have hp14 := hN.p14
    have hdl := dcn_le (dbt N S x k now) a
    refine rk_iload rfl rfl ?_
    refine rk_aload_n rfl rfl ?_
    refine rk_get rfl (by assumption) rfl ?_
    refine rk_iconst (v := nI 0) rfl (by decide) ?_
    refine rk_iald rfl (by assumption) (rfl) (by omega) (by decide) ?_
    rw [a0]
    refine rk_icmp_ge rfl rfl (fun hc9 => ?_) (fun hc9 => ?_)
    · replace hc9 := (nI_leI (by omega) (by omega)).mp hc9
      refine rk_iload_n rfl rfl ?_
      exact rk_ireturn rfl rfl (Qe_of (by rw [show a = N 0 by omega]))
    · replace hc9 := mt (nI_leI (by omega) (by omega)).mpr hc9
      refine rk_iload_n rfl rfl ?_
      refine rk_iload rfl rfl ?_
      refine rk_ishr rfl (b_shr (by omega) (by omega)) ?_
      refine rk_iconst (v := nI 1) rfl (by decide) ?_
      refine rk_iand rfl (b_and1U _) ?_
      refine rk_if_ne rfl rfl (fun hc15 => ?_) (fun hc15 => ?_)
      · replace hc15 := mt (n0_eq (by omega)).mpr hc15
        refine rk_iconst (v := nI 0) rfl (by decide) ?_
        refine rk_istore rfl (Nat.le_of_ble_eq_true rfl) rfl ?_
        rw [show nI 0 = bI (any (dpb N S x k now a) 0 = true) by rw [bI_f (by simp [any])]; exact nI_0]
        refine rk_iconst (v := nI 0) rfl (by decide) ?_
        refine rk_istore rfl (Nat.le_of_ble_eq_true rfl) rfl ?_
        refine l256b c0 c1 hN M c67 c68 hf hsn hS hx (a := a) (by omega) ?_ (N 0 + 1) 0 (by omega) (Nat.zero_le _)
        have hda := dbt_t (N := N) (x := x) (S := S) (k := k) (r := a) (now := now) (by omega)
        rw [← hda]
        refine rk_iload_n rfl rfl ?_
        refine rk_iload rfl rfl ?_
        refine rk_if_eq rfl rfl (fun hc => ?_) (fun hc => ?_)
        · replace hc := bI_0.mp hc
          have zz := ih (a + 1) (some (.int (bI (dbt N S x k now a = true)))) (some (.int (nI (N 0)))) (by omega) (by omega)
          rw [dcn, if_neg hc] at zz
          refine rk_iconst (v := nI 0) rfl (by decide) ?_
          refine rk_iadd rfl (nI_add _ _) ?_
          refine rk_istore_n rfl (Nat.le_of_ble_eq_true rfl) rfl ?_
          refine rk_iinc rfl rfl (n_inc _) rfl ?_
          refine rk_goto rfl rfl ?_
          exact zz
        · replace hc := Decidable.not_not.mp (mt bI_0.mpr hc)
          have zz := ih (a + 1) (some (.int (bI (dbt N S x k now a = true)))) (some (.int (nI (N 0)))) (by omega) (by omega)
          rw [dcn, if_pos hc] at zz
          refine rk_iconst (v := nI 1) rfl (by decide) ?_
          refine rk_goto rfl rfl ?_
          refine rk_iadd rfl (nI_add _ _) ?_
          refine rk_istore_n rfl (Nat.le_of_ble_eq_true rfl) rfl ?_
          refine rk_iinc rfl rfl (n_inc _) rfl ?_
          refine rk_goto rfl rfl ?_
          exact zz
      · replace hc15 := Decidable.not_not.mp hc15
        replace hc15 := (n0_eq (by omega)).mp hc15
        refine rk_goto rfl rfl ?_
        refine rk_iinc rfl rfl (n_inc _) rfl ?_
        refine rk_goto rfl rfl ?_
        have hd0 : ¬ dbt N S x k now a = true := dbt_f (by omega)
        have zz := ih (a + 1) c5 c6 (by omega) (by omega)
        rw [dcn, if_neg hd0, Nat.add_zero] at zz
        exact zz
theorem s256 {X : ai_X} {h : ai_H} {v A : Nat → Int32} {N : Nat → Nat} (c0 : h[52]? = some (cMdl v)) (c1 : h[53]? = some (cI 2346 A)) (hN : HN N) (M : MH A N) {x : Nat → Nat} {S k : Nat} {now : Bool} (H : MSt h N x k) (hS : S < 2 ^ N 0) (hx : ∀ i, i < k → x i < N 1) : Mt X am_256 [.ref 52, .int (nI S), .int (bI (now = true))] h (Qe (nI (dbs N S x k now)) h) := by
  obtain ⟨f67, f68, sn, c67, c68, hf, hsn⟩ := H
  refine rk_iconst (v := nI 0) rfl (by decide) ?_
  refine rk_istore_n rfl (Nat.le_of_ble_eq_true rfl) rfl ?_
  refine rk_iconst (v := nI 0) rfl (by decide) ?_
  refine rk_istore rfl (Nat.le_of_ble_eq_true rfl) rfl ?_
  exact l256 c0 c1 hN M c67 c68 hf hsn hS hx (N 0 + 1) 0 _ _ (by omega) (Nat.zero_le _)
theorem m257_x {X : ai_X} {h : ai_H} {v A : Nat → Int32} {N : Nat → Nat} (c0 : h[52]? = some (cMdl v)) (c1 : h[53]? = some (cI 2346 A)) (hN : HN N) (M : MH A N) {a b c : Int32} (ha : ¬ (¬ a < 0 ∧ ¬ nI 4 ≤ a)) : Rk X am_257 3 (ai_loc (ai_mL am_257) [.ref 52, .int a, .int b, .int c]) [] h (Qe (-2) h) := by
  obtain ⟨a0, a1, a268, a269, a270, a271, apl, apc, aot, asg, awt⟩ := id M
  refine rk_iload_n rfl rfl ?_
  refine rk_i2l rfl rfl ?_
  refine rk_lconst (v := 0) rfl (by decide) ?_
  rw [show (0 : Int64) = (0 : Int32).toInt64 by decide]
  refine rk_ldc2 rfl ?_
  rw [show (3 : Int64) = (nI 3).toInt64 by decide]
  refine rk_cs3e rfl rfl rfl (Nat.le_of_ble_eq_true rfl) (Nat.le_of_ble_eq_true rfl) (s181 _ _ _) ?_
  refine rk_if_ne rfl rfl (fun hc8 => ?_) (fun hc8 => ?_)
  · replace hc8 := Decidable.not_not.mp (mt bI_0.mpr hc8)
    exact absurd (in34.mp hc8) ha
  · replace hc8 := Decidable.not_not.mp hc8
    replace hc8 := (bI_0).mp hc8
    refine rk_bipush (v := (-2)) rfl (by decide) ?_
    exact rk_ireturn rfl rfl (Qe_of (by first | rfl | rw [if_neg (by assumption)] | rw [if_pos rfl]))
theorem m257_o {X : ai_X} {h : ai_H} {v A : Nat → Int32} {N : Nat → Nat} (c0 : h[52]? = some (cMdl v)) (c1 : h[53]? = some (cI 2346 A)) (hN : HN N) (M : MH A N) {i L : Nat} {code : Int32} {x : Nat → Nat} (hi : i < 4) (R : MRow h i (N 1) code L x) {b c : Int32} (hb : ¬ IsSet N b) : Rk X am_257 3 (ai_loc (ai_mL am_257) [.ref 52, .int (nI i), .int b, .int c]) [] h (Qe (if code = 0 then -3 else code) h) := by
  obtain ⟨a0, a1, a268, a269, a270, a271, apl, apc, aot, asg, awt⟩ := id M
  refine rk_iload_n rfl rfl ?_
  refine rk_i2l rfl rfl ?_
  refine rk_lconst (v := 0) rfl (by decide) ?_
  rw [show (0 : Int64) = (0 : Int32).toInt64 by decide]
  refine rk_ldc2 rfl ?_
  rw [show (3 : Int64) = (nI 3).toInt64 by decide]
  refine rk_cs3e rfl rfl rfl (Nat.le_of_ble_eq_true rfl) (Nat.le_of_ble_eq_true rfl) (s181 _ _ _) ?_
  refine rk_if_ne rfl rfl (fun hc8 => ?_) (fun hc8 => ?_)
  · replace hc8 := Decidable.not_not.mp (mt bI_0.mpr hc8)
    refine rk_aload_n rfl rfl ?_
    refine rk_iload_n rfl rfl ?_
    refine rk_cv1e rfl rfl (by assumption) rfl rfl (Nat.le_of_ble_eq_true rfl) (Nat.le_of_ble_eq_true rfl) (s221 c0 c1 a1 hN.t hi R) ?_
    refine rk_istore rfl (Nat.le_of_ble_eq_true rfl) rfl ?_
    refine rk_iload rfl rfl ?_
    refine rk_if_eq rfl rfl (fun hc16 => ?_) (fun hc16 => ?_)
    · subst hc16
      obtain ⟨rm, nu, c3, c4, hm, hL, hx⟩ := R.good
      refine rk_aload_n rfl rfl ?_
      refine rk_iload_n rfl rfl ?_
      refine rk_cv1e rfl rfl (by assumption) rfl rfl (Nat.le_of_ble_eq_true rfl) (Nat.le_of_ble_eq_true rfl) (s208N c0 c1 hN M _) ?_
      refine rk_if_ne rfl rfl (fun hc22 => ?_) (fun hc22 => ?_)
      · replace hc22 := Decidable.not_not.mp (mt bI_0.mpr hc22)
        exact absurd hc22 hb
      · replace hc22 := Decidable.not_not.mp hc22
        replace hc22 := (bI_0).mp hc22
        refine rk_bipush (v := (-3)) rfl (by decide) ?_
        exact rk_ireturn rfl rfl (Qe_of (by first | rfl | rw [if_neg (by assumption)] | rw [if_pos rfl]))
    · refine rk_iload rfl rfl ?_
      exact rk_ireturn rfl rfl (Qe_of (by first | rfl | rw [if_neg (by assumption)] | rw [if_pos rfl]))
  · replace hc8 := Decidable.not_not.mp hc8
    replace hc8 := (bI_0).mp hc8
    exact absurd (in3_mk hi) hc8
theorem l257 {X : ai_X} {h : ai_H} {v A : Nat → Int32} {N : Nat → Nat} (c0 : h[52]? = some (cMdl v)) (c1 : h[53]? = some (cI 2346 A)) (hN : HN N) (M : MH A N) {x : Nat → Nat} {S L i : Nat} {now : Bool} {rm : Nat → Int32} {nu : Nat → Int64} (c3 : h[78]? = some (cI 4 rm)) (c4 : h[79]? = some (cJ 160 nu)) (hi : i < 4) (hm : rm i = nI L) (hL : L ≤ 40) (hx : ∀ k, k < L → x k < N 1 ∧ nu (40 * i + k) = (nI (x k)).toInt64) (hS : S < 2 ^ N 0) {y4 : Int32} : ∀ (d : Nat) (k : Nat) (g : ai_H), L < k + d → (k ≤ L) → (Fr 67 70 h g) → (MSt g N x k) → (ShI g 69 14) → Rk X am_257 29 [some (.ref 52), some (.int (nI i)), some (.int (nI S)), some (.int (bI (now = true))), some (.int y4), some (.int (nI k))] [] g (Qi (fun w h1 => w = nI (dbs N S x L now) ∧ Fr 67 70 h h1)) := by
  intro d
  induction d with
  | zero => intro k g hd hk F H S69; exfalso; omega
  | succ d ih =>
    intro k g hd hk F H S69
    obtain ⟨a0, a1, a268, a269, a270, a271, apl, apc, aot, asg, awt⟩ := id M
    have hn := hN.n
    have e52 := (F.2 52 (by omega)).trans c0
    have e53 := (F.2 53 (by omega)).trans c1
    have e78 := (F.2 78 (by omega)).trans c3
    have e79 := (F.2 79 (by omega)).trans c4
    refine rk_iload rfl rfl ?_
    refine rk_aload_n rfl rfl ?_
    refine rk_get rfl (by assumption) rfl ?_
    refine rk_iload_n rfl rfl ?_
    refine rk_iald rfl (by assumption) (rfl) (by omega) (by decide) ?_
    rw [hm]
    refine rk_icmp_ge rfl rfl (fun hc34 => ?_) (fun hc34 => ?_)
    · replace hc34 := (nI_leI (by omega) (by omega)).mp hc34
      refine rk_aload_n rfl rfl ?_
      refine rk_iload_n rfl rfl ?_
      refine rk_iload_n rfl rfl ?_
      refine rk_cv2e rfl rfl (by assumption) rfl rfl (Nat.le_of_ble_eq_true rfl) (Nat.le_of_ble_eq_true rfl) (s256 e52 e53 hN M H hS (fun j hj => (hx j (by omega)).1)) ?_
      exact rk_ireturn rfl rfl ⟨_, _, rfl, by rw [show k = L by omega], F⟩
    · replace hc34 := mt (nI_leI (by omega) (by omega)).mpr hc34
      refine rk_aload_n rfl rfl ?_
      refine rk_aload_n rfl rfl ?_
      refine rk_iload_n rfl rfl ?_
      refine rk_iload rfl rfl ?_
      refine rk_cv2e rfl rfl (by assumption) rfl rfl (Nat.le_of_ble_eq_true rfl) (Nat.le_of_ble_eq_true rfl) (s222 e52 e79 hi (by omega) (hx k (by omega)).2) ?_
      refine rk_cv1v rfl rfl (by assumption) rfl rfl (Nat.le_of_ble_eq_true rfl) (Nat.le_of_ble_eq_true rfl) ((s255 e52 e53 hN M (fun j hj => (hx j (by omega)).1) H S69).skv) (fun h1 hF => ?_)
      obtain ⟨⟨F1, H1⟩, k1⟩ := hF
      refine rk_iinc rfl rfl (n_inc _) rfl ?_
      refine rk_goto rfl rfl ?_
      exact ih (k + 1) _ (by omega) (by omega) (F.tr F1) H1 (S69.sk k1)
theorem m257_v {X : ai_X} {h : ai_H} {v A : Nat → Int32} {N : Nat → Nat} (c0 : h[52]? = some (cMdl v)) (c1 : h[53]? = some (cI 2346 A)) (hN : HN N) (M : MH A N) {i L : Nat} {code : Int32} {x : Nat → Nat} (hi : i < 4) (R : MRow h i (N 1) code L x) {s : Nat} {now : Bool} (h0 : 0 < s) (hs : s < 2 ^ N 0) (S67 : ShI h 67 14) (S68 : ShI h 68 14) (S69 : ShI h 69 14) : Rk X am_257 3 (ai_loc (ai_mL am_257) [.ref 52, .int (nI i), .int (nI s), .int (bI (now = true))]) [] h (Qi (fun w h1 => (w = if code = 0 then nI (dbs N s x L now) else code) ∧ SM h h1)) := by
  obtain ⟨a0, a1, a268, a269, a270, a271, apl, apc, aot, asg, awt⟩ := id M
  refine rk_iload_n rfl rfl ?_
  refine rk_i2l rfl rfl ?_
  refine rk_lconst (v := 0) rfl (by decide) ?_
  rw [show (0 : Int64) = (0 : Int32).toInt64 by decide]
  refine rk_ldc2 rfl ?_
  rw [show (3 : Int64) = (nI 3).toInt64 by decide]
  refine rk_cs3e rfl rfl rfl (Nat.le_of_ble_eq_true rfl) (Nat.le_of_ble_eq_true rfl) (s181 _ _ _) ?_
  refine rk_if_ne rfl rfl (fun hc8 => ?_) (fun hc8 => ?_)
  · replace hc8 := Decidable.not_not.mp (mt bI_0.mpr hc8)
    refine rk_aload_n rfl rfl ?_
    refine rk_iload_n rfl rfl ?_
    refine rk_cv1e rfl rfl (by assumption) rfl rfl (Nat.le_of_ble_eq_true rfl) (Nat.le_of_ble_eq_true rfl) (s221 c0 c1 a1 hN.t hi R) ?_
    refine rk_istore rfl (Nat.le_of_ble_eq_true rfl) rfl ?_
    refine rk_iload rfl rfl ?_
    refine rk_if_eq rfl rfl (fun hc16 => ?_) (fun hc16 => ?_)
    · subst hc16
      obtain ⟨rm, nu, c3, c4, hm, hL, hx⟩ := R.good
      refine rk_aload_n rfl rfl ?_
      refine rk_iload_n rfl rfl ?_
      refine rk_cv1e rfl rfl (by assumption) rfl rfl (Nat.le_of_ble_eq_true rfl) (Nat.le_of_ble_eq_true rfl) (s208N c0 c1 hN M _) ?_
      refine rk_if_ne rfl rfl (fun hc22 => ?_) (fun hc22 => ?_)
      · replace hc22 := Decidable.not_not.mp (mt bI_0.mpr hc22)
        refine rk_aload_n rfl rfl ?_
        refine rk_cv0v rfl rfl (by assumption) rfl rfl (Nat.le_of_ble_eq_true rfl) (Nat.le_of_ble_eq_true rfl) ((s253 (x := x) c0 c1 hN M S67 S68 S69).skv) (fun h1 hF => ?_)
        obtain ⟨⟨F1, H1⟩, k1⟩ := hF
        refine rk_iconst (v := nI 0) rfl (by decide) ?_
        refine rk_istore rfl (Nat.le_of_ble_eq_true rfl) rfl ?_
        rw [if_pos rfl]
        refine (l257 c0 c1 hN M c3 c4 hi hm hL hx hs (L + 1) 0 _ (by omega) (Nat.zero_le _) F1 H1 (S69.sk k1)).mono ?_
        rintro o ⟨w, h3, rfl, rfl, F3⟩
        exact ⟨_, _, rfl, rfl, SM.fr c0 F3 (Or.inl ⟨by omega, by omega⟩)⟩
      · replace hc22 := Decidable.not_not.mp hc22
        replace hc22 := (bI_0).mp hc22
        exact absurd (isSet_mk hN h0 hs) hc22
    · refine rk_iload rfl rfl ?_
      exact rk_ireturn rfl rfl ⟨_, _, rfl, by rw [if_neg (by assumption)], SM.rf c0⟩
  · replace hc8 := Decidable.not_not.mp hc8
    replace hc8 := (bI_0).mp hc8
    exact absurd (in3_mk hi) hc8
theorem Inv.s679 {m c s : Nat} {h : ai_H} (I : Inv m c s h) : ShI h 67 14 ∧ ShI h 68 14 ∧ ShI h 69 14 := by
  obtain ⟨tp, T, A, im, rs, rm, nu, fk, fp, b, hA, hB, hR, hI, hS, hO, ⟨-, a1, a2, a3, a4, a5, a6, s1, s2, s3, s4, s5, s6, s7, s8, s9, s10, s11, s12, s13, s14, s15, s16, s17, s18, s19, s20⟩, -⟩ := I
  exact ⟨s11, s12, s13⟩
theorem ob24 (X : ai_X) : O24 X Inv := by
  intro a b c
  refine ob_scr fun m c' s h I => ?_
  obtain ⟨S67, S68, S69⟩ := I.s679
  obtain ⟨tp, v, A, N, ro, d0, d52, d53, hN, C, M, d19, hro, Q, RR, O⟩ := I.dat
  have hbc : bI (¬ c = 0) = bI (decide (¬ c = 0) = true) := bI_congr decide_eq_true_iff.symm
  rw [hbc]
  by_cases ha : ¬ a < 0 ∧ ¬ nI 4 ≤ a
  · obtain ⟨i, hi, rfl⟩ := in_of (by omega) ha
    obtain ⟨code, L, x, RC, RM⟩ := RR i hi
    by_cases hb : IsSet N b
    · obtain ⟨s, h0, hs, rfl⟩ := isSet_of hN hb
      exact ⟨_, c155_v d0 hN C d19 hro Q O hi RC h0 hs, fun h1 S => md_sc2 rfl rfl rfl rfl ((S.m (by omega)).trans d52) (fun h2 g2 hk => m257_v g2 ((S.m2 hk (by omega) (by omega)).trans d53) hN M hi (RM.m2 S hk) h0 hs (S67.fr (S.m2 hk (by omega) (by omega))) (S68.fr (S.m2 hk (by omega) (by omega))) (S69.fr (S.m2 hk (by omega) (by omega))))⟩
    · exact ⟨_, c155_o d0 hN C d19 hro Q O hi RC hb, fun h1 S => md_sc2 rfl rfl rfl rfl ((S.m (by omega)).trans d52) (fun h2 g2 hk => md_pu g2 (m257_o g2 ((S.m2 hk (by omega) (by omega)).trans d53) hN M hi (RM.m2 S hk) hb))⟩
  · exact ⟨_, c155_x d0 hN C d19 hro Q O ha, fun h1 S => md_sc2 rfl rfl rfl rfl ((S.m (by omega)).trans d52) (fun h2 g2 hk => md_pu g2 (m257_x g2 ((S.m2 hk (by omega) (by omega)).trans d53) hN M ha))⟩
