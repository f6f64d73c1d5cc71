/-! AN IMAGE -/
theorem s20 {X : ai_X} {h : ai_H} {p : Nat} (c0 : h[p]? = some (.inr (2, ad_2))) (hp : p + 1 = h.length) : Mt X am_20 [.ref p] h (Qn 5 274 (Qv (fun h1 => h1.length = p + 6 ∧ (∀ q : Nat, q < p → h1[q]? = h[q]?) ∧ HouseAt h1 p (fun _ => 0) (fun _ _ => 0)))) := by
  have K0 : ∀ q : Nat, q < p → h[q]? = h[q]? := fun _ _ => rfl
  refine rk_aload_n rfl rfl ?_
  refine rk_obj rfl (Nat.le_of_ble_eq_true rfl) ?_
  refine rk_aload_n rfl rfl ?_
  refine rk_bipush (v := nI 84) rfl (by decide) ?_
  refine rk_newa (N := 84) rfl rfl rfl rfl (by omega) ?_
  refine hp_app (fun h1 l1 k1 g1 => ?_)
  have e1 : h.length = p + 1 := by omega
  rw [e1] at g1 ⊢
  replace c0 := (k1 p (by omega)).trans c0
  refine rk_put rfl c0 (Nat.le_of_ble_eq_true rfl) ft_2_7 rfl (Or.inr ⟨rfl, rfl⟩) rfl ?_
  refine hp_gen c0 (fun h2 g2 k2 l2 => ?_)
  replace c0 := g2
  have a1 := (k2 _ (by omega)).trans g1
  replace K0 : ∀ q : Nat, q < p → h2[q]? = h[q]? := fun q hq => (k2 q (by omega)).trans ((k1 q (by omega)).trans (K0 q hq))
  refine rk_aload_n rfl rfl ?_
  refine rk_bipush (v := nI 84) rfl (by decide) ?_
  refine rk_newa (N := 84) rfl rfl rfl rfl (by omega) ?_
  refine hp_app (fun h3 l3 k3 g3 => ?_)
  have e3 : h2.length = p + 2 := by omega
  rw [e3] at g3 ⊢
  replace c0 := (k3 p (by omega)).trans c0
  replace a1 := (k3 _ (by omega)).trans a1
  refine rk_put rfl c0 (Nat.le_of_ble_eq_true rfl) ft_2_8 rfl (Or.inr ⟨rfl, rfl⟩) rfl ?_
  refine hp_gen c0 (fun h4 g4 k4 l4 => ?_)
  replace c0 := g4
  have a2 := (k4 _ (by omega)).trans g3
  replace a1 := (k4 _ (by omega)).trans a1
  replace K0 : ∀ q : Nat, q < p → h4[q]? = h[q]? := fun q hq => (k4 q (by omega)).trans ((k3 q (by omega)).trans (K0 q hq))
  refine rk_aload_n rfl rfl ?_
  refine rk_bipush (v := nI 84) rfl (by decide) ?_
  refine rk_newa (N := 84) rfl rfl rfl rfl (by omega) ?_
  refine hp_app (fun h5 l5 k5 g5 => ?_)
  have e5 : h4.length = p + 3 := by omega
  rw [e5] at g5 ⊢
  replace c0 := (k5 p (by omega)).trans c0
  replace a1 := (k5 _ (by omega)).trans a1
  replace a2 := (k5 _ (by omega)).trans a2
  refine rk_put rfl c0 (Nat.le_of_ble_eq_true rfl) ft_2_9 rfl (Or.inr ⟨rfl, rfl⟩) rfl ?_
  refine hp_gen c0 (fun h6 g6 k6 l6 => ?_)
  replace c0 := g6
  have a3 := (k6 _ (by omega)).trans g5
  replace a1 := (k6 _ (by omega)).trans a1
  replace a2 := (k6 _ (by omega)).trans a2
  replace K0 : ∀ q : Nat, q < p → h6[q]? = h[q]? := fun q hq => (k6 q (by omega)).trans ((k5 q (by omega)).trans (K0 q hq))
  refine rk_aload_n rfl rfl ?_
  refine rk_bipush (v := nI 14) rfl (by decide) ?_
  refine rk_newa (N := 14) rfl rfl rfl rfl (by omega) ?_
  refine hp_app (fun h7 l7 k7 g7 => ?_)
  have e7 : h6.length = p + 4 := by omega
  rw [e7] at g7 ⊢
  replace c0 := (k7 p (by omega)).trans c0
  replace a1 := (k7 _ (by omega)).trans a1
  replace a2 := (k7 _ (by omega)).trans a2
  replace a3 := (k7 _ (by omega)).trans a3
  refine rk_put rfl c0 (Nat.le_of_ble_eq_true rfl) ft_2_10 rfl (Or.inr ⟨rfl, rfl⟩) rfl ?_
  refine hp_gen c0 (fun h8 g8 k8 l8 => ?_)
  replace c0 := g8
  have a4 := (k8 _ (by omega)).trans g7
  replace a1 := (k8 _ (by omega)).trans a1
  replace a2 := (k8 _ (by omega)).trans a2
  replace a3 := (k8 _ (by omega)).trans a3
  replace K0 : ∀ q : Nat, q < p → h8[q]? = h[q]? := fun q hq => (k8 q (by omega)).trans ((k7 q (by omega)).trans (K0 q hq))
  refine rk_aload_n rfl rfl ?_
  refine rk_bipush (v := nI 8) rfl (by decide) ?_
  refine rk_newa (N := 8) rfl rfl rfl rfl (by omega) ?_
  refine hp_app (fun h9 l9 k9 g9 => ?_)
  have e9 : h8.length = p + 5 := by omega
  rw [e9] at g9 ⊢
  replace c0 := (k9 p (by omega)).trans c0
  replace a1 := (k9 _ (by omega)).trans a1
  replace a2 := (k9 _ (by omega)).trans a2
  replace a3 := (k9 _ (by omega)).trans a3
  replace a4 := (k9 _ (by omega)).trans a4
  refine rk_put rfl c0 (Nat.le_of_ble_eq_true rfl) ft_2_11 rfl (Or.inr ⟨rfl, rfl⟩) rfl ?_
  refine hp_gen c0 (fun h10 g10 k10 l10 => ?_)
  replace c0 := g10
  have a5 := (k10 _ (by omega)).trans g9
  replace a1 := (k10 _ (by omega)).trans a1
  replace a2 := (k10 _ (by omega)).trans a2
  replace a3 := (k10 _ (by omega)).trans a3
  replace a4 := (k10 _ (by omega)).trans a4
  replace K0 : ∀ q : Nat, q < p → h10[q]? = h[q]? := fun q hq => (k10 q (by omega)).trans ((k9 q (by omega)).trans (K0 q hq))
  exact rk_return rfl rfl ⟨(none, h10, 0, 0), ⟨h10, rfl, by omega, K0, c0, a1, a2, a3, a4, a5⟩, rfl⟩
theorem s86 {X : ai_X} {h : ai_H} {p : Nat} (c0 : h[p]? = some (.inr (6, ad_6))) (hp : p + 1 = h.length) : Mt X am_86 [.ref p] h (Qn 1 500 (Qv (fun h1 => h1.length = p + 2 ∧ (∀ q : Nat, q < p → h1[q]? = h[q]?) ∧ RouteAt h1 p (-1) (fun _ => 0)))) := by
  refine rk_aload_n rfl rfl ?_
  refine rk_obj rfl (Nat.le_of_ble_eq_true rfl) ?_
  refine rk_aload_n rfl rfl ?_
  refine rk_iconst (v := -1) rfl (by decide) ?_
  refine rk_put rfl c0 (Nat.le_of_ble_eq_true rfl) ft_6_0 rfl (Or.inl rfl) rfl ?_
  refine hp_gen c0 (fun h1 g1 k1 l1 => ?_)
  refine rk_aload_n rfl rfl ?_
  refine rk_sipush (v := nI 500) rfl (by decide) ?_
  refine rk_newa (N := 500) rfl rfl rfl rfl (by omega) ?_
  refine hp_app (fun h2 l2 k2 g2 => ?_)
  have e2 : h1.length = p + 1 := by omega
  rw [e2] at g2 ⊢
  replace g1 := (k2 p (by omega)).trans g1
  refine rk_put rfl g1 (Nat.le_of_ble_eq_true rfl) ft_6_1 rfl (Or.inr ⟨rfl, rfl⟩) rfl ?_
  refine hp_gen g1 (fun h3 g3 k3 l3 => ?_)
  exact rk_return rfl rfl ⟨(none, h3, 0, 0), ⟨h3, rfl, by omega, fun q hq => (k3 q (by omega)).trans ((k2 q (by omega)).trans (k1 q (by omega))), g3, (k3 _ (by omega)).trans g2⟩, rfl⟩
theorem c176_t {X : ai_X} {h : ai_H} {tp : Int32} {k1 k2 : Nat → Option Nat} (d0 : h[0]? = some (cOne tp)) (d20 : h[20]? = some (cR 4 2 k1)) (d21 : h[21]? = some (cR 5 2 k2)) {i p : Nat} {n t w : Nat} {A F F1 f5 f6 : Nat → Int32} {G G1 : Nat → Nat → Int32} {n5 n6 : Int32} (H3 : HouseAt h 3 F G) (hC : HC F G A 0) (hV : HV A 0 n t w) (R5 : RouteAt h 15 n5 f5) (hFC : FC n5 f5 A 0) (hFV : FV A 0 t) (HI : HouseAt h p F1 G1) (R6 : RouteAt h (p + 6) n6 f6) (hi : i < 2) (y1 : k1 i = some p) (y2 : k2 i = some (p + 6)) (hp : 80 ≤ p) : Rk X am_176 31 [some (.ref 0), some (.int (nI i))] [] h (Qi (fun w h1 => w = 0 ∧ h1.length = h.length ∧ (∀ q : Nat, ¬ (p ≤ q ∧ q < p + 8) → h1[q]? = h[q]?) ∧ (∃ F G, HouseAt h1 p F G ∧ HC F G A 0) ∧ ∃ n f, RouteAt h1 (p + 6) n f ∧ FC n f A 0)) := by
  have e3 := H3.1
  have e5 := R5.1
  have ei := HI.1
  have e6 := R6.1
  refine rk_aload_n rfl rfl ?_
  refine rk_get rfl (by assumption) rfl ?_
  refine rk_iload_n rfl rfl ?_
  refine rk_aald (w := .ref p) rfl (by assumption) (by decide) rfl (by omega) (by decide) (by rw [y1]; rfl) ?_
  refine rk_aload_n rfl rfl ?_
  refine rk_get rfl (by assumption) rfl ?_
  refine rk_cv1v rfl rfl (by assumption) rfl rfl (Nat.le_of_ble_eq_true rfl) (Nat.le_of_ble_eq_true rfl) (s22F HI H3 (by omega) hC hV) (fun h1 hF => ?_)
  obtain ⟨F2, HH⟩ := hF
  replace d0 := (F2.2 0 (by omega)).trans d0
  replace d20 := (F2.2 20 (by omega)).trans d20
  replace d21 := (F2.2 21 (by omega)).trans d21
  replace e5 := (F2.2 15 (by omega)).trans e5
  replace e6 := (F2.2 (p + 6) (by omega)).trans e6
  have R5' := R5.fr (h1 := h1) (fun q _ _ => F2.2 q (by omega))
  have R6' := R6.fr (h1 := h1) (fun q _ _ => F2.2 q (by omega))
  refine rk_aload_n rfl rfl ?_
  refine rk_get rfl (by assumption) rfl ?_
  refine rk_iload_n rfl rfl ?_
  refine rk_aald (w := .ref (p + 6)) rfl (by assumption) (by decide) rfl (by omega) (by decide) (by rw [y2]; rfl) ?_
  refine rk_aload_n rfl rfl ?_
  refine rk_get rfl (by assumption) rfl ?_
  refine rk_cv1v rfl rfl (by assumption) rfl rfl (Nat.le_of_ble_eq_true rfl) (Nat.le_of_ble_eq_true rfl) (s92F R6' (by omega) R5' hFC hFV) (fun h1 hF => ?_)
  obtain ⟨F4, RR⟩ := hF
  refine rk_iconst (v := nI 0) rfl (by decide) ?_
  exact rk_ireturn rfl rfl ⟨_, _, rfl, rfl, F4.1.trans F2.1, fun q a => (F4.2 q (by omega)).trans (F2.2 q (by omega)), (by obtain ⟨F9, G9, a, b⟩ := HH; exact ⟨F9, G9, a.fr (fun q _ _ => F4.2 q (by omega)), b⟩), RR⟩
theorem c176_x {X : ai_X} {h : ai_H} {tp : Int32} {k1 k2 : Nat → Option Nat} (d0 : h[0]? = some (cOne tp)) (d20 : h[20]? = some (cR 4 2 k1)) (d21 : h[21]? = some (cR 5 2 k2)) {a : Int32} (ha : ¬ (¬ a < 0 ∧ ¬ nI 2 ≤ a)) : Mt X am_176 [.ref 0, .int a] h (Qe (-2) h) := by
  refine rk_iload_n rfl rfl ?_
  refine rk_if_lt rfl rfl (fun hc1 => ?_) (fun hc1 => ?_)
  · refine rk_bipush (v := (-2)) rfl (by decide) ?_
    exact rk_ireturn rfl rfl Qe_mk
  · refine rk_iload_n rfl rfl ?_
    refine rk_iconst (v := nI 2) rfl (by decide) ?_
    refine rk_icmp_lt rfl rfl (fun hc4 => ?_) (fun hc4 => ?_)
    · exact absurd ⟨hc1, fun z => i32_le.mp z hc4⟩ ha
    · refine rk_bipush (v := (-2)) rfl (by decide) ?_
      exact rk_ireturn rfl rfl Qe_mk
theorem c176_v {X : ai_X} {h : ai_H} {tp : Int32} {k1 k2 : Nat → Option Nat} (d0 : h[0]? = some (cOne tp)) (d20 : h[20]? = some (cR 4 2 k1)) (d21 : h[21]? = some (cR 5 2 k2)) {i p : Nat} {n t w : Nat} {A F F1 f5 f6 : Nat → Int32} {G G1 : Nat → Nat → Int32} {n5 n6 : Int32} (H3 : HouseAt h 3 F G) (hC : HC F G A 0) (hV : HV A 0 n t w) (R5 : RouteAt h 15 n5 f5) (hFC : FC n5 f5 A 0) (hFV : FV A 0 t) (HI : HouseAt h p F1 G1) (R6 : RouteAt h (p + 6) n6 f6) (hi : i < 2) (y1 : k1 i = some p) (y2 : k2 i = some (p + 6)) (hp : 80 ≤ p) : Mt X am_176 [.ref 0, .int (nI i)] h (Qi (fun w h1 => w = 0 ∧ h1.length = h.length ∧ (∀ q : Nat, ¬ (p ≤ q ∧ q < p + 8) → h1[q]? = h[q]?) ∧ (∃ F G, HouseAt h1 p F G ∧ HC F G A 0) ∧ ∃ n f, RouteAt h1 (p + 6) n f ∧ FC n f A 0)) := by
  refine rk_iload_n rfl rfl ?_
  refine rk_if_lt rfl rfl (fun hc1 => ?_) (fun hc1 => ?_)
  · replace hc1 := (n0_lt (by omega)).mp hc1
    exact hc1.elim
  · replace hc1 := mt (n0_lt (by omega)).mpr hc1
    refine rk_iload_n rfl rfl ?_
    refine rk_iconst (v := nI 2) rfl (by decide) ?_
    refine rk_icmp_lt rfl rfl (fun hc4 => ?_) (fun hc4 => ?_)
    · replace hc4 := (nI_ltI (by omega) (by omega)).mp hc4
      refine rk_aload_n rfl rfl ?_
      refine rk_get rfl (by assumption) rfl ?_
      refine rk_iload_n rfl rfl ?_
      refine rk_aald (w := .ref p) rfl (by assumption) (by decide) rfl (by omega) (by decide) (by rw [y1]; rfl) ?_
      refine rk_ifnull_r rfl ?_
      refine rk_aload_n rfl rfl ?_
      refine rk_get rfl (by assumption) rfl ?_
      refine rk_iload_n rfl rfl ?_
      refine rk_aald (w := .ref (p + 6)) rfl (by assumption) (by decide) rfl (by omega) (by decide) (by rw [y2]; rfl) ?_
      refine rk_ifnn_r rfl rfl ?_
      exact c176_t d0 d20 d21 H3 hC hV R5 hFC hFV HI R6 hi y1 y2 hp
    · replace hc4 := mt (nI_ltI (by omega) (by omega)).mpr hc4
      omega
theorem c176_n {X : ai_X} {h : ai_H} {tp : Int32} {k1 k2 : Nat → Option Nat} (d0 : h[0]? = some (cOne tp)) (d20 : h[20]? = some (cR 4 2 k1)) (d21 : h[21]? = some (cR 5 2 k2)) {i : Nat} {n t w : Nat} {A F f5 : Nat → Int32} {G : Nat → Nat → Int32} {n5 : Int32} (H3 : HouseAt h 3 F G) (hC : HC F G A 0) (hV : HV A 0 n t w) (R5 : RouteAt h 15 n5 f5) (hFC : FC n5 f5 A 0) (hFV : FV A 0 t) (hi : i < 2) (y1 : k1 i = none) (hl80 : 80 ≤ h.length) : Mt X am_176 [.ref 0, .int (nI i)] h (Qn 8 788 (Qi (fun w h1 => w = 0 ∧ h1.length = h.length + 8 ∧ (∀ q : Nat, q < h.length → q ≠ 20 → q ≠ 21 → h1[q]? = h[q]?) ∧ h1[20]? = some (cR 4 2 (va_up k1 i (some h.length))) ∧ h1[21]? = some (cR 5 2 (va_up k2 i (some (h.length + 6)))) ∧ (∃ F G, HouseAt h1 h.length F G ∧ HC F G A 0) ∧ ∃ n f, RouteAt h1 (h.length + 6) n f ∧ FC n f A 0))) := by
  refine rk_iload_n rfl rfl ?_
  refine rk_if_lt rfl rfl (fun hc1 => ?_) (fun hc1 => ?_)
  · replace hc1 := (n0_lt (by omega)).mp hc1
    exact hc1.elim
  · replace hc1 := mt (n0_lt (by omega)).mpr hc1
    refine rk_iload_n rfl rfl ?_
    refine rk_iconst (v := nI 2) rfl (by decide) ?_
    refine rk_icmp_lt rfl rfl (fun hc4 => ?_) (fun hc4 => ?_)
    · replace hc4 := (nI_ltI (by omega) (by omega)).mp hc4
      refine rk_aload_n rfl rfl ?_
      refine rk_get rfl (by assumption) rfl ?_
      refine rk_iload_n rfl rfl ?_
      refine rk_aald (w := .null) rfl (by assumption) (by decide) rfl (by omega) (by decide) (by rw [y1]; rfl) ?_
      refine rk_ifnull_n rfl rfl ?_
      refine rk_aload_n rfl rfl ?_
      refine rk_get rfl d0 rfl ?_
      refine rk_iload_n rfl rfl ?_
      refine rk_new rfl rfl ?_
      refine hp_app (fun h1 l1 m1 g1 => ?_)
      refine rk_dup_a rfl ?_
      refine rk_call rfl rfl (Nat.le_of_ble_eq_true rfl) rfl (rk_arg (as := []) (by show (3 : Nat) ≠ 1; decide) g1 rfl rfl) (Nat.le_of_ble_eq_true rfl) (Nat.le_of_ble_eq_true rfl) (s20 g1 (by omega)) ?_
      rintro o1 ⟨o2, ⟨h2, rfl, l2, K2, HH⟩, rfl⟩
      have K2' : ∀ q : Nat, q < h.length → h2[q]? = h[q]? := fun q hq => (K2 q hq).trans (m1 q hq)
      have b20 := (K2' 20 (by omega)).trans d20
      show Rk X am_176 23 _ [.ref h.length, .int (nI i), .ref 20] h2 _
      refine rk_aast rfl b20 HH.1 rfl rfl rfl rfl (by omega) (by decide) ?_
      refine hp_gen b20 (fun h3 g3 k3 l3 => ?_)
      refine rk_aload_n rfl rfl ?_
      refine rk_get rfl ((k3 0 (by omega)).trans ((K2' 0 (by omega)).trans d0)) rfl ?_
      refine rk_iload_n rfl rfl ?_
      refine rk_new rfl rfl ?_
      refine hp_app (fun h4 l4 m4 g4 => ?_)
      have e4 : h3.length = h.length + 6 := by omega
      rw [e4] at g4 m4 ⊢
      refine rk_dup_a rfl ?_
      refine rk_call rfl rfl (Nat.le_of_ble_eq_true rfl) rfl (rk_arg (as := []) (by show (3 : Nat) ≠ 1; decide) g4 rfl rfl) (Nat.le_of_ble_eq_true rfl) (Nat.le_of_ble_eq_true rfl) (s86 g4 (by omega)) ?_
      rintro o3 ⟨o4, ⟨h5, rfl, l5, K5, RR⟩, rfl⟩
      have K5' : ∀ q : Nat, q < h.length + 6 → q ≠ 20 → h5[q]? = h2[q]? := fun q hq a => (K5 q hq).trans ((m4 q hq).trans (k3 q a))
      have b21 := (K5' 21 (by omega) (by omega)).trans ((K2' 21 (by omega)).trans d21)
      show Rk X am_176 30 _ [.ref (h.length + 6), .int (nI i), .ref 21] h5 _
      refine rk_aast rfl b21 RR.1 rfl rfl rfl rfl (by omega) (by decide) ?_
      refine hp_gen b21 (fun h6 g6 k6 l6 => ?_)
      have K6 : ∀ q : Nat, q < h.length → q ≠ 20 → q ≠ 21 → h6[q]? = h[q]? := fun q hq a1 a2 => (k6 q a2).trans ((K5' q (by omega) a1).trans (K2' q hq))
      have f20 := (k6 20 (by omega)).trans ((K5 20 (by omega)).trans ((m4 20 (by omega)).trans g3))
      have HH6 := HH.fr (h1 := h6) (fun q _ _ => (k6 q (by omega)).trans (K5' q (by omega) (by omega)))
      have RR6 := RR.fr (h1 := h6) (fun q _ _ => k6 q (by omega))
      refine (c176_t (p := h.length) ((K6 0 (by omega) (by omega) (by omega)).trans d0) f20 g6 (H3.fr (fun q _ _ => K6 q (by omega) (by omega) (by omega))) hC hV (R5.fr (fun q _ _ => K6 q (by omega) (by omega) (by omega))) hFC hFV HH6 RR6 hi (if_pos rfl) (if_pos rfl) (by omega)).mono ?_
      rintro o ⟨w', h7, rfl, rfl, l7, K7, HH7, RR7⟩
      exact ⟨(some (.int 0), h7, 0, 0), ⟨_, _, rfl, rfl, by omega, fun q a1 a2 a3 => (K7 q (by omega)).trans (K6 q a1 a2 a3), (K7 20 (by omega)).trans f20, (K7 21 (by omega)).trans g6, HH7, RR7⟩, by simp [ai_add, ad_2, ad_6]⟩
    · replace hc4 := mt (nI_ltI (by omega) (by omega)).mpr hc4
      omega
theorem m286_x {X : ai_X} {h : ai_H} {v A im : Nat → Int32} (c0 : h[52]? = some (cMdl v)) (c1 : h[53]? = some (cI 2346 A)) (c2 : h[54]? = some (cZ 2 im)) {a : Int32} (ha : ¬ (¬ a < 0 ∧ ¬ nI 2 ≤ a)) : Rk X am_286 3 (ai_loc (ai_mL am_286) [.ref 52, .int a]) [] h (Qe (-2) h) := by
  refine rk_iload_n rfl rfl ?_
  refine rk_i2l rfl rfl ?_
  refine rk_lconst (v := 0) rfl (by decide) ?_
  rw [show (0 : Int64) = (0 : Int32).toInt64 by decide]
  refine rk_lconst (v := 1) rfl (by decide) ?_
  rw [show (1 : Int64) = (nI 1).toInt64 by decide]
  refine rk_cs3e rfl rfl rfl (Nat.le_of_ble_eq_true rfl) (Nat.le_of_ble_eq_true rfl) (s181 _ _ _) ?_
  refine rk_if_ne rfl rfl (fun hc8 => ?_) (fun hc8 => ?_)
  · replace hc8 := Decidable.not_not.mp (mt bI_0.mpr hc8)
    exact absurd (w1_in.mp hc8) ha
  · replace hc8 := Decidable.not_not.mp hc8
    replace hc8 := (bI_0).mp hc8
    refine rk_bipush (v := (-2)) rfl (by decide) ?_
    exact rk_ireturn rfl rfl Qe_mk
theorem l286 {X : ai_X} {h : ai_H} {v A im : Nat → Int32} (c0 : h[52]? = some (cMdl v)) (c1 : h[53]? = some (cI 2346 A)) (c2 : h[54]? = some (cZ 2 im)) {i : Nat} (hi : i < 2) : ∀ (d : Nat) (k : Nat) (g : ai_H) (A1 : Nat → Int32), 782 < k + d → (k ≤ 782) → (Fr 53 54 h g) → (g[53]? = some (cI 2346 A1)) → (∀ q, q < k → A1 (782 * (i + 1) + q) = A q) → (∀ q, ¬ (782 * (i + 1) ≤ q ∧ q < 782 * (i + 1) + k) → A1 q = A q) → Rk X am_286 13 [some (.ref 52), some (.int (nI i)), some (.int (nI k))] [] g (Qi (fun w h1 => w = 0 ∧ h1.length = h.length ∧ (∀ q : Nat, q ≠ 53 → q ≠ 54 → h1[q]? = h[q]?) ∧ (∃ A1, h1[53]? = some (cI 2346 A1) ∧ (∀ q, q < 782 → A1 (782 * (i + 1) + q) = A q) ∧ ∀ q, ¬ (782 * (i + 1) ≤ q ∧ q < 782 * (i + 1) + 782) → A1 q = A q) ∧ ∃ im1 : Nat → Int32, h1[54]? = some (cZ 2 im1) ∧ im1 i = 1 ∧ ∀ j, j ≠ i → im1 j = im j)) := by
  intro d
  induction d with
  | zero => intro k g A1 hd hk F c53 hA1 hA2; exfalso; omega
  | succ d ih =>
    intro k g A1 hd hk F c53 hA1 hA2
    have e52 := (F.2 52 (by omega)).trans c0
    have c54 := (F.2 54 (by omega)).trans c2
    have F0 : Fr 53 54 h g := F
    have K9 : True := trivial
    refine rk_iload_n rfl rfl ?_
    refine rk_sipush (v := nI 782) rfl (by decide) ?_
    refine rk_icmp_ge rfl rfl (fun hc15 => ?_) (fun hc15 => ?_)
    · replace hc15 := (nI_leI (by omega) (by omega)).mp hc15
      refine rk_aload_n rfl rfl ?_
      refine rk_get rfl (by assumption) rfl ?_
      refine rk_iload_n rfl rfl ?_
      refine rk_iconst (v := nI 1) rfl (by decide) ?_
      refine rk_zast rfl c54 (rfl) (by omega) (by decide) ?_
      refine hp_gen c54 (fun h1 g1 hk1 hl1 => ?_)
      replace e52 := (hk1 _ (by omega)).trans e52
      have Fk := hk1
      have Fl := hl1
      first | replace F0 := F0.tr (Fr.mk1 hk1 hl1 (by omega) (by omega)) | skip
      replace c54 := g1
      refine rk_iconst (v := nI 0) rfl (by decide) ?_
      have hk2 : k = 782 := by omega
      subst hk2
      exact rk_ireturn rfl rfl ⟨_, _, rfl, rfl, Fl.trans F.1, fun q a b => (Fk q b).trans (F.2 q (by omega)), ⟨A1, (Fk 53 (by omega)).trans c53, hA1, hA2⟩, _, c54, by simp only [upd]; rw [if_pos trivial]; decide, fun j hj => by simp only [upd]; rw [if_neg hj]⟩
    · replace hc15 := mt (nI_leI (by omega) (by omega)).mpr hc15
      refine rk_aload_n rfl rfl ?_
      refine rk_get rfl (by assumption) rfl ?_
      refine rk_sipush (v := nI 782) rfl (by decide) ?_
      refine rk_iload_n rfl rfl ?_
      refine rk_iconst (v := nI 1) rfl (by decide) ?_
      refine rk_iadd rfl (nI_add _ _) ?_
      refine rk_imul rfl (pk_mul _ _) ?_
      refine rk_iload_n rfl rfl ?_
      refine rk_iadd rfl (nI_add _ _) ?_
      refine rk_aload_n rfl rfl ?_
      refine rk_get rfl (by assumption) rfl ?_
      refine rk_iload_n rfl rfl ?_
      refine rk_iald rfl (by assumption) (rfl) (by omega) (by decide) ?_
      rw [hA2 _ (by omega)]
      refine rk_iast rfl c53 (rfl) (by omega) (by decide) ?_
      refine hp_gen c53 (fun h1 g1 hk1 hl1 => ?_)
      replace e52 := (hk1 _ (by omega)).trans e52
      have Fk := hk1
      have Fl := hl1
      first | replace F0 := F0.tr (Fr.mk1 hk1 hl1 (by omega) (by omega)) | skip
      replace c53 := g1
      refine rk_iinc rfl rfl (n_inc _) rfl ?_
      refine rk_goto rfl rfl ?_
      refine ih (k + 1) _ _ (by omega) (by omega) F0 c53 (fun q hq => ?_) (fun q hq => ?_)
      · simp only [upd]
        by_cases y : q = k
        · rw [if_pos (by omega), y]
        · rw [if_neg (by omega)]; exact hA1 q (by omega)
      · simp only [upd]
        rw [if_neg (by omega)]; exact hA2 q (by omega)
theorem m286_v {X : ai_X} {h : ai_H} {v A im : Nat → Int32} (c0 : h[52]? = some (cMdl v)) (c1 : h[53]? = some (cI 2346 A)) (c2 : h[54]? = some (cZ 2 im)) {i : Nat} (hi : i < 2) : Rk X am_286 3 (ai_loc (ai_mL am_286) [.ref 52, .int (nI i)]) [] h (Qi (fun w h1 => w = 0 ∧ h1.length = h.length ∧ (∀ q : Nat, q ≠ 53 → q ≠ 54 → h1[q]? = h[q]?) ∧ (∃ A1, h1[53]? = some (cI 2346 A1) ∧ (∀ q, q < 782 → A1 (782 * (i + 1) + q) = A q) ∧ ∀ q, ¬ (782 * (i + 1) ≤ q ∧ q < 782 * (i + 1) + 782) → A1 q = A q) ∧ ∃ im1 : Nat → Int32, h1[54]? = some (cZ 2 im1) ∧ im1 i = 1 ∧ ∀ j, j ≠ i → im1 j = im j)) := by
  refine rk_iload_n rfl rfl ?_
  refine rk_i2l rfl rfl ?_
  refine rk_lconst (v := 0) rfl (by decide) ?_
  rw [show (0 : Int64) = (0 : Int32).toInt64 by decide]
  refine rk_lconst (v := 1) rfl (by decide) ?_
  rw [show (1 : Int64) = (nI 1).toInt64 by decide]
  refine rk_cs3e rfl rfl rfl (Nat.le_of_ble_eq_true rfl) (Nat.le_of_ble_eq_true rfl) (s181 _ _ _) ?_
  refine rk_if_ne rfl rfl (fun hc8 => ?_) (fun hc8 => ?_)
  · replace hc8 := Decidable.not_not.mp (mt bI_0.mpr hc8)
    refine rk_iconst (v := nI 0) rfl (by decide) ?_
    refine rk_istore_n rfl (Nat.le_of_ble_eq_true rfl) rfl ?_
    exact l286 c0 c1 c2 hi 783 0 h A (by omega) (by omega) Fr.rfl' c1 (fun q hq => absurd hq (by omega)) (fun _ _ => rfl)
  · replace hc8 := Decidable.not_not.mp hc8
    replace hc8 := (bI_0).mp hc8
    exact absurd (w1_mk hi) hc8
