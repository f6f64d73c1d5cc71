/-! LEADS: the calls -/
/-- the class wrote into helpers alone (and into what is FOUND), the model searched -/
theorem fin0 {m c s mk : Nat} {h h1 h2 h3 : ai_H} {tp : Nat} {T A A1 im rs rm v : Nat → Int32} {nu : Nat → Int64} {fk fp : Int32} {b : Nat → Option Nat} {N : Nat → Nat} (hP : InvP m c s h tp T A im rs rm nu fk fp b) (hV : HV A 0 (N 0) (N 1) (N 271)) (hmk : mk ≤ 4000 * (m + 1)) (hv : v 5 = nI tp ∧ v 13 = fk ∧ v 14 = fp) (hl1 : h1.length = h.length) (K1 : ∀ q : Nat, (q < 15 ∨ (19 ≤ q ∧ q < 26) ∨ q = 27 ∨ q = 36 ∨ q = 41 ∨ 44 ≤ q) → h1[q]? = h[q]?) (R17 : ∃ n f, RouteAt h1 17 n f) (h33 : ∃ n, h1[33]? = some (.inr (1, [.ref 3, .ref 22, .ref 34, .ref 35, .int n]))) (hk : ∀ q : Nat, q ≠ 52 → h2[q]? = h1[q]?) (hl : h2.length = h1.length) (F : FrF h2 h3) (Mw : MW h3 v mk) (c53 : h3[53]? = some (cI 2346 A1)) (hA1 : ∀ q, ¬ (281 ≤ q ∧ q < 782) → A1 q = A q) (R15 : ∃ n f, RouteAt h3 15 n f ∧ FC n f A1 0) (hFV : FV A1 0 (N 1)) (k : ai_Sk h h3) : Inv (m + 1) (c + 0) (s + 0) h3 := by
  obtain ⟨hA, hBB, hR, hI, hS, hO, hM, hVV, hD, hc, hs⟩ := id hP
  have h80 := hM.len
  have kk : ∀ q : Nat, q ≠ 52 → q ≠ 53 → ¬ (57 ≤ q ∧ q < 63) → h3[q]? = h1[q]? := fun q a1 a2 a3 => (F.2 q a1 a2 a3).trans (hk q a1)
  have k8 : ∀ q : Nat, (q < 15 ∨ (19 ≤ q ∧ q < 26) ∨ q = 27 ∨ q = 36 ∨ q = 41 ∨ 44 ≤ q) → q ≠ 52 → q ≠ 53 → ¬ (57 ≤ q ∧ q < 63) → h3[q]? = h[q]? := fun q a0 a1 a2 a3 => (kk q a1 a2 a3).trans (K1 q a0)
  have hlen3 : h3.length = h.length := (F.1.trans hl).trans hl1
  obtain ⟨n33, y4⟩ := h33
  refine Inv.srch (b1 := b) hP k ?_ ?_ rfl rfl (hD.fr (by omega)) (by omega) (by omega) ?_ R15 ?_ ⟨n33, (kk 33 (by omega) (by omega) (by omega)).trans y4⟩ ?_ c53 hA1 ?_
  · exact fun q hq kp hbl => k8 q (by omega) (by omega) (by omega) (by omega)
  · exact hS.fr (fun q _ _ => k8 q (by omega) (by omega) (by omega) (by omega)) (fun i p _ hi e q _ _ => by
      have := (hD i p hi e).1
      exact k8 q (by omega) (by omega) (by omega) (by omega))
  · obtain ⟨F9, G9, z⟩ := hBB.2.1
    exact ⟨F9, G9, z.fr (fun q _ _ => k8 q (by omega) (by omega) (by omega) (by omega))⟩
  · obtain ⟨n, f, z⟩ := R17
    exact ⟨n, f, z.fr (fun q _ _ => kk q (by omega) (by omega) (by omega))⟩
  · obtain ⟨v1, w0, w1, w2, w3, w4, w5⟩ := Mw
    exact ⟨v1, mk, w0, w1.trans hv.1, w2.trans hv.2.1, w3.trans hv.2.2, w4, hmk, w5⟩
  · intro n t w hV' _
    have : t = N 1 := by
      have e1 := hV.2.1
      have e2 := hV'.2.1
      rw [e1] at e2
      have h1 := hV.2.2.2.2.2.1
      have h2 := hV'.2.2.2.2.2.1
      exact ((nI_eq (by omega) (by omega)).mp e2).symm
    subst this
    exact hFV
theorem ME.mw {h : ai_H} {w : Nat → Int32} {mk : Nat} (S : ME h w mk) : MW h w mk := by
  obtain ⟨v, f57, f58, f59, f60, sp, sm, ⟨a1, a2, a3⟩, ⟨c0, h21, h22, c57, c58, c61, c62, hmk, hsm⟩, c59, c60⟩ := S
  exact ⟨v, c0, a1, a2, a3, h22, sm, c62, fun i hi => by obtain ⟨x, y, z⟩ := hsm i hi; exact ⟨x, by omega, z⟩⟩
/-- where those that u names stand -/
abbrev yL (N : Nat → Nat) (u : Nat) : Nat → Nat := gs N u (N 271)
abbrev xL (N : Nat → Nat) (u : Nat) : Nat := pack (yL N u) (pop u 14)
theorem pop_n {N : Nat → Nat} {u : Nat} (hN : HN N) (hu : u < 2 ^ N 271) : pop u (N 271) = pop u 14 := by
  have hw := hN.w
  have := pop_ge hu (14 - N 271)
  rwa [show N 271 + (14 - N 271) = 14 by omega, eq_comm] at this
theorem xL_v {N : Nat → Nat} {u : Nat} (hN : HN N) (hu : u < 2 ^ N 271) (hn : N23 (pop u 14)) : (∀ i, i < pop u 14 → yL N u i < N 0) ∧ vL N (pop u 14) (xL N u) ∧ ∀ i, i < pop u 14 → dgt (xL N u) i = yL N u i := by
  have h14 := hN.n
  have hy : ∀ i, i < pop u 14 → yL N u i < N 0 := fun i hi => gs_lt hN (N 271) (Nat.le_refl _) i (by rw [pop_n hN hu]; exact hi)
  have hy14 : ∀ i, i < pop u 14 → yL N u i < 14 := fun i hi => by have := hy i hi; omega
  have hd := dgt_pack hn hy14
  exact ⟨hy, ⟨fun i hi => by rw [hd i hi]; exact hy i hi, pack_lt hn hy14⟩, hd⟩
theorem s290a {X : ai_X} {h : ai_H} (z : Int32) : Mt X am_290 [.int z] h (Qi (fun _ h1 => h1 = h)) := by
  refine rk_iload_n rfl rfl ?_
  refine rk_iload_n rfl rfl ?_
  refine rk_iconst (v := nI 1) rfl (by decide) ?_
  refine rk_iushr rfl rfl ?_
  refine rk_ldcw rfl ?_
  refine rk_iand rfl rfl ?_
  refine rk_isub rfl rfl ?_
  refine rk_istore_n rfl (Nat.le_of_ble_eq_true rfl) rfl ?_
  refine rk_iload_n rfl rfl ?_
  refine rk_ldcw rfl ?_
  refine rk_iand rfl rfl ?_
  refine rk_iload_n rfl rfl ?_
  refine rk_iconst (v := nI 2) rfl (by decide) ?_
  refine rk_iushr rfl rfl ?_
  refine rk_ldcw rfl ?_
  refine rk_iand rfl rfl ?_
  refine rk_iadd rfl rfl ?_
  refine rk_istore_n rfl (Nat.le_of_ble_eq_true rfl) rfl ?_
  refine rk_iload_n rfl rfl ?_
  refine rk_iload_n rfl rfl ?_
  refine rk_iconst (v := nI 4) rfl (by decide) ?_
  refine rk_iushr rfl rfl ?_
  refine rk_iadd rfl rfl ?_
  refine rk_ldcw rfl ?_
  refine rk_iand rfl rfl ?_
  refine rk_istore_n rfl (Nat.le_of_ble_eq_true rfl) rfl ?_
  refine rk_iload_n rfl rfl ?_
  refine rk_iload_n rfl rfl ?_
  refine rk_bipush (v := nI 8) rfl (by decide) ?_
  refine rk_iushr rfl rfl ?_
  refine rk_iadd rfl rfl ?_
  refine rk_istore_n rfl (Nat.le_of_ble_eq_true rfl) rfl ?_
  refine rk_iload_n rfl rfl ?_
  refine rk_iload_n rfl rfl ?_
  refine rk_bipush (v := nI 16) rfl (by decide) ?_
  refine rk_iushr rfl rfl ?_
  refine rk_iadd rfl rfl ?_
  refine rk_istore_n rfl (Nat.le_of_ble_eq_true rfl) rfl ?_
  refine rk_iload_n rfl rfl ?_
  refine rk_bipush (v := nI 63) rfl (by decide) ?_
  refine rk_iand rfl rfl ?_
  exact rk_ireturn rfl rfl ⟨_, _, rfl, rfl⟩
theorem c161_x {X : ai_X} {h : ai_H} {tp : Int32} {N : Nat → Nat} (d0 : h[0]? = some (cOne tp)) (hN : HN N) (C : CH h 3 N) {a b : Int32} (hx : ¬ (¬ b < 0 ∧ ¬ nI (N 0) ≤ b)) : Mt X am_161 [.ref 0, .int a, .int b] h (Qe (-2) h) := by
  have e3 := C.1
  refine rk_aload_n rfl rfl ?_
  refine rk_get rfl (by assumption) rfl ?_
  refine rk_iload_n rfl rfl ?_
  refine rk_cv1e rfl rfl (by assumption) rfl rfl (Nat.le_of_ble_eq_true rfl) (Nat.le_of_ble_eq_true rfl) (s23N C _) ?_
  refine rk_if_ne rfl rfl (fun hc4 => ?_) (fun hc4 => ?_)
  · replace hc4 := Decidable.not_not.mp (mt bI_0.mpr hc4)
    exact absurd hc4 hx
  · replace hc4 := Decidable.not_not.mp hc4
    replace hc4 := (bI_0).mp hc4
    refine rk_bipush (v := (-2)) rfl (by decide) ?_
    exact rk_ireturn rfl rfl Qe_mk
/-- the waiters that may be led at once -/
abbrev okW (N : Nat → Nat) (a : Int32) : Prop := ∃ u, a = nI u ∧ u < 2 ^ N 271 ∧ (pop u 14 = 2 ∨ pop u 14 = 3)
theorem p256 {N : Nat → Nat} (hN : HN N) : 2 ^ N 271 ≤ 256 := Nat.pow_le_pow_right (n := 2) (by decide) hN.w
theorem c161_y {X : ai_X} {h : ai_H} {tp : Int32} {N : Nat → Nat} (d0 : h[0]? = some (cOne tp)) (hN : HN N) (C : CH h 3 N) {a b : Int32} (hx : (¬ b < 0 ∧ ¬ nI (N 0) ≤ b)) (hy : ¬ (¬ a < 0 ∧ ¬ nI (2 ^ N 271) ≤ a)) : Mt X am_161 [.ref 0, .int a, .int b] h (Qe (-3) h) := by
  have e3 := C.1
  have hw := hN.w
  refine rk_aload_n rfl rfl ?_
  refine rk_get rfl (by assumption) rfl ?_
  refine rk_iload_n rfl rfl ?_
  refine rk_cv1e rfl rfl (by assumption) rfl rfl (Nat.le_of_ble_eq_true rfl) (Nat.le_of_ble_eq_true rfl) (s23N C _) ?_
  refine rk_if_ne rfl rfl (fun hc4 => ?_) (fun hc4 => ?_)
  · replace hc4 := Decidable.not_not.mp (mt bI_0.mpr hc4)
    refine rk_iload_n rfl rfl ?_
    refine rk_cs1i rfl rfl rfl (Nat.le_of_ble_eq_true rfl) (Nat.le_of_ble_eq_true rfl) (s290a _) (fun w h1 hF => ?_)
    subst hF
    refine rk_istore_n rfl (Nat.le_of_ble_eq_true rfl) rfl ?_
    refine rk_iload_n rfl rfl ?_
    refine rk_if_lt rfl rfl (fun hc11 => ?_) (fun hc11 => ?_)
    · refine rk_bipush (v := (-3)) rfl (by decide) ?_
      exact rk_ireturn rfl rfl Qe_mk
    · refine rk_iload_n rfl rfl ?_
      refine rk_iconst (v := nI 1) rfl (by decide) ?_
      refine rk_aload_n rfl rfl ?_
      refine rk_get rfl (by assumption) rfl ?_
      refine rk_get rfl (by assumption) rfl ?_
      refine rk_ishl rfl (b_1shlU (by omega)) ?_
      refine rk_icmp_ge rfl rfl (fun hc18 => ?_) (fun hc18 => ?_)
      · refine rk_bipush (v := (-3)) rfl (by decide) ?_
        exact rk_ireturn rfl rfl Qe_mk
      · exact absurd ⟨hc11, hc18⟩ hy
  · replace hc4 := Decidable.not_not.mp hc4
    replace hc4 := (bI_0).mp hc4
    exact absurd hx hc4
theorem c161_z {X : ai_X} {h : ai_H} {tp : Int32} {N : Nat → Nat} (d0 : h[0]? = some (cOne tp)) (hN : HN N) (C : CH h 3 N) {u : Nat} {b : Int32} (hx : (¬ b < 0 ∧ ¬ nI (N 0) ≤ b)) (hu : u < 2 ^ N 271) (hy : ¬ (pop u 14 = 2 ∨ pop u 14 = 3)) : Mt X am_161 [.ref 0, .int (nI u), .int b] h (Qe (-3) h) := by
  have e3 := C.1
  have hw := hN.w
  have h256 := p256 hN
  have hpl := pop_le u 14
  refine rk_aload_n rfl rfl ?_
  refine rk_get rfl (by assumption) rfl ?_
  refine rk_iload_n rfl rfl ?_
  refine rk_cv1e rfl rfl (by assumption) rfl rfl (Nat.le_of_ble_eq_true rfl) (Nat.le_of_ble_eq_true rfl) (s23N C _) ?_
  refine rk_if_ne rfl rfl (fun hc4 => ?_) (fun hc4 => ?_)
  · replace hc4 := Decidable.not_not.mp (mt bI_0.mpr hc4)
    refine rk_iload_n rfl rfl ?_
    refine rk_cs1e rfl rfl rfl (Nat.le_of_ble_eq_true rfl) (Nat.le_of_ble_eq_true rfl) (s290 (by omega)) ?_
    refine rk_istore_n rfl (Nat.le_of_ble_eq_true rfl) rfl ?_
    refine rk_iload_n rfl rfl ?_
    refine rk_if_lt rfl rfl (fun hc11 => ?_) (fun hc11 => ?_)
    · replace hc11 := (n0_lt (by omega)).mp hc11
      refine rk_bipush (v := (-3)) rfl (by decide) ?_
      exact rk_ireturn rfl rfl Qe_mk
    · replace hc11 := mt (n0_lt (by omega)).mpr hc11
      refine rk_iload_n rfl rfl ?_
      refine rk_iconst (v := nI 1) rfl (by decide) ?_
      refine rk_aload_n rfl rfl ?_
      refine rk_get rfl (by assumption) rfl ?_
      refine rk_get rfl (by assumption) rfl ?_
      refine rk_ishl rfl (b_1shlU (by omega)) ?_
      refine rk_icmp_ge rfl rfl (fun hc18 => ?_) (fun hc18 => ?_)
      · replace hc18 := (nI_leI (by omega) (by omega)).mp hc18
        refine rk_bipush (v := (-3)) rfl (by decide) ?_
        exact rk_ireturn rfl rfl Qe_mk
      · replace hc18 := mt (nI_leI (by omega) (by omega)).mpr hc18
        refine rk_iload_n rfl rfl ?_
        refine rk_iconst (v := nI 2) rfl (by decide) ?_
        refine rk_icmp_lt rfl rfl (fun hc21 => ?_) (fun hc21 => ?_)
        · replace hc21 := (nI_ltI (by omega) (by omega)).mp hc21
          refine rk_bipush (v := (-3)) rfl (by decide) ?_
          exact rk_ireturn rfl rfl Qe_mk
        · replace hc21 := mt (nI_ltI (by omega) (by omega)).mpr hc21
          refine rk_iload_n rfl rfl ?_
          refine rk_iconst (v := nI 3) rfl (by decide) ?_
          refine rk_icmp_le rfl rfl (fun hc24 => ?_) (fun hc24 => ?_)
          · replace hc24 := (nI_leI (by omega) (by omega)).mp hc24
            exact absurd (by omega) hy
          · replace hc24 := mt (nI_leI (by omega) (by omega)).mpr hc24
            refine rk_bipush (v := (-3)) rfl (by decide) ?_
            exact rk_ireturn rfl rfl Qe_mk
  · replace hc4 := Decidable.not_not.mp hc4
    replace hc4 := (bI_0).mp hc4
    exact absurd hx hc4
theorem s13_a {X : ai_X} {h : ai_H} {N : Nat → Nat} {n33 n0 : Int32} {f0 : Nat → Int32} {u r : Nat} (hN : HN N) (C : CH h 3 N) (d33 : h[33]? = some (cCo n33)) (A0 : ShI h 35 3) (R : RouteAt h 15 n0 f0) (hu : u < 2 ^ N 271) (hn : N23 (pop u 14)) (hr : r < N 0) (hbd : ¬ bad N (yL N u) (pop u 14) = 0) : Mt X am_13 [.ref 33, .int (nI u), .int (nI r), .ref 15] h (Qi (fun w h1 => w = -1 ∧ Fr 33 36 h h1 ∧ h1[33]? = some (cCo (nI (pop u 14))))) := by
  have h256 := p256 hN
  have hpn := pop_n hN hu
  obtain ⟨hy, hvx, hdg⟩ := xL_v hN hu hn
  refine rk_aload_n rfl rfl ?_
  refine rk_iload_n rfl rfl ?_
  refine rk_cv1v rfl rfl (by assumption) rfl rfl (Nat.le_of_ble_eq_true rfl) (Nat.le_of_ble_eq_true rfl) (s14 hN C d33 A0 (by omega) (by omega)) (fun h1 hF => ?_)
  obtain ⟨F1, F34, e33, A1⟩ := hF
  rw [hpn] at e33 A1
  have C1 := C.fr2 F1 (by omega)
  refine rk_aload_n rfl rfl ?_
  refine rk_cv0e rfl rfl (by assumption) rfl rfl (Nat.le_of_ble_eq_true rfl) (Nat.le_of_ble_eq_true rfl) (s17 hn hN C1 e33 A1 hy) ?_
  refine rk_if_eq rfl rfl (fun hc5 => ?_) (fun hc5 => ?_)
  · replace hc5 := (bI_0).mp hc5
    exact absurd hbd hc5
  · replace hc5 := Decidable.not_not.mp (mt bI_0.mpr hc5)
    refine rk_iconst (v := (-1)) rfl (by decide) ?_
    exact rk_ireturn rfl rfl ⟨_, _, rfl, rfl, F1, e33⟩
theorem s13_b {X : ai_X} {h : ai_H} {N : Nat → Nat} {n33 n0 : Int32} {f0 : Nat → Int32} {b : Option Nat} {u r : Nat} (hN : HN N) (C : CH h 3 N) (d33 : h[33]? = some (cCo n33)) (A0 : ShI h 35 3) (R : RouteAt h 15 n0 f0) (S : SrchAt h 22 16384 16384 b) (hb : ∀ p, b = some p → 80 ≤ p) (hl : 80 ≤ h.length) (c25 : ∃ f, h[25]? = some (cI 1536 f) ∧ ∀ j, j < 12 → f (128 * j) = 0) (hu : u < 2 ^ N 271) (hn : N23 (pop u 14)) (hr : r < N 0) (hbd : bad N (yL N u) (pop u 14) = 0) : Mt X am_13 [.ref 33, .int (nI u), .int (nI r), .ref 15] h (Qn (nc b) (ns b 49152) (Qi (fun w h1 => w = ans (bfK (nxL N (pop u 14)) (okL N (pop u 14)) (N 1) (xL N u) 2744) (glL (pop u 14) r) ∧ CE h h1 b (ans (bfK (nxL N (pop u 14)) (okL N (pop u 14)) (N 1) (xL N u) 2744) (glL (pop u 14) r)) (bfK (nxL N (pop u 14)) (okL N (pop u 14)) (N 1) (xL N u) 2744) (glL (pop u 14) r)))) := by
  have h256 := p256 hN
  have hpn := pop_n hN hu
  obtain ⟨hy, hvx, hdg⟩ := xL_v hN hu hn
  have hp80 := np_80 hb hl
  refine rk_aload_n rfl rfl ?_
  refine rk_iload_n rfl rfl ?_
  refine rk_cv1v rfl rfl (by assumption) rfl rfl (Nat.le_of_ble_eq_true rfl) (Nat.le_of_ble_eq_true rfl) (s14 hN C d33 A0 (by omega) (by omega)) (fun h1 hF => ?_)
  obtain ⟨F1, F34, e33, A1⟩ := hF
  rw [hpn] at e33 A1
  have C1 := C.fr2 F1 (by omega)
  refine rk_aload_n rfl rfl ?_
  refine rk_cv0e rfl rfl (by assumption) rfl rfl (Nat.le_of_ble_eq_true rfl) (Nat.le_of_ble_eq_true rfl) (s17 hn hN C1 e33 A1 hy) ?_
  refine rk_if_eq rfl rfl (fun hc5 => ?_) (fun hc5 => ?_)
  · replace hc5 := (bI_0).mp hc5
    refine rk_aload_n rfl rfl ?_
    refine rk_get rfl (by assumption) rfl ?_
    have S1 : SrchAt h1 22 16384 16384 b := S.fr (F1.2 22 (by omega)) (fun p e q _ _ => F1.2 q (by have := hb p e; omega))
    have hl1 := F1.1
    have E1 := s96b (X := X) S1 (fun p e => by have := hb p e; omega) (Or.inl rfl) (by omega) (by rw [F1.1]; omega)
    rw [hl1] at E1
    obtain ⟨fs22, e22⟩ := srch_obj S1
    refine rk_cq0v rfl rfl e22 rfl rfl (Nat.le_of_ble_eq_true rfl) (Nat.le_of_ble_eq_true rfl) E1 (fun h2 hF => ?_)
    obtain ⟨F2, E2⟩ := hF
    have hl2 := F2.1
    have k2 : ∀ q : Nat, q < 80 → q ≠ 22 → h2[q]? = h1[q]? := fun q hq h22 => F2.2 q (by omega) h22 (by omega)
    have R2 : RouteAt h2 15 n0 f0 := R.fr (fun q _ _ => (k2 q (by omega) (by omega)).trans (F1.2 q (by omega)))
    refine (r13 hn hN (C1.fr (fun q _ _ => k2 q (by omega) (by omega))) ((k2 33 (by omega) (by omega)).trans e33) R2 hp80 hvx hr E2 (A1.fr (k2 35 (by omega) (by omega))) hy rfl).mono ?_
    rintro o ⟨w, h3, e1, F3, S3, z3⟩
    subst e1
    have hw := z3.w
    rw [hw] at z3
    have F1' : ∀ q : Nat, q ≠ 33 → q ≠ 35 → h1[q]? = h[q]? := fun q a1 a2 => by
      by_cases z : q = 34
      · subst z; exact F34
      · exact F1.2 q (by omega)
    have k3 : ∀ q : Nat, q < h.length → q ≠ 22 → ¬ (np b h.length ≤ q ∧ q < np b h.length + 3) → q ≠ 15 → q ≠ 16 → q ≠ 33 → q ≠ 35 → h3[q]? = h[q]? := fun q a1 a2 a3 a4 a5 a6 a8 => (F3.2 q a4 a5 a2 a8 a3).trans ((F2.2 q (by omega) a2 a3).trans (F1' q a6 a8))
    obtain ⟨f, g1, g2⟩ := c25
    refine ⟨_, _, rfl, hw, by rw [F3.1, hl2, hl1], fun q a1 a2 a3 a4 _ a6 a7 a8 => k3 q a1 a4 a8 a2 a3 a6 a7, ⟨f, (k3 25 (by omega) (by omega) (by omega) (by omega) (by omega) (by omega) (by omega)).trans g1, g2⟩, ⟨_, (F3.2 33 (by omega) (by omega) (by omega) (by omega) (by omega)).trans ((k2 33 (by omega) (by omega)).trans e33)⟩, S3, ?_⟩
    have e15 : h2[15]? = h[15]? := (k2 15 (by omega) (by omega)).trans (F1.2 15 (by omega))
    have e16 : h2[16]? = h[16]? := (k2 16 (by omega) (by omega)).trans (F1.2 16 (by omega))
    unfold CF at z3 ⊢
    rw [e15, e16] at z3
    exact z3
  · replace hc5 := Decidable.not_not.mp (mt bI_0.mpr hc5)
    exact absurd hbd hc5
theorem c161_a {X : ai_X} {h : ai_H} {tp : Int32} {N : Nat → Nat} {n33 n0 : Int32} {f0 : Nat → Int32} {u r : Nat} (d0 : h[0]? = some (cOne tp)) (hN : HN N) (C : CH h 3 N) (d33 : h[33]? = some (cCo n33)) (A0 : ShI h 35 3) (R : RouteAt h 15 n0 f0) (hu : u < 2 ^ N 271) (hn : N23 (pop u 14)) (hr : r < N 0) (hbd : ¬ bad N (yL N u) (pop u 14) = 0) : Mt X am_161 [.ref 0, .int (nI u), .int (nI r)] h (Qi (fun w h1 => w = -1 ∧ Fr 33 36 h h1 ∧ h1[33]? = some (cCo (nI (pop u 14))))) := by
  have e3 := C.1
  have hw := hN.w
  have h256 := p256 hN
  have h14 := hN.n
  refine rk_aload_n rfl rfl ?_
  refine rk_get rfl (by assumption) rfl ?_
  refine rk_iload_n rfl rfl ?_
  refine rk_cv1e rfl rfl (by assumption) rfl rfl (Nat.le_of_ble_eq_true rfl) (Nat.le_of_ble_eq_true rfl) (s23N C _) ?_
  refine rk_if_ne rfl rfl (fun hc4 => ?_) (fun hc4 => ?_)
  · replace hc4 := Decidable.not_not.mp (mt bI_0.mpr hc4)
    refine rk_iload_n rfl rfl ?_
    refine rk_cs1e rfl rfl rfl (Nat.le_of_ble_eq_true rfl) (Nat.le_of_ble_eq_true rfl) (s290 (by omega)) ?_
    refine rk_istore_n rfl (Nat.le_of_ble_eq_true rfl) rfl ?_
    refine rk_iload_n rfl rfl ?_
    refine rk_if_lt rfl rfl (fun hc11 => ?_) (fun hc11 => ?_)
    · replace hc11 := (n0_lt (by omega)).mp hc11
      exact hc11.elim
    · replace hc11 := mt (n0_lt (by omega)).mpr hc11
      refine rk_iload_n rfl rfl ?_
      refine rk_iconst (v := nI 1) rfl (by decide) ?_
      refine rk_aload_n rfl rfl ?_
      refine rk_get rfl (by assumption) rfl ?_
      refine rk_get rfl (by assumption) rfl ?_
      refine rk_ishl rfl (b_1shlU (by omega)) ?_
      refine rk_icmp_ge rfl rfl (fun hc18 => ?_) (fun hc18 => ?_)
      · replace hc18 := (nI_leI (by omega) (by omega)).mp hc18
        omega
      · replace hc18 := mt (nI_leI (by omega) (by omega)).mpr hc18
        refine rk_iload_n rfl rfl ?_
        refine rk_iconst (v := nI 2) rfl (by decide) ?_
        refine rk_icmp_lt rfl rfl (fun hc21 => ?_) (fun hc21 => ?_)
        · replace hc21 := (nI_ltI (by omega) (by omega)).mp hc21
          omega
        · replace hc21 := mt (nI_ltI (by omega) (by omega)).mpr hc21
          refine rk_iload_n rfl rfl ?_
          refine rk_iconst (v := nI 3) rfl (by decide) ?_
          refine rk_icmp_le rfl rfl (fun hc24 => ?_) (fun hc24 => ?_)
          · replace hc24 := (nI_leI (by omega) (by omega)).mp hc24
            refine rk_aload_n rfl rfl ?_
            refine rk_get rfl (by assumption) rfl ?_
            refine rk_iload_n rfl rfl ?_
            refine rk_iload_n rfl rfl ?_
            refine rk_aload_n rfl rfl ?_
            refine rk_get rfl (by assumption) rfl ?_
            refine rk_cv3i rfl rfl (by assumption) rfl rfl (Nat.le_of_ble_eq_true rfl) (Nat.le_of_ble_eq_true rfl) (s13_a hN C d33 A0 R hu hn hr hbd) (fun w h1 hF => ?_)
            exact rk_ireturn rfl rfl ⟨_, _, rfl, hF⟩
          · replace hc24 := mt (nI_leI (by omega) (by omega)).mpr hc24
            omega
  · replace hc4 := Decidable.not_not.mp hc4
    replace hc4 := (bI_0).mp hc4
    exact absurd (in_mk (by omega) hr) hc4
theorem c161_b {X : ai_X} {h : ai_H} {tp : Int32} {N : Nat → Nat} {n33 n0 : Int32} {f0 : Nat → Int32} {b : Option Nat} {u r : Nat} (d0 : h[0]? = some (cOne tp)) (hN : HN N) (C : CH h 3 N) (d33 : h[33]? = some (cCo n33)) (A0 : ShI h 35 3) (R : RouteAt h 15 n0 f0) (S : SrchAt h 22 16384 16384 b) (hb : ∀ p, b = some p → 80 ≤ p) (hl : 80 ≤ h.length) (c25 : ∃ f, h[25]? = some (cI 1536 f) ∧ ∀ j, j < 12 → f (128 * j) = 0) (hu : u < 2 ^ N 271) (hn : N23 (pop u 14)) (hr : r < N 0) (hbd : bad N (yL N u) (pop u 14) = 0) : Mt X am_161 [.ref 0, .int (nI u), .int (nI r)] h (Qn (nc b) (ns b 49152) (Qi (fun w h1 => w = ans (bfK (nxL N (pop u 14)) (okL N (pop u 14)) (N 1) (xL N u) 2744) (glL (pop u 14) r) ∧ CE h h1 b (ans (bfK (nxL N (pop u 14)) (okL N (pop u 14)) (N 1) (xL N u) 2744) (glL (pop u 14) r)) (bfK (nxL N (pop u 14)) (okL N (pop u 14)) (N 1) (xL N u) 2744) (glL (pop u 14) r)))) := by
  have e3 := C.1
  have hw := hN.w
  have h256 := p256 hN
  have h14 := hN.n
  refine rk_aload_n rfl rfl ?_
  refine rk_get rfl (by assumption) rfl ?_
  refine rk_iload_n rfl rfl ?_
  refine rk_cv1e rfl rfl (by assumption) rfl rfl (Nat.le_of_ble_eq_true rfl) (Nat.le_of_ble_eq_true rfl) (s23N C _) ?_
  refine rk_if_ne rfl rfl (fun hc4 => ?_) (fun hc4 => ?_)
  · replace hc4 := Decidable.not_not.mp (mt bI_0.mpr hc4)
    refine rk_iload_n rfl rfl ?_
    refine rk_cs1e rfl rfl rfl (Nat.le_of_ble_eq_true rfl) (Nat.le_of_ble_eq_true rfl) (s290 (by omega)) ?_
    refine rk_istore_n rfl (Nat.le_of_ble_eq_true rfl) rfl ?_
    refine rk_iload_n rfl rfl ?_
    refine rk_if_lt rfl rfl (fun hc11 => ?_) (fun hc11 => ?_)
    · replace hc11 := (n0_lt (by omega)).mp hc11
      exact hc11.elim
    · replace hc11 := mt (n0_lt (by omega)).mpr hc11
      refine rk_iload_n rfl rfl ?_
      refine rk_iconst (v := nI 1) rfl (by decide) ?_
      refine rk_aload_n rfl rfl ?_
      refine rk_get rfl (by assumption) rfl ?_
      refine rk_get rfl (by assumption) rfl ?_
      refine rk_ishl rfl (b_1shlU (by omega)) ?_
      refine rk_icmp_ge rfl rfl (fun hc18 => ?_) (fun hc18 => ?_)
      · replace hc18 := (nI_leI (by omega) (by omega)).mp hc18
        omega
      · replace hc18 := mt (nI_leI (by omega) (by omega)).mpr hc18
        refine rk_iload_n rfl rfl ?_
        refine rk_iconst (v := nI 2) rfl (by decide) ?_
        refine rk_icmp_lt rfl rfl (fun hc21 => ?_) (fun hc21 => ?_)
        · replace hc21 := (nI_ltI (by omega) (by omega)).mp hc21
          omega
        · replace hc21 := mt (nI_ltI (by omega) (by omega)).mpr hc21
          refine rk_iload_n rfl rfl ?_
          refine rk_iconst (v := nI 3) rfl (by decide) ?_
          refine rk_icmp_le rfl rfl (fun hc24 => ?_) (fun hc24 => ?_)
          · replace hc24 := (nI_leI (by omega) (by omega)).mp hc24
            refine rk_aload_n rfl rfl ?_
            refine rk_get rfl (by assumption) rfl ?_
            refine rk_iload_n rfl rfl ?_
            refine rk_iload_n rfl rfl ?_
            refine rk_aload_n rfl rfl ?_
            refine rk_get rfl (by assumption) rfl ?_
            refine rk_cq3i rfl rfl d33 rfl rfl (Nat.le_of_ble_eq_true rfl) (Nat.le_of_ble_eq_true rfl) (s13_b hN C d33 A0 R S hb hl c25 hu hn hr hbd) (fun w h1 hF => ?_)
            exact rk_ireturn rfl rfl ⟨_, _, rfl, hF⟩
          · replace hc24 := mt (nI_leI (by omega) (by omega)).mpr hc24
            omega
  · replace hc4 := Decidable.not_not.mp hc4
    replace hc4 := (bI_0).mp hc4
    exact absurd (in_mk (by omega) hr) hc4
theorem l268i {X : ai_X} {h : ai_H} {w A : Nat → Int32} {N : Nat → Nat} {mk n x r : Nat} {c1 : Int32} {i3 i4 : Nat} (c53 : h[53]? = some (cI 2346 A)) (hN : HN N) (M : MH A N) (hn : N23 n) (hx : vL N n x) (hr : r < N 0) {k : Nat} {B : Bf} (hB : BI (nxL N n) (okL N n) (N 1) x B) (hk : k < B.m) {P : ai_O → Prop} (z1 : ∀ g c7, FrM h g → MB g w mk (r1L n) ze1 (bfT (nxL N n) (okL N n) B k (N 1)) → Rk X am_268 136 [some (.ref 52), some (.int c1), some (.int (nI r)), some (.int (nI i3)), some (.int (nI i4)), some (.int (nI k)), some (.int (nI (N 1))), c7] [] g P) : ∀ (d : Nat) (t : Nat) (g : ai_H) (c7 : Option Value), N 1 < t + d → (t ≤ N 1) → (FrM h g) → (MB g w mk (r1L n) ze1 (bfT (nxL N n) (okL N n) B k t)) → Rk X am_268 109 [some (.ref 52), some (.int c1), some (.int (nI r)), some (.int (nI i3)), some (.int (nI i4)), some (.int (nI k)), some (.int (nI t)), c7] [] g (P) := by
  intro d
  induction d with
  | zero => intro t g c7 hd ht F S; exfalso; omega
  | succ d ih =>
    intro t g c7 hd ht F S
    obtain ⟨a0, a1, a268, a269, a270, a271, apl, apc, aot, asg, awt⟩ := id M
    obtain ⟨v, e52, hv21, hv22, -⟩ := S.obj
    obtain ⟨f57, f58, e57, e58, hsts⟩ := S.sts
    have hst1 : ∀ i, i < (bfT (nxL N n) (okL N n) B k t).m → f57 i = nI (r1L n ((bfT (nxL N n) (okL N n) B k t).st i)) := fun i hi => (hsts i hi).1
    have e53 := (F.2 53 (by omega) (by omega)).trans c53
    have h6 := hN.t
    have h14 := hN.n
    have hBt := hB.tones hk t ht
    have hkt : k < (bfT (nxL N n) (okL N n) B k t).m := Nat.lt_of_lt_of_le hk (bfT_pre _ _ B k t).1
    obtain ⟨hst, hm16⟩ := lead_bd hN hn hx hBt
    have hvk := hst k hkt
    refine rk_iload rfl rfl ?_
    refine rk_aload_n rfl rfl ?_
    refine rk_get rfl (by assumption) rfl ?_
    refine rk_iconst (v := nI 1) rfl (by decide) ?_
    refine rk_iald rfl (by assumption) (rfl) (by omega) (by decide) ?_
    rw [a1]
    refine rk_icmp_ge rfl rfl (fun hc114 => ?_) (fun hc114 => ?_)
    · replace hc114 := (nI_leI (by omega) (by omega)).mp hc114
      have ht2 : t = N 1 := by omega
      subst ht2
      exact z1 g _ F S
    · replace hc114 := mt (nI_leI (by omega) (by omega)).mpr hc114
      refine rk_aload_n rfl rfl ?_
      refine rk_aload_n rfl rfl ?_
      refine rk_get rfl (by assumption) rfl ?_
      refine rk_iload rfl rfl ?_
      refine rk_iald rfl (by assumption) (rfl) (by omega) (by decide) ?_
      rw [hst1 k hkt]
      refine rk_iload rfl rfl ?_
      refine rk_cv2e rfl rfl (by assumption) rfl rfl (Nat.le_of_ble_eq_true rfl) (Nat.le_of_ble_eq_true rfl) (s266 e52 e53 hN M hn hvk (by omega)) ?_
      have hvn := nxL_v hN hn hvk (show t < N 1 by omega)
      have hrl := r1L_lt hN hvn
      refine rk_istore rfl (Nat.le_of_ble_eq_true rfl) rfl ?_
      refine rk_aload_n rfl rfl ?_
      refine rk_iload rfl rfl ?_
      refine rk_cv1e rfl rfl (by assumption) rfl rfl (Nat.le_of_ble_eq_true rfl) (Nat.le_of_ble_eq_true rfl) (s265 e52 e53 hN M hn hvn) ?_
      refine rk_if_eq rfl rfl (fun hc126 => ?_) (fun hc126 => ?_)
      · replace hc126 := (bI_0).mp hc126
        have hno := bfT_no (nx := nxL N n) (ok := okL N n) (B := B) (k := k) (t := t) (fun z => hc126 (okL_t.mp z))
        have F2 := F
        have S2 := S
        rw [← hno] at S2
        refine rk_iinc rfl rfl (n_inc _) rfl ?_
        refine rk_goto rfl rfl ?_
        exact ih (t + 1) _ _ (by omega) (by omega) F2 S2
      · replace hc126 := Decidable.not_not.mp (mt bI_0.mpr hc126)
        have hok : okL N n (nxL N n ((bfT (nxL N n) (okL N n) B k t).st k) t) = true := okL_t.mpr hc126
        have hT1 := bfT_ok (nx := nxL N n) (ok := okL N n) (B := B) (k := k) (t := t) hok
        refine rk_aload_n rfl rfl ?_
        refine rk_iload rfl rfl ?_
        refine rk_iconst (v := nI 0) rfl (by decide) ?_
        refine rk_iload rfl rfl ?_
        refine rk_iload rfl rfl ?_
        refine rk_cv4i rfl rfl (by assumption) rfl rfl (Nat.le_of_ble_eq_true rfl) (Nat.le_of_ble_eq_true rfl) (s232C (r1 := r1L n) (r2 := ze1) (x := (nxL N n ((bfT (nxL N n) (okL N n) B k t).st k) t)) S hBt.1 rfl rfl (by omega) (by omega) (fun i hi z _ => r1L_inj hN hn (hst i hi) hvn z) (by omega)) (fun w h1 hF => ?_)
        obtain ⟨rfl, F1, S1⟩ := hF
        have F2 := F.tr F1
        have S2 := S1
        rw [← hT1] at S2
        refine rk_pop rfl ?_
        refine rk_iinc rfl rfl (n_inc _) rfl ?_
        refine rk_goto rfl rfl ?_
        exact ih (t + 1) _ _ (by omega) (by omega) F2 S2
theorem l268 {X : ai_X} {h : ai_H} {w A : Nat → Int32} {N : Nat → Nat} {mk n x r : Nat} {c1 : Int32} {i3 i4 : Nat} (c53 : h[53]? = some (cI 2346 A)) (hN : HN N) (M : MH A N) (hn : N23 n) (hx : vL N n x) (hr : r < N 0) : ∀ (d : Nat) (k : Nat) (g : ai_H) (c6 c7 : Option Value), 2744 < k + d → (k ≤ (bfK (nxL N n) (okL N n) (N 1) x k).m) → (k ≤ 2744) → (FrM h g) → (MB g w mk (r1L n) ze1 (bfK (nxL N n) (okL N n) (N 1) x k)) → ((∀ i, i < k → ¬ glL n r ((bfK (nxL N n) (okL N n) (N 1) x k).st i) = true)) → Rk X am_268 91 [some (.ref 52), some (.int c1), some (.int (nI r)), some (.int (nI i3)), some (.int (nI i4)), some (.int (nI k)), c6, c7] [] g (Qi (fun y h1 => y = ans (bfK (nxL N n) (okL N n) (N 1) x 2744) (glL n r) ∧ FrF h h1 ∧ MW h1 w mk ∧ ∃ A1, h1[53]? = some (cI 2346 A1) ∧ MF A A1 y (bfK (nxL N n) (okL N n) (N 1) x 2744) (glL n r))) := by
  intro d
  induction d with
  | zero => intro k g c6 c7 hd hk hk2 F S G; exfalso; omega
  | succ d ih =>
    intro k g c6 c7 hd hk hk2 F S G
    obtain ⟨a0, a1, a268, a269, a270, a271, apl, apc, aot, asg, awt⟩ := id M
    obtain ⟨v, e52, hv21, hv22, -⟩ := S.obj
    obtain ⟨f57, f58, e57, e58, hsts⟩ := S.sts
    have hst1 : ∀ i, i < (bfK (nxL N n) (okL N n) (N 1) x k).m → f57 i = nI (r1L n ((bfK (nxL N n) (okL N n) (N 1) x k).st i)) := fun i hi => (hsts i hi).1
    have e53 := (F.2 53 (by omega) (by omega)).trans c53
    have h6 := hN.t
    have h14 := hN.n
    have hBk := BI.heads (nx := nxL N n) (ok := okL N n) (T := N 1) (x := x) k
    obtain ⟨hst, hm16⟩ := lead_bd hN hn hx hBk
    refine rk_iload rfl rfl ?_
    refine rk_aload_n rfl rfl ?_
    refine rk_get rfl (by assumption) rfl ?_
    rw [hv21]
    refine rk_icmp_ge rfl rfl (fun hc94 => ?_) (fun hc94 => ?_)
    · replace hc94 := (nI_leI (by omega) (by omega)).mp hc94
      refine rk_iconst (v := (-1)) rfl (by decide) ?_
      have hend := bfK_end (nx := nxL N n) (ok := okL N n) (T := N 1) (x := x) (k := k) (W := 2744) (by omega) (by omega)
      have mf : MF A A (-1) (bfK (nxL N n) (okL N n) (N 1) x 2744) (glL n r) := MF.none (by rw [hend]; exact fun i hi => G i (by omega))
      refine rk_ireturn rfl rfl ⟨_, _, rfl, mf.w, F.f, S.mw, A, e53, mf⟩
    · replace hc94 := mt (nI_leI (by omega) (by omega)).mpr hc94
      refine rk_aload_n rfl rfl ?_
      refine rk_aload_n rfl rfl ?_
      refine rk_get rfl (by assumption) rfl ?_
      refine rk_iload rfl rfl ?_
      refine rk_iald rfl (by assumption) (rfl) (by omega) (by decide) ?_
      rw [hst1 k (by omega)]
      refine rk_iload_n rfl rfl ?_
      refine rk_cv2e rfl rfl (by assumption) rfl rfl (Nat.le_of_ble_eq_true rfl) (Nat.le_of_ble_eq_true rfl) (s267 e52 e53 hN M hn (hst k (by omega)) hr) ?_
      refine rk_if_eq rfl rfl (fun hc102 => ?_) (fun hc102 => ?_)
      · replace hc102 := (bI_0).mp hc102
        refine rk_iconst (v := nI 0) rfl (by decide) ?_
        refine rk_istore rfl (Nat.le_of_ble_eq_true rfl) rfl ?_
        refine l268i (B := (bfK (nxL N n) (okL N n) (N 1) x k)) c53 hN M hn hx hr hBk (by omega) ?_ (N 1 + 1) 0 g _ (by omega) (by omega) F S
        intro g2 c7 F2 S2
        rw [← bfK_s (by omega)] at S2
        refine rk_iinc rfl rfl (n_inc _) rfl ?_
        refine rk_goto rfl rfl ?_
        have hpk := bfK_1 (nxL N n) (okL N n) (N 1) x k
        have hp1 := hpk.1
        refine ih (k + 1) g2 _ _ (by omega) (by omega) (by omega) F2 S2 (fun i hi => ?_)
        rw [(hpk.2 i (by omega)).1]
        by_cases z : i = k
        · subst z; exact hc102
        · exact G i (by omega)
      · replace hc102 := Decidable.not_not.mp (mt bI_0.mpr hc102)
        refine rk_aload_n rfl rfl ?_
        refine rk_iload rfl rfl ?_
        refine rk_cv1i rfl rfl (by assumption) rfl rfl (Nat.le_of_ble_eq_true rfl) (Nat.le_of_ble_eq_true rfl) (s237F c53 F S hBk (bfK_pre (W := 2744) (by omega)) (by omega) hc102 G) (fun w h1 hF => ?_)
        exact rk_ireturn rfl rfl ⟨_, _, rfl, hF⟩
theorem m268_x {X : ai_X} {h : ai_H} {v A : Nat → Int32} {N : Nat → Nat} (c0 : h[52]? = some (cMdl v)) (c1 : h[53]? = some (cI 2346 A)) (hN : HN N) (M : MH A N) {a b : Int32} (hx : ¬ (¬ b < 0 ∧ ¬ nI (N 0) ≤ b)) : Rk X am_268 3 (ai_loc (ai_mL am_268) [.ref 52, .int a, .int b]) [] h (Qe (-2) h) := by
  obtain ⟨a0, a1, a268, a269, a270, a271, apl, apc, aot, asg, awt⟩ := id M
  refine rk_aload_n rfl rfl ?_
  refine rk_iload_n rfl rfl ?_
  refine rk_cv1e rfl rfl (by assumption) rfl rfl (Nat.le_of_ble_eq_true rfl) (Nat.le_of_ble_eq_true rfl) (s207n c0 c1 a0 (by have := hN.n; omega) _) ?_
  refine rk_if_ne rfl rfl (fun hc6 => ?_) (fun hc6 => ?_)
  · replace hc6 := Decidable.not_not.mp (mt bI_0.mpr hc6)
    exact absurd hc6 hx
  · replace hc6 := Decidable.not_not.mp hc6
    replace hc6 := (bI_0).mp hc6
    refine rk_bipush (v := (-2)) rfl (by decide) ?_
    exact rk_ireturn rfl rfl Qe_mk
theorem w1_off {a : Int32} {n : Nat} (hn : n < 2 ^ 30) (h : ¬ a < nI 1 ∧ ¬ (nI n - nI 1) < a) : ¬ a < 0 ∧ ¬ nI n ≤ a := by
  refine (in_iff hn).mp ⟨fun z => h.1 ?_, h.2⟩
  rw [Int32.lt_iff_toInt_lt] at z ⊢
  have e0 : (0 : Int32).toInt = 0 := by decide
  have e1 : (nI 1).toInt = 1 := by decide
  omega
theorem w1_to {u n : Nat} (hn : n < 2 ^ 30) (h0 : 0 < u) (h : u < n) : ¬ nI u < nI 1 ∧ ¬ (nI n - nI 1) < nI u := ⟨fun z => by have := (nI_ltI (by omega) (by omega)).mp z; omega, ((in_iff hn).mpr (in_mk (by omega) h)).2⟩
theorem w23 {p : Nat} (hp : p ≤ 14) : (¬ nI p < nI 2 ∧ ¬ nI 3 < nI p) ↔ (p = 2 ∨ p = 3) := by
  rw [nI_ltI (by omega) (by omega), nI_ltI (by omega) (by omega)]
  omega
theorem pop_z (n : Nat) : pop 0 n = 0 := by
  induction n with
  | zero => rfl
  | succ n ih => rw [pop, ih]; simp
theorem m268_y {X : ai_X} {h : ai_H} {v A : Nat → Int32} {N : Nat → Nat} (c0 : h[52]? = some (cMdl v)) (c1 : h[53]? = some (cI 2346 A)) (hN : HN N) (M : MH A N) {a b : Int32} (hx : (¬ b < 0 ∧ ¬ nI (N 0) ≤ b)) (hy : ¬ (¬ a < 0 ∧ ¬ nI (2 ^ N 271) ≤ a)) : Rk X am_268 3 (ai_loc (ai_mL am_268) [.ref 52, .int a, .int b]) [] h (Qe (-3) h) := by
  obtain ⟨a0, a1, a268, a269, a270, a271, apl, apc, aot, asg, awt⟩ := id M
  have hw := hN.w
  have h256 := p256 hN
  refine rk_aload_n rfl rfl ?_
  refine rk_iload_n rfl rfl ?_
  refine rk_cv1e rfl rfl (by assumption) rfl rfl (Nat.le_of_ble_eq_true rfl) (Nat.le_of_ble_eq_true rfl) (s207n c0 c1 a0 (by have := hN.n; omega) _) ?_
  refine rk_if_ne rfl rfl (fun hc6 => ?_) (fun hc6 => ?_)
  · replace hc6 := Decidable.not_not.mp (mt bI_0.mpr hc6)
    refine rk_iload_n rfl rfl ?_
    refine rk_i2l rfl rfl ?_
    refine rk_lconst (v := 1) rfl (by decide) ?_
    rw [show (1 : Int64) = (nI 1).toInt64 by decide]
    refine rk_iconst (v := nI 1) rfl (by decide) ?_
    refine rk_aload_n rfl rfl ?_
    refine rk_get rfl (by assumption) rfl ?_
    refine rk_sipush (v := nI 271) rfl (by decide) ?_
    refine rk_iald rfl (by assumption) (rfl) (by omega) (by decide) ?_
    rw [a271]
    refine rk_ishl rfl (b_1shlU (by omega)) ?_
    refine rk_iconst (v := nI 1) rfl (by decide) ?_
    refine rk_isub rfl rfl ?_
    refine rk_i2l rfl rfl ?_
    refine rk_cs3e rfl rfl rfl (Nat.le_of_ble_eq_true rfl) (Nat.le_of_ble_eq_true rfl) (s181 _ _ _) ?_
    refine rk_if_eq rfl rfl (fun hc22 => ?_) (fun hc22 => ?_)
    · replace hc22 := (bI_0).mp hc22
      refine rk_bipush (v := (-3)) rfl (by decide) ?_
      exact rk_ireturn rfl rfl Qe_mk
    · replace hc22 := Decidable.not_not.mp (mt bI_0.mpr hc22)
      exact absurd (w1_off (by omega) hc22) hy
  · replace hc6 := Decidable.not_not.mp hc6
    replace hc6 := (bI_0).mp hc6
    exact absurd hx hc6
theorem m268_z {X : ai_X} {h : ai_H} {v A : Nat → Int32} {N : Nat → Nat} (c0 : h[52]? = some (cMdl v)) (c1 : h[53]? = some (cI 2346 A)) (hN : HN N) (M : MH A N) {u : Nat} {b : Int32} (hx : (¬ b < 0 ∧ ¬ nI (N 0) ≤ b)) (hu : u < 2 ^ N 271) (hy : ¬ (pop u 14 = 2 ∨ pop u 14 = 3)) : Rk X am_268 3 (ai_loc (ai_mL am_268) [.ref 52, .int (nI u), .int b]) [] h (Qe (-3) h) := by
  obtain ⟨a0, a1, a268, a269, a270, a271, apl, apc, aot, asg, awt⟩ := id M
  have hw := hN.w
  have h256 := p256 hN
  have hpl := pop_le u 14
  refine rk_aload_n rfl rfl ?_
  refine rk_iload_n rfl rfl ?_
  refine rk_cv1e rfl rfl (by assumption) rfl rfl (Nat.le_of_ble_eq_true rfl) (Nat.le_of_ble_eq_true rfl) (s207n c0 c1 a0 (by have := hN.n; omega) _) ?_
  refine rk_if_ne rfl rfl (fun hc6 => ?_) (fun hc6 => ?_)
  · replace hc6 := Decidable.not_not.mp (mt bI_0.mpr hc6)
    refine rk_iload_n rfl rfl ?_
    refine rk_i2l rfl rfl ?_
    refine rk_lconst (v := 1) rfl (by decide) ?_
    rw [show (1 : Int64) = (nI 1).toInt64 by decide]
    refine rk_iconst (v := nI 1) rfl (by decide) ?_
    refine rk_aload_n rfl rfl ?_
    refine rk_get rfl (by assumption) rfl ?_
    refine rk_sipush (v := nI 271) rfl (by decide) ?_
    refine rk_iald rfl (by assumption) (rfl) (by omega) (by decide) ?_
    rw [a271]
    refine rk_ishl rfl (b_1shlU (by omega)) ?_
    refine rk_iconst (v := nI 1) rfl (by decide) ?_
    refine rk_isub rfl rfl ?_
    refine rk_i2l rfl rfl ?_
    refine rk_cs3e rfl rfl rfl (Nat.le_of_ble_eq_true rfl) (Nat.le_of_ble_eq_true rfl) (s181 _ _ _) ?_
    refine rk_if_eq rfl rfl (fun hc22 => ?_) (fun hc22 => ?_)
    · replace hc22 := (bI_0).mp hc22
      refine rk_bipush (v := (-3)) rfl (by decide) ?_
      exact rk_ireturn rfl rfl Qe_mk
    · replace hc22 := Decidable.not_not.mp (mt bI_0.mpr hc22)
      refine rk_iload_n rfl rfl ?_
      refine rk_cs1e rfl rfl rfl (Nat.le_of_ble_eq_true rfl) (Nat.le_of_ble_eq_true rfl) (s213 (by omega)) ?_
      refine rk_i2l rfl rfl ?_
      refine rk_ldc2 rfl ?_
      rw [show (2 : Int64) = (nI 2).toInt64 by decide]
      refine rk_ldc2 rfl ?_
      rw [show (3 : Int64) = (nI 3).toInt64 by decide]
      refine rk_cs3e rfl rfl rfl (Nat.le_of_ble_eq_true rfl) (Nat.le_of_ble_eq_true rfl) (s181 _ _ _) ?_
      refine rk_if_ne rfl rfl (fun hc29 => ?_) (fun hc29 => ?_)
      · replace hc29 := Decidable.not_not.mp (mt bI_0.mpr hc29)
        exact absurd ((w23 hpl).mp hc29) hy
      · replace hc29 := Decidable.not_not.mp hc29
        replace hc29 := (bI_0).mp hc29
        refine rk_bipush (v := (-3)) rfl (by decide) ?_
        exact rk_ireturn rfl rfl Qe_mk
  · replace hc6 := Decidable.not_not.mp hc6
    replace hc6 := (bI_0).mp hc6
    exact absurd hx hc6
theorem l268a {X : ai_X} {h : ai_H} {v A : Nat → Int32} {N : Nat → Nat} (c0 : h[52]? = some (cMdl v)) (c1 : h[53]? = some (cI 2346 A)) (hN : HN N) (M : MH A N) {u r : Nat} (hu : u < 2 ^ N 271) (hn : N23 (pop u 14)) (hr : r < N 0) {P : ai_O → Prop} (z : Rk X am_268 67 [some (.ref 52), some (.int (nI u)), some (.int (nI r)), some (.int (nI (f4 (yL N u) (pop u 14)))), some (.int (nI (pop u 14))), some (.int (nI (N 271))), none, none] [] h P) : ∀ (d : Nat) (w : Nat), N 271 < w + d → (w ≤ N 271) → Rk X am_268 38 [some (.ref 52), some (.int (nI u)), some (.int (nI r)), some (.int (nI (f4 (gs N u w) (pop u w)))), some (.int (nI (pop u w))), some (.int (nI w)), none, none] [] h (P) := by
  intro d
  induction d with
  | zero => intro w hd hw2; exfalso; omega
  | succ d ih =>
    intro w hd hw2
    obtain ⟨a0, a1, a268, a269, a270, a271, apl, apc, aot, asg, awt⟩ := id M
    have hw := hN.w
    have h256 := p256 hN
    have h14 := hN.n
    have hpn := pop_n hN hu
    have hpl := pop_le u w
    have hpm := pop_mono (u := u) (a := w) (N 271 - w)
    rw [show w + (N 271 - w) = N 271 by omega] at hpm
    have hgl : ∀ i, i < pop u w → gs N u w i < 16 := fun i hi => by have := gs_lt hN w hw2 i hi; omega
    have hwt : w < N 271 → wt N w < N 0 := fun y => hN.xwt y
    refine rk_iload rfl rfl ?_
    refine rk_aload_n rfl rfl ?_
    refine rk_get rfl (by assumption) rfl ?_
    refine rk_sipush (v := nI 271) rfl (by decide) ?_
    refine rk_iald rfl (by assumption) (rfl) (by omega) (by decide) ?_
    rw [a271]
    refine rk_icmp_ge rfl rfl (fun hc43 => ?_) (fun hc43 => ?_)
    · replace hc43 := (nI_leI (by omega) (by omega)).mp hc43
      have hw3 : w = N 271 := by omega
      subst hw3
      rw [hpn]
      exact z
    · replace hc43 := mt (nI_leI (by omega) (by omega)).mpr hc43
      refine rk_iload_n rfl rfl ?_
      refine rk_iload rfl rfl ?_
      refine rk_ishr rfl (b_shr (by omega) (by omega)) ?_
      refine rk_iconst (v := nI 1) rfl (by decide) ?_
      refine rk_iand rfl (b_and1U _) ?_
      refine rk_if_ne rfl rfl (fun hc49 => ?_) (fun hc49 => ?_)
      · replace hc49 := mt (n0_eq (by omega)).mpr hc49
        have hp1 := pop_1 hc49
        have hpm2 := pop_mono (u := u) (a := w + 1) (N 271 - (w + 1))
        rw [show w + 1 + (N 271 - (w + 1)) = N 271 by omega] at hpm2
        refine rk_iload_n rfl rfl ?_
        refine rk_aload_n rfl rfl ?_
        refine rk_get rfl (by assumption) rfl ?_
        refine rk_sipush (v := nI 272) rfl (by decide) ?_
        refine rk_iload rfl rfl ?_
        refine rk_iadd rfl (nI_add _ _) ?_
        refine rk_iald rfl (by assumption) (rfl) (by omega) (by decide) ?_
        rw [awt w (by omega)]
        replace hwt := hwt (by omega)
        refine rk_iconst (v := nI 4) rfl (by decide) ?_
        refine rk_iload rfl rfl ?_
        refine rk_imul rfl (pk_mul _ _) ?_
        refine rk_ishl rfl (b_shlU _ (by omega)) ?_
        refine rk_ior rfl (b_orU _ _) ?_
        rw [f4_or hgl]
        refine rk_istore_n rfl (Nat.le_of_ble_eq_true rfl) rfl ?_
        refine rk_iinc rfl rfl (n_inc _) rfl ?_
        refine rk_iinc rfl rfl (n_inc _) rfl ?_
        refine rk_goto rfl rfl ?_
        have z2 := ih (w + 1) (by omega) (by omega)
        have hst : f4 (gs N u (w + 1)) (pop u (w + 1)) = f4 (gs N u w) (pop u w) + wt N w * 2 ^ (4 * pop u w) := by
          rw [pop_1 hc49, gs_1 hc49, f4, un_s, f4_cg (y := un (gs N u w) (pop u w) (wt N w)) (z := gs N u w) (pop u w) (fun i hi => un_n (by omega))]
        rw [hst, pop_1 hc49] at z2
        exact z2
      · replace hc49 := Decidable.not_not.mp hc49
        replace hc49 := (n0_eq (by omega)).mp hc49
        refine rk_goto rfl rfl ?_
        refine rk_iinc rfl rfl (n_inc _) rfl ?_
        refine rk_goto rfl rfl ?_
        have z2 := ih (w + 1) (by omega) (by omega)
        rw [pop_0 hc49, gs_0 hc49] at z2
        exact z2
theorem first_eq {N : Nat → Nat} {u : Nat} (hN : HN N) (hu : u < 2 ^ N 271) (hn : N23 (pop u 14)) : r1L (pop u 14) (xL N u) = f4 (yL N u) (pop u 14) ||| (if pop u 14 = 2 then 3840 else 0) := by
  obtain ⟨hy, hvx, hdg⟩ := xL_v hN hu hn
  have h14 := hN.n
  have e1 : r1L (pop u 14) (xL N u) = f4 (nb (pop u 14) (yL N u)) 3 := f4_cg 3 (fun i _ => by
    unfold nb
    split
    · exact hdg i (by assumption)
    · rfl)
  have hyl : ∀ i, i < pop u 14 → yL N u i < 16 := fun i hi => by have := hy i hi; omega
  rw [e1]
  rcases hn with z | z
  · rw [z] at hyl ⊢
    rw [if_pos rfl]
    have := f4_or (v := 15) hyl
    rw [show (3840 : Nat) = 15 * 2 ^ (4 * 2) by decide, this, f4, f4_cg (y := nb 2 (yL N u)) (z := yL N u) 2 (fun i hi => if_pos hi), show nb 2 (yL N u) 2 = 15 from if_neg (by decide)]
  · rw [z, if_neg (by decide), Nat.or_zero]
    exact f4_cg 3 (fun i hi => if_pos hi)
theorem m268_a {X : ai_X} {h : ai_H} {v A : Nat → Int32} {N : Nat → Nat} {mk : Nat} (c0 : h[52]? = some (cMdl v)) (c1 : h[53]? = some (cI 2346 A)) (hN : HN N) (M : MH A N) (H : MQs h mk) {u r : Nat} (hu : u < 2 ^ N 271) (hn : N23 (pop u 14)) (hr : r < N 0) (hbd : ¬ bad N (yL N u) (pop u 14) = 0) : Rk X am_268 3 (ai_loc (ai_mL am_268) [.ref 52, .int (nI u), .int (nI r)]) [] h (Qi (fun y h1 => y = -1 ∧ FrF h h1 ∧ MW h1 v (mk + 1) ∧ h1[53]? = some (cI 2346 A))) := by
  obtain ⟨a0, a1, a268, a269, a270, a271, apl, apc, aot, asg, awt⟩ := id M
  have hw := hN.w
  have h256 := p256 hN
  have h14 := hN.n
  have hpl := pop_le u 14
  have hpw : 0 < u := Nat.pos_of_ne_zero (fun z => by rw [z, pop_z] at hn; omega)
  obtain ⟨hy, hvx, hdg⟩ := xL_v hN hu hn
  have hbq : bad N (dgt (xL N u)) (pop u 14) = bad N (yL N u) (pop u 14) := bad_cg hdg
  refine rk_aload_n rfl rfl ?_
  refine rk_iload_n rfl rfl ?_
  refine rk_cv1e rfl rfl (by assumption) rfl rfl (Nat.le_of_ble_eq_true rfl) (Nat.le_of_ble_eq_true rfl) (s207n c0 c1 a0 (by have := hN.n; omega) _) ?_
  refine rk_if_ne rfl rfl (fun hc6 => ?_) (fun hc6 => ?_)
  · replace hc6 := Decidable.not_not.mp (mt bI_0.mpr hc6)
    refine rk_iload_n rfl rfl ?_
    refine rk_i2l rfl rfl ?_
    refine rk_lconst (v := 1) rfl (by decide) ?_
    rw [show (1 : Int64) = (nI 1).toInt64 by decide]
    refine rk_iconst (v := nI 1) rfl (by decide) ?_
    refine rk_aload_n rfl rfl ?_
    refine rk_get rfl (by assumption) rfl ?_
    refine rk_sipush (v := nI 271) rfl (by decide) ?_
    refine rk_iald rfl (by assumption) (rfl) (by omega) (by decide) ?_
    rw [a271]
    refine rk_ishl rfl (b_1shlU (by omega)) ?_
    refine rk_iconst (v := nI 1) rfl (by decide) ?_
    refine rk_isub rfl rfl ?_
    refine rk_i2l rfl rfl ?_
    refine rk_cs3e rfl rfl rfl (Nat.le_of_ble_eq_true rfl) (Nat.le_of_ble_eq_true rfl) (s181 _ _ _) ?_
    refine rk_if_eq rfl rfl (fun hc22 => ?_) (fun hc22 => ?_)
    · replace hc22 := (bI_0).mp hc22
      exact absurd (w1_to (by omega) hpw hu) hc22
    · replace hc22 := Decidable.not_not.mp (mt bI_0.mpr hc22)
      refine rk_iload_n rfl rfl ?_
      refine rk_cs1e rfl rfl rfl (Nat.le_of_ble_eq_true rfl) (Nat.le_of_ble_eq_true rfl) (s213 (by omega)) ?_
      refine rk_i2l rfl rfl ?_
      refine rk_ldc2 rfl ?_
      rw [show (2 : Int64) = (nI 2).toInt64 by decide]
      refine rk_ldc2 rfl ?_
      rw [show (3 : Int64) = (nI 3).toInt64 by decide]
      refine rk_cs3e rfl rfl rfl (Nat.le_of_ble_eq_true rfl) (Nat.le_of_ble_eq_true rfl) (s181 _ _ _) ?_
      refine rk_if_ne rfl rfl (fun hc29 => ?_) (fun hc29 => ?_)
      · replace hc29 := Decidable.not_not.mp (mt bI_0.mpr hc29)
        refine rk_iconst (v := nI 0) rfl (by decide) ?_
        refine rk_istore_n rfl (Nat.le_of_ble_eq_true rfl) rfl ?_
        refine rk_iconst (v := nI 0) rfl (by decide) ?_
        refine rk_istore rfl (Nat.le_of_ble_eq_true rfl) rfl ?_
        refine rk_iconst (v := nI 0) rfl (by decide) ?_
        refine rk_istore rfl (Nat.le_of_ble_eq_true rfl) rfl ?_
        refine l268a c0 c1 hN M hu hn hr ?_ (N 271 + 1) 0 (by omega) (by omega)
        refine rk_iload_n rfl rfl ?_
        refine rk_iload rfl rfl ?_
        refine rk_iconst (v := nI 2) rfl (by decide) ?_
        refine rk_icmp_ne rfl rfl (fun hc70 => ?_) (fun hc70 => ?_)
        · replace hc70 := mt (nI_eq (by omega) (by omega)).mpr hc70
          refine rk_iconst (v := nI 0) rfl (by decide) ?_
          refine rk_ior rfl (b_orU _ _) ?_
          refine rk_istore_n rfl (Nat.le_of_ble_eq_true rfl) rfl ?_
          have hfe := first_eq hN hu hn
          first
            | rw [if_pos hc70] at hfe
            | rw [if_neg hc70] at hfe
          rw [← hfe]
          have hrl := r1L_lt hN hvx
          refine rk_aload_n rfl rfl ?_
          refine rk_cv0v rfl rfl (by assumption) rfl rfl (Nat.le_of_ble_eq_true rfl) (Nat.le_of_ble_eq_true rfl) (s231Q H c0) (fun h1 hF => ?_)
          obtain ⟨F1, E1⟩ := hF
          obtain ⟨v1, e52⟩ := E1.obj
          have e53 := (F1.2 53 (by omega) (by omega)).trans c1
          refine rk_aload_n rfl rfl ?_
          refine rk_iload_n rfl rfl ?_
          refine rk_cv1e rfl rfl (by assumption) rfl rfl (Nat.le_of_ble_eq_true rfl) (Nat.le_of_ble_eq_true rfl) (s265 e52 e53 hN M hn hvx) ?_
          refine rk_if_eq rfl rfl (fun hc81 => ?_) (fun hc81 => ?_)
          · replace hc81 := (bI_0).mp hc81
            refine rk_iconst (v := nI 0) rfl (by decide) ?_
            refine rk_istore rfl (Nat.le_of_ble_eq_true rfl) rfl ?_
            have hv21 : ∃ v2, h1[52]? = some (cMdl v2) ∧ v2 21 = nI 0 := by
              obtain ⟨v2, _, _, _, _, _, _, _, ⟨y0, y1, _⟩, _⟩ := E1
              exact ⟨v2, y0, y1⟩
            obtain ⟨v2, g52, g21⟩ := hv21
            refine rk_iload rfl rfl ?_
            refine rk_aload_n rfl rfl ?_
            refine rk_get rfl g52 rfl ?_
            rw [g21]
            refine rk_icmp_ge rfl rfl (fun _ => ?_) (fun hz => absurd (by decide) hz)
            refine rk_iconst (v := (-1)) rfl (by decide) ?_
            exact rk_ireturn rfl rfl ⟨_, _, rfl, rfl, F1.f, E1.mw, e53⟩
          · replace hc81 := Decidable.not_not.mp (mt bI_0.mpr hc81)
            exact absurd (hbq.symm.trans hc81) hbd
        · replace hc70 := Decidable.not_not.mp hc70
          replace hc70 := (nI_eq (by omega) (by omega)).mp hc70
          refine rk_sipush (v := nI 3840) rfl (by decide) ?_
          refine rk_goto rfl rfl ?_
          refine rk_ior rfl (b_orU _ _) ?_
          refine rk_istore_n rfl (Nat.le_of_ble_eq_true rfl) rfl ?_
          have hfe := first_eq hN hu hn
          first
            | rw [if_pos hc70] at hfe
            | rw [if_neg hc70] at hfe
          rw [← hfe]
          have hrl := r1L_lt hN hvx
          refine rk_aload_n rfl rfl ?_
          refine rk_cv0v rfl rfl (by assumption) rfl rfl (Nat.le_of_ble_eq_true rfl) (Nat.le_of_ble_eq_true rfl) (s231Q H c0) (fun h1 hF => ?_)
          obtain ⟨F1, E1⟩ := hF
          obtain ⟨v1, e52⟩ := E1.obj
          have e53 := (F1.2 53 (by omega) (by omega)).trans c1
          refine rk_aload_n rfl rfl ?_
          refine rk_iload_n rfl rfl ?_
          refine rk_cv1e rfl rfl (by assumption) rfl rfl (Nat.le_of_ble_eq_true rfl) (Nat.le_of_ble_eq_true rfl) (s265 e52 e53 hN M hn hvx) ?_
          refine rk_if_eq rfl rfl (fun hc81 => ?_) (fun hc81 => ?_)
          · replace hc81 := (bI_0).mp hc81
            refine rk_iconst (v := nI 0) rfl (by decide) ?_
            refine rk_istore rfl (Nat.le_of_ble_eq_true rfl) rfl ?_
            have hv21 : ∃ v2, h1[52]? = some (cMdl v2) ∧ v2 21 = nI 0 := by
              obtain ⟨v2, _, _, _, _, _, _, _, ⟨y0, y1, _⟩, _⟩ := E1
              exact ⟨v2, y0, y1⟩
            obtain ⟨v2, g52, g21⟩ := hv21
            refine rk_iload rfl rfl ?_
            refine rk_aload_n rfl rfl ?_
            refine rk_get rfl g52 rfl ?_
            rw [g21]
            refine rk_icmp_ge rfl rfl (fun _ => ?_) (fun hz => absurd (by decide) hz)
            refine rk_iconst (v := (-1)) rfl (by decide) ?_
            exact rk_ireturn rfl rfl ⟨_, _, rfl, rfl, F1.f, E1.mw, e53⟩
          · replace hc81 := Decidable.not_not.mp (mt bI_0.mpr hc81)
            exact absurd (hbq.symm.trans hc81) hbd
      · replace hc29 := Decidable.not_not.mp hc29
        replace hc29 := (bI_0).mp hc29
        exact absurd ((w23 hpl).mpr hn) hc29
  · replace hc6 := Decidable.not_not.mp hc6
    replace hc6 := (bI_0).mp hc6
    exact absurd (in_mk (by omega) hr) hc6
theorem m268_b {X : ai_X} {h : ai_H} {v A : Nat → Int32} {N : Nat → Nat} {mk : Nat} (c0 : h[52]? = some (cMdl v)) (c1 : h[53]? = some (cI 2346 A)) (hN : HN N) (M : MH A N) (H : MQs h mk) {u r : Nat} (hu : u < 2 ^ N 271) (hn : N23 (pop u 14)) (hr : r < N 0) (hbd : bad N (yL N u) (pop u 14) = 0) : Rk X am_268 3 (ai_loc (ai_mL am_268) [.ref 52, .int (nI u), .int (nI r)]) [] h (Qi (fun y h1 => y = ans (bfK (nxL N (pop u 14)) (okL N (pop u 14)) (N 1) (xL N u) 2744) (glL (pop u 14) r) ∧ FrF h h1 ∧ MW h1 v (mk + 1) ∧ ∃ A1, h1[53]? = some (cI 2346 A1) ∧ MF A A1 y (bfK (nxL N (pop u 14)) (okL N (pop u 14)) (N 1) (xL N u) 2744) (glL (pop u 14) r))) := by
  obtain ⟨a0, a1, a268, a269, a270, a271, apl, apc, aot, asg, awt⟩ := id M
  have hw := hN.w
  have h256 := p256 hN
  have h14 := hN.n
  have hpl := pop_le u 14
  have hpw : 0 < u := Nat.pos_of_ne_zero (fun z => by rw [z, pop_z] at hn; omega)
  obtain ⟨hy, hvx, hdg⟩ := xL_v hN hu hn
  have hbq : bad N (dgt (xL N u)) (pop u 14) = bad N (yL N u) (pop u 14) := bad_cg hdg
  refine rk_aload_n rfl rfl ?_
  refine rk_iload_n rfl rfl ?_
  refine rk_cv1e rfl rfl (by assumption) rfl rfl (Nat.le_of_ble_eq_true rfl) (Nat.le_of_ble_eq_true rfl) (s207n c0 c1 a0 (by have := hN.n; omega) _) ?_
  refine rk_if_ne rfl rfl (fun hc6 => ?_) (fun hc6 => ?_)
  · replace hc6 := Decidable.not_not.mp (mt bI_0.mpr hc6)
    refine rk_iload_n rfl rfl ?_
    refine rk_i2l rfl rfl ?_
    refine rk_lconst (v := 1) rfl (by decide) ?_
    rw [show (1 : Int64) = (nI 1).toInt64 by decide]
    refine rk_iconst (v := nI 1) rfl (by decide) ?_
    refine rk_aload_n rfl rfl ?_
    refine rk_get rfl (by assumption) rfl ?_
    refine rk_sipush (v := nI 271) rfl (by decide) ?_
    refine rk_iald rfl (by assumption) (rfl) (by omega) (by decide) ?_
    rw [a271]
    refine rk_ishl rfl (b_1shlU (by omega)) ?_
    refine rk_iconst (v := nI 1) rfl (by decide) ?_
    refine rk_isub rfl rfl ?_
    refine rk_i2l rfl rfl ?_
    refine rk_cs3e rfl rfl rfl (Nat.le_of_ble_eq_true rfl) (Nat.le_of_ble_eq_true rfl) (s181 _ _ _) ?_
    refine rk_if_eq rfl rfl (fun hc22 => ?_) (fun hc22 => ?_)
    · replace hc22 := (bI_0).mp hc22
      exact absurd (w1_to (by omega) hpw hu) hc22
    · replace hc22 := Decidable.not_not.mp (mt bI_0.mpr hc22)
      refine rk_iload_n rfl rfl ?_
      refine rk_cs1e rfl rfl rfl (Nat.le_of_ble_eq_true rfl) (Nat.le_of_ble_eq_true rfl) (s213 (by omega)) ?_
      refine rk_i2l rfl rfl ?_
      refine rk_ldc2 rfl ?_
      rw [show (2 : Int64) = (nI 2).toInt64 by decide]
      refine rk_ldc2 rfl ?_
      rw [show (3 : Int64) = (nI 3).toInt64 by decide]
      refine rk_cs3e rfl rfl rfl (Nat.le_of_ble_eq_true rfl) (Nat.le_of_ble_eq_true rfl) (s181 _ _ _) ?_
      refine rk_if_ne rfl rfl (fun hc29 => ?_) (fun hc29 => ?_)
      · replace hc29 := Decidable.not_not.mp (mt bI_0.mpr hc29)
        refine rk_iconst (v := nI 0) rfl (by decide) ?_
        refine rk_istore_n rfl (Nat.le_of_ble_eq_true rfl) rfl ?_
        refine rk_iconst (v := nI 0) rfl (by decide) ?_
        refine rk_istore rfl (Nat.le_of_ble_eq_true rfl) rfl ?_
        refine rk_iconst (v := nI 0) rfl (by decide) ?_
        refine rk_istore rfl (Nat.le_of_ble_eq_true rfl) rfl ?_
        refine l268a c0 c1 hN M hu hn hr ?_ (N 271 + 1) 0 (by omega) (by omega)
        refine rk_iload_n rfl rfl ?_
        refine rk_iload rfl rfl ?_
        refine rk_iconst (v := nI 2) rfl (by decide) ?_
        refine rk_icmp_ne rfl rfl (fun hc70 => ?_) (fun hc70 => ?_)
        · replace hc70 := mt (nI_eq (by omega) (by omega)).mpr hc70
          refine rk_iconst (v := nI 0) rfl (by decide) ?_
          refine rk_ior rfl (b_orU _ _) ?_
          refine rk_istore_n rfl (Nat.le_of_ble_eq_true rfl) rfl ?_
          have hfe := first_eq hN hu hn
          first
            | rw [if_pos hc70] at hfe
            | rw [if_neg hc70] at hfe
          rw [← hfe]
          have hrl := r1L_lt hN hvx
          refine rk_aload_n rfl rfl ?_
          refine rk_cv0v rfl rfl (by assumption) rfl rfl (Nat.le_of_ble_eq_true rfl) (Nat.le_of_ble_eq_true rfl) (s231Q H c0) (fun h1 hF => ?_)
          obtain ⟨F1, E1⟩ := hF
          obtain ⟨v1, e52⟩ := E1.obj
          have e53 := (F1.2 53 (by omega) (by omega)).trans c1
          refine rk_aload_n rfl rfl ?_
          refine rk_iload_n rfl rfl ?_
          refine rk_cv1e rfl rfl (by assumption) rfl rfl (Nat.le_of_ble_eq_true rfl) (Nat.le_of_ble_eq_true rfl) (s265 e52 e53 hN M hn hvx) ?_
          refine rk_if_eq rfl rfl (fun hc81 => ?_) (fun hc81 => ?_)
          · replace hc81 := (bI_0).mp hc81
            exact absurd (hbq.trans hbd) hc81
          · replace hc81 := Decidable.not_not.mp (mt bI_0.mpr hc81)
            refine rk_aload_n rfl rfl ?_
            refine rk_iload_n rfl rfl ?_
            refine rk_iconst (v := nI 0) rfl (by decide) ?_
            refine rk_iconst (v := (-1)) rfl (by decide) ?_
            refine rk_iconst (v := (-1)) rfl (by decide) ?_
            refine rk_cv4i rfl rfl (by assumption) rfl rfl (Nat.le_of_ble_eq_true rfl) (Nat.le_of_ble_eq_true rfl) (s232RC (r1 := r1L (pop u 14)) (r2 := ze1) (x := xL N u) E1 rfl rfl (by omega) (by omega)) (fun w h1 hF => ?_)
            obtain ⟨rfl, F2, S2⟩ := hF
            refine rk_pop rfl ?_
            refine rk_iconst (v := nI 0) rfl (by decide) ?_
            refine rk_istore rfl (Nat.le_of_ble_eq_true rfl) rfl ?_
            exact l268 c1 hN M hn hvx hr 2745 0 _ _ _ (by omega) (by omega) (by omega) (F1.tr F2) S2 (fun i hi => absurd hi (by omega))
        · replace hc70 := Decidable.not_not.mp hc70
          replace hc70 := (nI_eq (by omega) (by omega)).mp hc70
          refine rk_sipush (v := nI 3840) rfl (by decide) ?_
          refine rk_goto rfl rfl ?_
          refine rk_ior rfl (b_orU _ _) ?_
          refine rk_istore_n rfl (Nat.le_of_ble_eq_true rfl) rfl ?_
          have hfe := first_eq hN hu hn
          first
            | rw [if_pos hc70] at hfe
            | rw [if_neg hc70] at hfe
          rw [← hfe]
          have hrl := r1L_lt hN hvx
          refine rk_aload_n rfl rfl ?_
          refine rk_cv0v rfl rfl (by assumption) rfl rfl (Nat.le_of_ble_eq_true rfl) (Nat.le_of_ble_eq_true rfl) (s231Q H c0) (fun h1 hF => ?_)
          obtain ⟨F1, E1⟩ := hF
          obtain ⟨v1, e52⟩ := E1.obj
          have e53 := (F1.2 53 (by omega) (by omega)).trans c1
          refine rk_aload_n rfl rfl ?_
          refine rk_iload_n rfl rfl ?_
          refine rk_cv1e rfl rfl (by assumption) rfl rfl (Nat.le_of_ble_eq_true rfl) (Nat.le_of_ble_eq_true rfl) (s265 e52 e53 hN M hn hvx) ?_
          refine rk_if_eq rfl rfl (fun hc81 => ?_) (fun hc81 => ?_)
          · replace hc81 := (bI_0).mp hc81
            exact absurd (hbq.trans hbd) hc81
          · replace hc81 := Decidable.not_not.mp (mt bI_0.mpr hc81)
            refine rk_aload_n rfl rfl ?_
            refine rk_iload_n rfl rfl ?_
            refine rk_iconst (v := nI 0) rfl (by decide) ?_
            refine rk_iconst (v := (-1)) rfl (by decide) ?_
            refine rk_iconst (v := (-1)) rfl (by decide) ?_
            refine rk_cv4i rfl rfl (by assumption) rfl rfl (Nat.le_of_ble_eq_true rfl) (Nat.le_of_ble_eq_true rfl) (s232RC (r1 := r1L (pop u 14)) (r2 := ze1) (x := xL N u) E1 rfl rfl (by omega) (by omega)) (fun w h1 hF => ?_)
            obtain ⟨rfl, F2, S2⟩ := hF
            refine rk_pop rfl ?_
            refine rk_iconst (v := nI 0) rfl (by decide) ?_
            refine rk_istore rfl (Nat.le_of_ble_eq_true rfl) rfl ?_
            exact l268 c1 hN M hn hvx hr 2745 0 _ _ _ (by omega) (by omega) (by omega) (F1.tr F2) S2 (fun i hi => absurd hi (by omega))
      · replace hc29 := Decidable.not_not.mp hc29
        replace hc29 := (bI_0).mp hc29
        exact absurd ((w23 hpl).mpr hn) hc29
  · replace hc6 := Decidable.not_not.mp hc6
    replace hc6 := (bI_0).mp hc6
    exact absurd (in_mk (by omega) hr) hc6
theorem ob30 (X : ai_X) : O30 X Inv := by
  intro a0 a1
  refine ob_cells fun m c s h hm I => ?_
  obtain ⟨tp, T, A, im, rs, rm, nu, fk, fp, b, hP⟩ := id I
  obtain ⟨N, mk, hN, C, M, -, hV, hFV, H, hmk, hv⟩ := Inv.sdat hP hm
  obtain ⟨hA, hB, hR, hI, hS, hO, hM, hVV, hD, hc, hs⟩ := id hP
  obtain ⟨v, d52⟩ := I.m52
  have d53 := hM.2.1
  have d0 := hA.1
  have h80 := hM.len
  have h256 := p256 hN
  have h14 := hN.n
  by_cases hx : ¬ a1 < 0 ∧ ¬ nI (N 0) ≤ a1
  · by_cases hy : ¬ a0 < 0 ∧ ¬ nI (2 ^ N 271) ≤ a0
    · obtain ⟨u, hu, rfl⟩ := in_of (by omega) hy
      by_cases hn : pop u 14 = 2 ∨ pop u 14 = 3
      · obtain ⟨r, hr, rfl⟩ := in_of (by omega) hx
        obtain ⟨S2, S3, -, f25, c25, hf⟩ := id hS
        obtain ⟨-, R9, ⟨n0, f0, R, hFC⟩, R17⟩ := id hB
        obtain ⟨n33, d33⟩ := hO.2.1
        have A0 : ShI h 35 3 := hO.2.2.2.2.2.2.2.2.2.2.2.2.1
        by_cases hbd : bad N (yL N u) (pop u 14) = 0
        · have hb2 : ∀ p, b 2 = some p → 80 ≤ p := fun p e => (hD 2 p (by omega) e).1
          have hp80 := np_80 hb2 h80
          refine ⟨_, _, _, _, c161_b d0 hN C d33 A0 R S2 hb2 h80 ⟨f25, c25, hf⟩ hu hn hr hbd, ?_⟩
          rintro h1 E k1
          have kq : ∀ q : Nat, 44 ≤ q → q < 80 → h1[q]? = h[q]? := fun q a1 a2 => E.2.1 q (by omega) (by omega) (by omega) (by omega) (by omega) (by omega) (by omega) (by omega)
          have e52 := (kq 52 (by omega) (by omega)).trans d52
          refine ⟨⟨_, e52⟩, md_g rfl rfl rfl rfl e52 (fun h2 g2 hk hl => ?_)⟩
          have H2 : MQs h2 mk := H.fr (fun q a1 a2 => (hk q (by omega)).trans (kq q (by omega) (by omega))) d52 g2 rfl
          refine (m268_b g2 ((hk 53 (by omega)).trans ((kq 53 (by omega) (by omega)).trans d53)) hN M H2 hu hn hr hbd).mono ?_
          rintro o ⟨y, h3, e1, hy, F3, w3, A1, c53, mf⟩
          subst e1
          exact ⟨_, _, rfl, hy, fun k2 => fin2 hP hV hFV (by omega) (hv v d52) E hk F3 w3 c53 mf (BI.heads 2744) hl (k1.trans k2)⟩
        · refine ⟨-1, 0, 0, _, Qn_0 (c161_a d0 hN C d33 A0 R hu hn hr hbd), ?_⟩
          rintro h1 ⟨F1, e33⟩ k1
          have e52 := (F1.2 52 (by omega)).trans d52
          refine ⟨⟨_, e52⟩, md_g rfl rfl rfl rfl e52 (fun h2 g2 hk hl => ?_)⟩
          have H2 : MQs h2 mk := H.fr (fun q a1 a2 => (hk q (by omega)).trans (F1.2 q (by omega))) d52 g2 rfl
          refine (m268_a g2 ((hk 53 (by omega)).trans ((F1.2 53 (by omega)).trans d53)) hN M H2 hu hn hr hbd).mono ?_
          rintro o ⟨y, h3, e1, hy, F3, w3, c53⟩
          subst e1
          refine ⟨_, _, rfl, hy, fun k2 => fin0 hP hV (by omega) (hv v d52) F1.1 (fun q hq => F1.2 q (by omega)) ?_ ⟨_, e33⟩ hk hl F3 w3 c53 (fun _ _ => rfl) ?_ hFV (k1.trans k2)⟩
          · obtain ⟨n, f, z⟩ := R17
            exact ⟨n, f, z.fr (fun q _ _ => F1.2 q (by omega))⟩
          · exact ⟨n0, f0, R.fr (fun q _ _ => (F3.2 q (by omega) (by omega) (by omega)).trans ((hk q (by omega)).trans (F1.2 q (by omega)))), hFC⟩
      · exact og_cells (og_pure I (c161_z d0 hN C hx hu hn) (md_thr rfl rfl rfl rfl d52 (fun h2 g2 hk => m268_z g2 ((hk 53 (by omega)).trans d53) hN M hx hu hn)))
    · exact og_cells (og_pure I (c161_y d0 hN C hx hy) (md_thr rfl rfl rfl rfl d52 (fun h2 g2 hk => m268_y g2 ((hk 53 (by omega)).trans d53) hN M hx hy)))
  · exact og_cells (og_pure I (c161_x d0 hN C hx) (md_thr rfl rfl rfl rfl d52 (fun h2 g2 hk => m268_x g2 ((hk 53 (by omega)).trans d53) hN M hx)))
