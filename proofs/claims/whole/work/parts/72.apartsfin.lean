/-! APARTS: the obligation -/
theorem c164_v {X : ai_X} {h : ai_H} {tp : Int32} {N : Nat → Nat} (d0 : h[0]? = some (cOne tp)) (hN : HN N) (C : CH h 3 N) {a b L : Nat} (d27 : h[27]? = some cPa) (S32 : ShJ h 32 196) (R15 : ∃ n f, RouteAt h 15 n f) (ha : a < N 271) (hb : b < N 271) (hab : ¬ a = b) (hL : L ≤ 40) : Mt X am_164 [.ref 0, .int (nI a), .int (nI b), .int (nI L)] h (Qi (fun w h1 => (w = if 0 < wA N L (wt N a * 14 + wt N b) then nI L else -1) ∧ h1.length = h.length ∧ (∀ q : Nat, q ≠ 15 → q ≠ 16 → q ≠ 32 → h1[q]? = h[q]?) ∧ ((¬ 0 < wA N L (wt N a * 14 + wt N b) ∧ h1[15]? = h[15]? ∧ h1[16]? = h[16]?) ∨ (0 < wA N L (wt N a * 14 + wt N b) ∧ RtAt h1 15 L (gxA N L (wt N a) (wt N b)))))) := by
  have e3 := C.1
  have hw8 := hN.w
  refine rk_aload_n rfl rfl ?_
  refine rk_iload_n rfl rfl ?_
  refine rk_iload_n rfl rfl ?_
  refine rk_cv2e rfl rfl (by assumption) rfl rfl (Nat.le_of_ble_eq_true rfl) (Nat.le_of_ble_eq_true rfl) (s165 d0 hN C (nI a) (nI b)) ?_
  refine rk_if_ne rfl rfl (fun hc4 => ?_) (fun hc4 => ?_)
  · replace hc4 := Decidable.not_not.mp (mt bI_0.mpr hc4)
    refine rk_iload_n rfl rfl ?_
    refine rk_if_lt rfl rfl (fun hc8 => ?_) (fun hc8 => ?_)
    · replace hc8 := (n0_lt (by omega)).mp hc8
      exact hc8.elim
    · replace hc8 := mt (n0_lt (by omega)).mpr hc8
      refine rk_iload_n rfl rfl ?_
      refine rk_bipush (v := nI 40) rfl (by decide) ?_
      refine rk_icmp_le rfl rfl (fun hc11 => ?_) (fun hc11 => ?_)
      · replace hc11 := (nI_leI (by omega) (by omega)).mp hc11
        refine rk_aload_n rfl rfl ?_
        refine rk_get rfl (by assumption) rfl ?_
        refine rk_aload_n rfl rfl ?_
        refine rk_get rfl (by assumption) rfl ?_
        refine rk_aload_n rfl rfl ?_
        refine rk_get rfl (by assumption) rfl ?_
        refine rk_iload_n rfl rfl ?_
        refine rk_cv1e rfl rfl (by assumption) rfl rfl (Nat.le_of_ble_eq_true rfl) (Nat.le_of_ble_eq_true rfl) (s31N C ha hN) ?_
        refine rk_aload_n rfl rfl ?_
        refine rk_get rfl (by assumption) rfl ?_
        refine rk_iload_n rfl rfl ?_
        refine rk_cv1e rfl rfl (by assumption) rfl rfl (Nat.le_of_ble_eq_true rfl) (Nat.le_of_ble_eq_true rfl) (s31N C hb hN) ?_
        refine rk_iload_n rfl rfl ?_
        refine rk_aload_n rfl rfl ?_
        refine rk_get rfl (by assumption) rfl ?_
        refine rk_cv5i rfl rfl (by assumption) rfl rfl (Nat.le_of_ble_eq_true rfl) (Nat.le_of_ble_eq_true rfl) (s65 hN C d27 (hN.xwt ha) (hN.xwt hb) hL S32 R15) (fun w h1 hF => ?_)
        obtain ⟨l1, K1, hh⟩ := hF
        rcases hh with ⟨y1, y2, y3, y4⟩ | ⟨y1, y2, y3⟩
        · exact rk_ireturn rfl rfl ⟨_, _, rfl, y2.trans (if_neg y1).symm, l1, K1, Or.inl ⟨y1, y3, y4⟩⟩
        · exact rk_ireturn rfl rfl ⟨_, _, rfl, y2.trans (if_pos y1).symm, l1, K1, Or.inr ⟨y1, y3⟩⟩
      · replace hc11 := mt (nI_leI (by omega) (by omega)).mpr hc11
        omega
  · replace hc4 := Decidable.not_not.mp hc4
    replace hc4 := (bI_0).mp hc4
    exact absurd ⟨in_mk (by omega) ha, in_mk (by omega) hb, fun z => hab ((nI_eq (by omega) (by omega)).mp z)⟩ hc4
theorem c164_p {X : ai_X} {h : ai_H} {tp : Int32} {N : Nat → Nat} (d0 : h[0]? = some (cOne tp)) (hN : HN N) (C : CH h 3 N) {a b c : Int32} (hx : ¬ ((¬ a < 0 ∧ ¬ nI (N 271) ≤ a) ∧ (¬ b < 0 ∧ ¬ nI (N 271) ≤ b) ∧ ¬ a = b)) : Mt X am_164 [.ref 0, .int a, .int b, .int c] h (Qe (-2) h) := by
  have e3 := C.1
  refine rk_aload_n rfl rfl ?_
  refine rk_iload_n rfl rfl ?_
  refine rk_iload_n rfl rfl ?_
  refine rk_cv2e rfl rfl (by assumption) rfl rfl (Nat.le_of_ble_eq_true rfl) (Nat.le_of_ble_eq_true rfl) (s165 d0 hN C a b) ?_
  refine rk_if_ne rfl rfl (fun hc4 => ?_) (fun hc4 => ?_)
  · replace hc4 := Decidable.not_not.mp (mt bI_0.mpr hc4)
    exact absurd hc4 hx
  · replace hc4 := Decidable.not_not.mp hc4
    replace hc4 := (bI_0).mp hc4
    refine rk_bipush (v := (-2)) rfl (by decide) ?_
    exact rk_ireturn rfl rfl Qe_mk
theorem c164_q {X : ai_X} {h : ai_H} {tp : Int32} {N : Nat → Nat} (d0 : h[0]? = some (cOne tp)) (hN : HN N) (C : CH h 3 N) {a b c : Int32} (hx : ((¬ a < 0 ∧ ¬ nI (N 271) ≤ a) ∧ (¬ b < 0 ∧ ¬ nI (N 271) ≤ b) ∧ ¬ a = b)) (hy : ¬ (¬ c < 0 ∧ ¬ nI 40 < c)) : Mt X am_164 [.ref 0, .int a, .int b, .int c] h (Qe (-3) h) := by
  have e3 := C.1
  refine rk_aload_n rfl rfl ?_
  refine rk_iload_n rfl rfl ?_
  refine rk_iload_n rfl rfl ?_
  refine rk_cv2e rfl rfl (by assumption) rfl rfl (Nat.le_of_ble_eq_true rfl) (Nat.le_of_ble_eq_true rfl) (s165 d0 hN C a b) ?_
  refine rk_if_ne rfl rfl (fun hc4 => ?_) (fun hc4 => ?_)
  · replace hc4 := Decidable.not_not.mp (mt bI_0.mpr hc4)
    refine rk_iload_n rfl rfl ?_
    refine rk_if_lt rfl rfl (fun hc8 => ?_) (fun hc8 => ?_)
    · refine rk_bipush (v := (-3)) rfl (by decide) ?_
      exact rk_ireturn rfl rfl Qe_mk
    · refine rk_iload_n rfl rfl ?_
      refine rk_bipush (v := nI 40) rfl (by decide) ?_
      refine rk_icmp_le rfl rfl (fun hc11 => ?_) (fun hc11 => ?_)
      · exact absurd ⟨hc8, i32_le.mp hc11⟩ hy
      · refine rk_bipush (v := (-3)) rfl (by decide) ?_
        exact rk_ireturn rfl rfl Qe_mk
  · replace hc4 := Decidable.not_not.mp hc4
    replace hc4 := (bI_0).mp hc4
    exact absurd hx hc4
theorem fin_c {m c s : Nat} {h h1 h2 h3 : ai_H} {tp : Nat} {T A A1 im rs rm v : Nat → Int32} {nu : Nat → Int64} {fk fp : Int32} {b : Nat → Option Nat} {N : Nat → Nat} (hP : InvP m c s h tp T A im rs rm nu fk fp b) (hV : HV A 0 (N 0) (N 1) (N 271)) (d52 : h[52]? = some (cMdl v)) (l1 : h1.length = h.length) (K1 : ∀ q : Nat, q ≠ 15 → q ≠ 16 → q ≠ 32 → h1[q]? = h[q]?) (g2 : h2[52]? = some (cMdl (upd v 0 (nI 0)))) (hk : ∀ q : Nat, q ≠ 52 → h2[q]? = h1[q]?) (hl : h2.length = h1.length) (F3 : FA7 h2 h3) (c53 : h3[53]? = some (cI 2346 A1)) (hA1 : ∀ q, ¬ (281 ≤ q ∧ q < 782) → A1 q = A q) (R15 : ∃ n f, RouteAt h3 15 n f ∧ FC n f A1 0) (hFV : FV A1 0 (N 1)) (k : ai_Sk h h3) : Inv (m + 1) (c + 0) (s + 0) h3 := by
  obtain ⟨hA, hBB, hR, hI, hS, hO, hM, hVV, hD, hc, hs⟩ := id hP
  have h80 := hM.len
  have k8 : ∀ q : Nat, q ≠ 15 → q ≠ 16 → q ≠ 32 → q ≠ 52 → q ≠ 53 → ¬ (71 ≤ q ∧ q < 73) → h3[q]? = h[q]? := fun q a0 a1 a2 a3 a4 a5 => ((F3.2 q a4 a5).trans (hk q a3)).trans (K1 q a0 a1 a2)
  have hlen3 : h3.length = h.length := (F3.1.trans hl).trans l1
  obtain ⟨n33, y4⟩ := hO.led
  refine Inv.srch (b1 := b) hP k ?_ ?_ rfl rfl (hD.fr (by omega)) (by omega) (by omega) ?_ R15 ?_ ⟨n33, (k8 33 (by omega) (by omega) (by omega) (by omega) (by omega) (by omega)).trans y4⟩ ?_ c53 hA1 ?_
  · exact fun q hq kp hbl => k8 q (by omega) (by omega) (by omega) (by omega) (by omega) (by omega)
  · exact hS.fr (fun q _ _ => k8 q (by omega) (by omega) (by omega) (by omega) (by omega) (by omega)) (fun i p _ hi e q _ _ => by
      have := (hD i p hi e).1
      exact k8 q (by omega) (by omega) (by omega) (by omega) (by omega) (by omega))
  · obtain ⟨F9, G9, z⟩ := hBB.2.1
    exact ⟨F9, G9, z.fr (fun q _ _ => k8 q (by omega) (by omega) (by omega) (by omega) (by omega) (by omega))⟩
  · obtain ⟨n, f, z⟩ := hBB.2.2.2
    exact ⟨n, f, z.fr (fun q _ _ => k8 q (by omega) (by omega) (by omega) (by omega) (by omega) (by omega))⟩
  · obtain ⟨⟨v', mk, e1, e2, e3, e4, e5, e6, sm, e7, e8⟩, -⟩ := hM
    rw [d52] at e1
    obtain ⟨x1, x2, x3, x4⟩ := cMdl_inj (Option.some.inj e1)
    exact ⟨_, mk, (F3.2 52 (by omega) (by omega)).trans g2, x1.trans e2, x2.trans e3, x3.trans e4, x4.trans e5, by omega, sm, (k8 62 (by omega) (by omega) (by omega) (by omega) (by omega) (by omega)).trans e7, e8⟩
  · intro n t w hV' _
    have ht : t = N 1 := by
      have e1 := hV'.2.1
      have e2 := hV.2.1
      rw [e2] at e1
      have a1 := hV.2.2.2.2.2.1
      have a2 := hV'.2.2.2.2.2.1
      exact ((nI_eq (by omega) (by omega)).mp e1).symm
    subst ht
    exact hFV
theorem ob33 (X : ai_X) : O33 X Inv := by
  intro a0 a1 a2
  refine ob_gen fun m c s h hm I => ?_
  obtain ⟨tp, T, A, im, rs, rm, nu, fk, fp, b, hP⟩ := id I
  obtain ⟨N, mk, hN, C, M, -, hV, hFV, H, hmk, hv⟩ := Inv.sdat hP hm
  obtain ⟨hA, hB, hR, hI, hS, hO, hM, hVV, hD, hc, hs⟩ := id hP
  obtain ⟨v, d52⟩ := I.m52
  obtain ⟨S71, S72⟩ := I.s712
  obtain ⟨d27, S30, S31, S32⟩ := hO.p30
  have d53 := hM.2.1
  have d0 := hA.1
  have hw8 := hN.w
  obtain ⟨-, R9, ⟨n0, f0, R, hFC⟩, R17⟩ := id hB
  by_cases hx : (¬ a0 < 0 ∧ ¬ nI (N 271) ≤ a0) ∧ (¬ a1 < 0 ∧ ¬ nI (N 271) ≤ a1) ∧ ¬ a0 = a1
  · by_cases hy : ¬ a2 < 0 ∧ ¬ nI 40 < a2
    · obtain ⟨a, ha, rfl⟩ := in_of (by omega) hx.1
      obtain ⟨b', hb, rfl⟩ := in_of (by omega) hx.2.1
      obtain ⟨L, hL, rfl⟩ := w40_of hy
      have hab : ¬ a = b' := fun z => hx.2.2 (by rw [z])
      refine ⟨_, _, c164_v d0 hN C d27 S32 ⟨n0, f0, R⟩ ha hb hab hL, ?_⟩
      rintro h1 ⟨l1, K1, hh⟩ k1
      have e52 := (K1 52 (by omega) (by omega) (by omega)).trans d52
      refine ⟨⟨_, e52⟩, md_g rfl rfl rfl rfl e52 (fun h2 g2 hk hl => ?_)⟩
      refine (m272_v g2 ((hk 53 (by omega)).trans ((K1 53 (by omega) (by omega) (by omega)).trans d53)) hN M ha hb hab hL (S71.fr ((hk 71 (by omega)).trans (K1 71 (by omega) (by omega) (by omega)))) (S72.fr ((hk 72 (by omega)).trans (K1 72 (by omega) (by omega) (by omega))))).mono ?_
      rintro o ⟨y, h3, e1, hy', F3, A1, c53, hm3⟩
      subst e1
      refine ⟨_, _, rfl, hy', fun k2 => ?_⟩
      have k3 : ∀ q : Nat, q ≠ 52 → q ≠ 53 → ¬ (71 ≤ q ∧ q < 73) → h3[q]? = h1[q]? := fun q a1 a2 a3 => (F3.2 q a2 a3).trans (hk q a1)
      rcases hh with ⟨y1, y3, y4⟩ | ⟨y1, f', r', c'⟩
      · rcases hm3 with ⟨-, rfl⟩ | ⟨z1, -⟩
        · exact fin_c hP hV d52 l1 K1 g2 hk hl F3 c53 (fun _ _ => rfl) ⟨n0, f0, ⟨((k3 15 (by omega) (by omega) (by omega)).trans y3).trans R.1, ((k3 16 (by omega) (by omega) (by omega)).trans y4).trans R.2⟩, hFC⟩ hFV (k1.trans k2)
        · exact absurd z1 y1
      · rcases hm3 with ⟨z1, -⟩ | ⟨-, q1, q2, q3⟩
        · exact absurd y1 z1
        · refine fin_c hP hV d52 l1 K1 g2 hk hl F3 c53 q3 ⟨_, f', r'.fr (fun q _ _ => k3 q (by omega) (by omega) (by omega)), ?_, fun i hi => ?_⟩ (Or.inr ⟨L, by omega, by rw [Nat.zero_add]; exact q1, fun i hi => ⟨_, (gx_ok hN (hN.xwt ha) (hN.xwt hb) y1 hi).1, by rw [Nat.zero_add]; exact q2 i hi⟩⟩) (k1.trans k2)
          · rw [Nat.zero_add]; exact q1.symm
          · rw [Nat.zero_add, q1, nI_clamp (by omega)] at hi
            rw [c' i hi, Nat.zero_add, q2 i hi]
    · exact og_pure I (c164_q d0 hN C hx hy) (md_thr rfl rfl rfl rfl d52 (fun h2 g2 hk => m272_y g2 ((hk 53 (by omega)).trans d53) hN M hx hy))
  · exact og_pure I (c164_p d0 hN C hx) (md_thr rfl rfl rfl rfl d52 (fun h2 g2 hk => m272_x g2 ((hk 53 (by omega)).trans d53) hN M hx))
