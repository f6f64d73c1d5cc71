/-! WHAT A CALL MAY LEAVE BEHIND in cells that only help -/
def SC (h h1 : ai_H) : Prop := h1.length = h.length ∧ (∀ q : Nat, q ≠ 17 → q ≠ 18 → (q < 26 ∨ 44 ≤ q ∨ q = 27 ∨ q = 36 ∨ q = 41) → h1[q]? = h[q]?) ∧ (∃ n f, RouteAt h1 17 n f) ∧ ∃ n, h1[33]? = some (.inr (1, [.ref 3, .ref 22, .ref 34, .ref 35, .int n]))
def SM (h h1 : ai_H) : Prop := h1.length = h.length ∧ (∀ q : Nat, q ≠ 52 → ¬ (56 ≤ q ∧ q < 62) → ¬ (63 ≤ q ∧ q < 77) → h1[q]? = h[q]?) ∧ ∃ v v1 : Nat → Int32, h[52]? = some (cMdl v) ∧ h1[52]? = some (cMdl v1) ∧ v1 5 = v 5 ∧ v1 13 = v 13 ∧ v1 14 = v 14 ∧ v1 22 = v 22
theorem MdO.sm {h h1 : ai_H} (H : MdO h h1) : SM h h1 := ⟨H.2.1, fun q hq _ _ => H.1 q hq, H.2.2⟩
theorem InvO.led {h : ai_H} (O : InvO h) : ∃ n, h[33]? = some (.inr (1, [.ref 3, .ref 22, .ref 34, .ref 35, .int n])) := O.2.1
theorem SC.rfl' {h : ai_H} (Q : ∃ n f, RouteAt h 17 n f) (O : InvO h) : SC h h := ⟨rfl, fun _ _ _ _ => rfl, Q, O.led⟩
theorem SC.of17 {h h1 : ai_H} (F : Fr 17 19 h h1) (Q : ∃ n f, RouteAt h1 17 n f) (O : InvO h) : SC h h1 := by
  obtain ⟨n, e⟩ := O.led
  exact ⟨F.1, fun q _ _ _ => F.2 q (by omega), Q, n, (F.2 33 (by omega)).trans e⟩
theorem InvO.sk {h h1 : ai_H} (k : ai_Sk h h1) (h27 : h1[27]? = h[27]?) (h36 : h1[36]? = h[36]?) (h41 : h1[41]? = h[41]?) (h33 : ∃ n, h1[33]? = some (.inr (1, [.ref 3, .ref 22, .ref 34, .ref 35, .int n]))) (H : InvO h) : InvO h1 := by
  obtain ⟨a1, -, a3, a4, s1, s2, s3, s4, s5, s6, s7, s8, s9, s10, s11, s12, s13, s14, s15⟩ := H
  exact ⟨h27.trans a1, h33, h36.trans a3, h41.trans a4, s1.sk k, s2.sk k, s3.sk k, s4.sk k, s5.sk k, s6.sk k, s7.sk k, s8.sk k, s9.sk k, s10.sk k, s11.sk k, s12.sk k, s13.sk k, s14.sk k, s15.sk k⟩
theorem InvM.sk {h h1 : ai_H} {m tp : Nat} {T A im rs rm : Nat → Int32} {nu : Nat → Int64} {fk fp : Int32} (k : ai_Sk h h1) (hk : ∀ q : Nat, (53 ≤ q ∧ q < 56) ∨ q = 62 ∨ (77 ≤ q ∧ q < 80) → h1[q]? = h[q]?) (w : ∀ v : Nat → Int32, h[52]? = some (cMdl v) → ∃ v1 : Nat → Int32, h1[52]? = some (cMdl v1) ∧ v1 5 = v 5 ∧ v1 13 = v 13 ∧ v1 14 = v 14 ∧ v1 22 = v 22) (H : InvM h m tp T A im rs rm nu fk fp) : InvM h1 m tp T A im rs rm nu fk fp := by
  obtain ⟨⟨v, mk, e1, e2, e3, e4, e5, e6, sm, e7, e8⟩, a1, a2, a3, a4, a5, a6, s1, s2, s3, s4, s5, s6, s7, s8, s9, s10, s11, s12, s13, s14, s15, s16, s17, s18, s19, s20⟩ := H
  obtain ⟨v1, f1, f2, f3, f4, f5⟩ := w v e1
  exact ⟨⟨v1, mk, f1, f2.trans e2, f3.trans e3, f4.trans e4, f5.trans e5, e6, sm, (hk _ (by omega)).trans e7, e8⟩, (hk _ (by omega)).trans a1, (hk _ (by omega)).trans a2, (hk _ (by omega)).trans a3, (hk _ (by omega)).trans a4, (hk _ (by omega)).trans a5, (hk _ (by omega)).trans a6, s1.sk k, s2.sk k, s3.sk k, s4.sk k, s5.sk k, s6.sk k, s7.sk k, s8.sk k, s9.sk k, s10.sk k, s11.sk k, s12.sk k, s13.sk k, s14.sk k, s15.sk k, s16.sk k, s17.sk k, s18.sk k, s19.sk k, s20.sk k⟩
theorem SM.w {h h1 : ai_H} (H : SM h h1) : ∀ v : Nat → Int32, h[52]? = some (cMdl v) → ∃ v1 : Nat → Int32, h1[52]? = some (cMdl v1) ∧ v1 5 = v 5 ∧ v1 13 = v 13 ∧ v1 14 = v 14 ∧ v1 22 = v 22 := by
  obtain ⟨-, -, v, v1, a, b, c1, c2, c3, c4⟩ := H
  intro v' hv'
  rw [a] at hv'
  obtain ⟨e1, e2, e3, e4⟩ := cMdl_inj (Option.some.inj hv')
  exact ⟨v1, b, c1.trans e1, c2.trans e2, c3.trans e3, c4.trans e4⟩
theorem Inv.scr {m c s : Nat} {h h1 h2 : ai_H} (S : SC h h1) (k1 : ai_Sk h h1) (S2 : SM h1 h2) (k2 : ai_Sk h1 h2) (I : Inv m c s h) : Inv (m + 1) (c + 0) (s + 0) h2 := by
  obtain ⟨tp, T, A, im, rs, rm, nu, fk, fp, b, hA, hB, hR, hI, hS, hO, hM, hV, hD, hc, hs⟩ := Inv_1 I
  obtain ⟨l1, k, ⟨n17, f17, R17⟩, ⟨n33, h33⟩⟩ := S
  have hk : ∀ q : Nat, q ≠ 17 → q ≠ 18 → (q < 26 ∨ (44 ≤ q ∧ q ≠ 52 ∧ ¬ (56 ≤ q ∧ q < 62) ∧ ¬ (63 ≤ q ∧ q < 77)) ∨ q = 27 ∨ q = 36 ∨ q = 41) → h2[q]? = h[q]? := fun q a b z => (S2.2.1 q (by omega) (by omega) (by omega)).trans (k q a b (by omega))
  refine ⟨tp, T, A, im, rs, rm, nu, fk, fp, b, hA.fr (fun q _ => hk q (by omega) (by omega) (by omega)), ?_, hR.fr (fun q _ => hk q (by omega) (by omega) (by omega)), hI.fr (hk 20 (by omega) (by omega) (by omega)) (hk 21 (by omega) (by omega) (by omega)) (fun i p hi e q _ _ => hk q ?_ ?_ ?_), hS.fr (fun q _ _ => hk q (by omega) (by omega) (by omega)) (fun i p _ hi e q _ _ => hk q ?_ ?_ ?_), hO.sk (k1.trans k2) (hk 27 (by omega) (by omega) (by omega)) (hk 36 (by omega) (by omega) (by omega)) (hk 41 (by omega) (by omega) (by omega)) ⟨n33, (S2.2.1 33 (by omega) (by omega) (by omega)).trans h33⟩, hM.sk (k1.trans k2) (fun q hq => hk q (by omega) (by omega) (by omega)) ?_, hV, hD.fr (by rw [S2.1, l1]; exact Nat.le_refl _), hc, hs⟩
  · obtain ⟨⟨F, G, x1, x2⟩, ⟨F', G', x3⟩, ⟨n, f, x4, x5⟩, -⟩ := hB
    exact ⟨⟨F, G, x1.fr (fun q _ _ => hk q (by omega) (by omega) (by omega)), x2⟩, ⟨F', G', x3.fr (fun q _ _ => hk q (by omega) (by omega) (by omega))⟩, ⟨n, f, x4.fr (fun q _ _ => hk q (by omega) (by omega) (by omega)), x5⟩, n17, f17, R17.fr (fun q _ _ => S2.2.1 q (by omega) (by omega) (by omega))⟩
  · have := (hD i p (by omega) e).1; omega
  · have := (hD i p (by omega) e).1; omega
  · have := (hD i p (by omega) e).1; omega
  · have := (hD i p hi e).1; omega
  · have := (hD i p hi e).1; omega
  · have := (hD i p hi e).1; omega
  · intro v hv
    exact S2.w v ((k 52 (by omega) (by omega) (by omega)).trans hv)
theorem ob_scr {X : ai_X} {Mc Mm : ai_M} {as : List Value} (hc : ∀ m c s h, Inv m c s h → ∃ W, Mt X Mc (.ref 0 :: as) h (Qi (fun w h1 => w = W ∧ SC h h1)) ∧ ∀ h1, SC h h1 → Mt X Mm (.ref 52 :: as) h1 (Qi (fun w h2 => w = W ∧ SM h1 h2))) : Ob X Inv Mc Mm as := by
  intro m c s h _ I
  obtain ⟨W, hcl, hm⟩ := hc m c s h I
  obtain ⟨n, o, hn, ⟨w, h1, rfl, rfl, S⟩, k1⟩ := hcl.sk
  refine ⟨n, _, hn, w, h1, 0, 0, ?_⟩
  obtain ⟨tp, T, A, im, rs, rm, nu, fk, fp, b, -, -, -, -, -, -, ⟨⟨v, mk, e1, -⟩, -⟩, -⟩ := id I
  refine ⟨_, rfl, (S.2.1 52 (by omega) (by omega) (by omega)).trans e1, ?_⟩
  obtain ⟨n2, o2, hn2, ⟨w2, h2, rfl, rfl, S2⟩, k2⟩ := (hm h1 S).sk
  exact ⟨n2, _, hn2, h2, rfl, I.scr S k1 S2 k2⟩
theorem obL_scr {X : ai_X} {Mc Mm : ai_M} {as : List Value} (hc : ∀ m c s h, Inv m c s h → ∃ W, Mt X Mc (.ref 0 :: as) h (Ql (fun w h1 => w = W ∧ SC h h1)) ∧ ∀ h1, SC h h1 → Mt X Mm (.ref 52 :: as) h1 (Ql (fun w h2 => w = W ∧ SM h1 h2))) : ObL X Inv Mc Mm as := by
  intro m c s h _ I
  obtain ⟨W, hcl, hm⟩ := hc m c s h I
  obtain ⟨n, o, hn, ⟨w, h1, rfl, rfl, S⟩, k1⟩ := hcl.sk
  refine ⟨n, _, hn, w, h1, 0, 0, ?_⟩
  obtain ⟨tp, T, A, im, rs, rm, nu, fk, fp, b, -, -, -, -, -, -, ⟨⟨v, mk, e1, -⟩, -⟩, -⟩ := id I
  refine ⟨_, rfl, (S.2.1 52 (by omega) (by omega) (by omega)).trans e1, ?_⟩
  obtain ⟨n2, o2, hn2, ⟨w2, h2, rfl, rfl, S2⟩, k2⟩ := (hm h1 S).sk
  exact ⟨n2, _, hn2, h2, rfl, I.scr S k1 S2 k2⟩
/-- what a call finds -/
theorem Inv.dat {m c s : Nat} {h : ai_H} (I : Inv m c s h) : ∃ tp v A N ro, h[0]? = some (cOne (nI tp)) ∧ h[52]? = some (cMdl v) ∧ h[53]? = some (cI 2346 A) ∧ HN N ∧ CH h 3 N ∧ MH A N ∧ h[19]? = some (cR 3 4 ro) ∧ (∀ i, i < 4 → ro i = some (44 + 2 * i)) ∧ (∃ n f, RouteAt h 17 n f) ∧ (∀ i, i < 4 → ∃ code L x, CRow h i (N 1) code L x ∧ MRow h i (N 1) code L x) ∧ InvO h := by
  obtain ⟨tp, T, A, im, rs, rm, nu, fk, fp, b, hA, ⟨⟨F, G, hH, hC⟩, -, -, hQ⟩, hR, -, -, hO, ⟨⟨v, mk, e1, -⟩, e2, -, -, c77, c78, c79, -⟩, ⟨-, -, ⟨n, t, w, hV, -⟩, -⟩, -⟩ := I
  obtain ⟨N, hN, n0, n1, n2, hCH, hMH⟩ := house_nat hH hC hV
  obtain ⟨ro, r1, r2⟩ := hR.1
  exact ⟨tp, v, A, N, ro, hA.1, e1, e2, hN, hCH, hMH, r1, r2, hQ, fun i hi => row_nat hi hN.t hR c77 c78 c79, hO⟩
/-- the same, where a call has left its helpers -/
theorem SC.m {h h1 : ai_H} (S : SC h h1) {q : Nat} (hq : 44 ≤ q) : h1[q]? = h[q]? := S.2.1 q (by omega) (by omega) (by omega)
theorem MRow.good {h : ai_H} {i t L : Nat} {x : Nat → Nat} (H : MRow h i t 0 L x) : ∃ rm nu, h[78]? = some (cI 4 rm) ∧ h[79]? = some (cJ 160 nu) ∧ rm i = nI L ∧ L ≤ 40 ∧ ∀ k, k < L → x k < t ∧ nu (40 * i + k) = (nI (x k)).toInt64 := by
  obtain ⟨rs, rm, nu, c2, c3, c4, R⟩ := H
  rcases R with ⟨z, -⟩ | ⟨-, a, b, ⟨z, -⟩ | ⟨-, -, z⟩⟩
  · exact absurd z (by decide)
  · exact absurd z (by decide)
  · exact ⟨rm, nu, c3, c4, a, b, z⟩
/-- where one is behind k tones -/
def bh (N x : Nat → Nat) (r : Nat) : Nat → Nat
  | 0 => r
  | k + 1 => pl N (bh N x r k) (x k)
theorem bh_lt {N x : Nat → Nat} {r : Nat} (hN : HN N) (hr : r < N 0) : ∀ k, (∀ j, j < k → x j < N 1) → bh N x r k < N 0
  | 0, _ => hr
  | k + 1, hx => hN.xpl (bh_lt hN hr k (fun j hj => hx j (by omega))) (hx k (by omega))
/-- x is one of n rooms .. -/
theorem w_mk {n k : Nat} (hn : n < 2 ^ 30) (h : k < n) : ¬ (nI k < 0) ∧ ¬ (nI n - nI 1) < nI k := (in_iff hn).mpr (in_mk (by omega) h)
theorem l41 {X : ai_X} {h : ai_H} {p q L k r : Nat} {N x : Nat → Nat} (hN : HN N) (C : CH h p N) (R : RtAt h q L x) (hx : ∀ j, j < L → x j < N 1) (hk : k ≤ L) (hL : L ≤ 500) (hr : r < N 0) : ∀ (d : Nat) (j : Nat), k < j + d → (j ≤ k) → Rk X am_41 4 [some (.ref p), some (.ref q), some (.int (nI k)), some (.int (nI r)), some (.int (nI (bh N x r j))), some (.int (nI j))] [] h (Qe (nI (bh N x r k)) h) := by
  intro d
  induction d with
  | zero => intro j hd hj; exfalso; omega
  | succ d ih =>
    intro j hd hj
    have d0 := C.1
    obtain ⟨f, R0, R1⟩ := id R
    have d1 := R0.1
    have hb := bh_lt hN hr j (fun i hi => hx i (by omega))
    have hn := hN.n
    refine rk_iload rfl rfl ?_
    refine rk_iload_n rfl rfl ?_
    refine rk_icmp_ge rfl rfl (fun hc6 => ?_) (fun hc6 => ?_)
    · replace hc6 := (nI_leI (by omega) (by omega)).mp hc6
      refine rk_iload rfl rfl ?_
      exact rk_ireturn rfl rfl (Qe_of (by rw [show j = k by omega]))
    · replace hc6 := mt (nI_leI (by omega) (by omega)).mpr hc6
      refine rk_aload_n rfl rfl ?_
      refine rk_iload rfl rfl ?_
      refine rk_aload_n rfl rfl ?_
      refine rk_iload rfl rfl ?_
      refine rk_cv1e rfl rfl (by assumption) rfl rfl (Nat.le_of_ble_eq_true rfl) (Nat.le_of_ble_eq_true rfl) (s90N R (by omega) hL) ?_
      refine rk_cv2e rfl rfl (by assumption) rfl rfl (Nat.le_of_ble_eq_true rfl) (Nat.le_of_ble_eq_true rfl) (s27N C hN hb (hx j (by omega))) ?_
      refine rk_istore rfl (Nat.le_of_ble_eq_true rfl) rfl ?_
      refine rk_iinc rfl rfl (n_inc _) rfl ?_
      refine rk_goto rfl rfl ?_
      exact ih (j + 1) (by omega) (by omega)
theorem s41 {X : ai_X} {h : ai_H} {p q L k r : Nat} {N x : Nat → Nat} (hN : HN N) (C : CH h p N) (R : RtAt h q L x) (hx : ∀ j, j < L → x j < N 1) (hk : k ≤ L) (hL : L ≤ 500) (hr : r < N 0) : Mt X am_41 [.ref p, .ref q, .int (nI k), .int (nI r)] h (Qe (nI (bh N x r k)) h) := by
  refine rk_iload_n rfl rfl ?_
  refine rk_istore rfl (Nat.le_of_ble_eq_true rfl) rfl ?_
  refine rk_iconst (v := nI 0) rfl (by decide) ?_
  refine rk_istore rfl (Nat.le_of_ble_eq_true rfl) rfl ?_
  exact l41 hN C R hx hk hL hr (k + 1) 0 (by omega) (by omega)
theorem l223 {X : ai_X} {h : ai_H} {v A : Nat → Int32} {nu : Nat → Int64} {i L k r : Nat} {N x : Nat → Nat} (c0 : h[52]? = some (cMdl v)) (c1 : h[53]? = some (cI 2346 A)) (c4 : h[79]? = some (cJ 160 nu)) (hN : HN N) (M : MH A N) (hi : i < 4) (hx : ∀ k, k < L → x k < N 1 ∧ nu (40 * i + k) = (nI (x k)).toInt64) (hk : k ≤ L) (hL : L ≤ 40) (hr : r < N 0) : ∀ (d : Nat) (j : Nat), k < j + d → (j ≤ k) → Rk X am_223 4 [some (.ref 52), some (.int (nI i)), some (.int (nI r)), some (.int (nI k)), some (.int (nI (bh N x r j))), some (.int (nI j))] [] h (Qe (nI (bh N x r k)) h) := by
  intro d
  induction d with
  | zero => intro j hd hj; exfalso; omega
  | succ d ih =>
    intro j hd hj
    have hb := bh_lt hN hr j (fun i hi => (hx i (by omega)).1)
    have hn := hN.n
    refine rk_iload rfl rfl ?_
    refine rk_iload_n rfl rfl ?_
    refine rk_icmp_ge rfl rfl (fun hc6 => ?_) (fun hc6 => ?_)
    · replace hc6 := (nI_leI (by omega) (by omega)).mp hc6
      refine rk_iload rfl rfl ?_
      exact rk_ireturn rfl rfl (Qe_of (by rw [show j = k by omega]))
    · replace hc6 := mt (nI_leI (by omega) (by omega)).mpr hc6
      refine rk_aload_n rfl rfl ?_
      refine rk_iload rfl rfl ?_
      refine rk_aload_n rfl rfl ?_
      refine rk_iload_n rfl rfl ?_
      refine rk_iload rfl rfl ?_
      refine rk_cv2e rfl rfl (by assumption) rfl rfl (Nat.le_of_ble_eq_true rfl) (Nat.le_of_ble_eq_true rfl) (s222 c0 c4 hi (by omega) (hx j (by omega)).2) ?_
      refine rk_cv2e rfl rfl (by assumption) rfl rfl (Nat.le_of_ble_eq_true rfl) (Nat.le_of_ble_eq_true rfl) (s210N c0 c1 M hN hb (hx j (by omega)).1) ?_
      refine rk_istore rfl (Nat.le_of_ble_eq_true rfl) rfl ?_
      refine rk_iinc rfl rfl (n_inc _) rfl ?_
      refine rk_goto rfl rfl ?_
      exact ih (j + 1) (by omega) (by omega)
theorem s223 {X : ai_X} {h : ai_H} {v A : Nat → Int32} {nu : Nat → Int64} {i L k r : Nat} {N x : Nat → Nat} (c0 : h[52]? = some (cMdl v)) (c1 : h[53]? = some (cI 2346 A)) (c4 : h[79]? = some (cJ 160 nu)) (hN : HN N) (M : MH A N) (hi : i < 4) (hx : ∀ k, k < L → x k < N 1 ∧ nu (40 * i + k) = (nI (x k)).toInt64) (hk : k ≤ L) (hL : L ≤ 40) (hr : r < N 0) : Mt X am_223 [.ref 52, .int (nI i), .int (nI r), .int (nI k)] h (Qe (nI (bh N x r k)) h) := by
  refine rk_iload_n rfl rfl ?_
  refine rk_istore rfl (Nat.le_of_ble_eq_true rfl) rfl ?_
  refine rk_iconst (v := nI 0) rfl (by decide) ?_
  refine rk_istore rfl (Nat.le_of_ble_eq_true rfl) rfl ?_
  exact l223 c0 c1 c4 hN M hi hx hk hL hr (k + 1) 0 (by omega) (by omega)
theorem c138_x {X : ai_X} {h : ai_H} {tp : Int32} {ro : Nat → Option Nat} {N : Nat → Nat} (d0 : h[0]? = some (cOne tp)) (hN : HN N) (C : CH h 3 N) (d19 : h[19]? = some (cR 3 4 ro)) (hro : ∀ i, i < 4 → ro i = some (44 + 2 * i)) (Q : ∃ n f, RouteAt h 17 n f) (O : InvO h) {a b c : Int32} (ha : ¬ (¬ a < 0 ∧ ¬ nI 4 ≤ a)) : Mt X am_138 [.ref 0, .int a, .int b, .int c] h (Qi (fun y h1 => y = -2 ∧ SC h h1)) := by
  have d3 := C.1
  refine rk_aload_n rfl rfl ?_
  refine rk_iload_n rfl rfl ?_
  refine rk_cv1e rfl rfl (by assumption) rfl rfl (Nat.le_of_ble_eq_true rfl) (Nat.le_of_ble_eq_true rfl) (s179 _) ?_
  refine rk_if_eq rfl rfl (fun hc3 => ?_) (fun hc3 => ?_)
  · replace hc3 := (bI_0).mp hc3
    refine rk_bipush (v := (-2)) rfl (by decide) ?_
    exact rk_ireturn rfl rfl ⟨_, _, rfl, rfl, SC.rfl' Q O⟩
  · replace hc3 := Decidable.not_not.mp (mt bI_0.mpr hc3)
    exact absurd hc3 ha
theorem c138_y {X : ai_X} {h : ai_H} {tp : Int32} {ro : Nat → Option Nat} {N : Nat → Nat} (d0 : h[0]? = some (cOne tp)) (hN : HN N) (C : CH h 3 N) (d19 : h[19]? = some (cR 3 4 ro)) (hro : ∀ i, i < 4 → ro i = some (44 + 2 * i)) (Q : ∃ n f, RouteAt h 17 n f) (O : InvO h) {i : Nat} {b c : Int32} (hi : i < 4) (hb : ¬ (¬ b < 0 ∧ ¬ nI (N 271) ≤ b)) : Mt X am_138 [.ref 0, .int (nI i), .int b, .int c] h (Qi (fun y h1 => y = -2 ∧ SC h h1)) := by
  have d3 := C.1
  refine rk_aload_n rfl rfl ?_
  refine rk_iload_n rfl rfl ?_
  refine rk_cv1e rfl rfl (by assumption) rfl rfl (Nat.le_of_ble_eq_true rfl) (Nat.le_of_ble_eq_true rfl) (s179 _) ?_
  refine rk_if_eq rfl rfl (fun hc3 => ?_) (fun hc3 => ?_)
  · replace hc3 := (bI_0).mp hc3
    exact absurd (in_mk (by omega) hi) hc3
  · replace hc3 := Decidable.not_not.mp (mt bI_0.mpr hc3)
    refine rk_aload_n rfl rfl ?_
    refine rk_get rfl (by assumption) rfl ?_
    refine rk_iload_n rfl rfl ?_
    refine rk_cv1e rfl rfl (by assumption) rfl rfl (Nat.le_of_ble_eq_true rfl) (Nat.le_of_ble_eq_true rfl) (s25N C _) ?_
    refine rk_if_ne rfl rfl (fun hc8 => ?_) (fun hc8 => ?_)
    · replace hc8 := Decidable.not_not.mp (mt bI_0.mpr hc8)
      exact absurd hc8 hb
    · replace hc8 := Decidable.not_not.mp hc8
      replace hc8 := (bI_0).mp hc8
      refine rk_bipush (v := (-2)) rfl (by decide) ?_
      exact rk_ireturn rfl rfl ⟨_, _, rfl, rfl, SC.rfl' Q O⟩
theorem c138_o {X : ai_X} {h : ai_H} {tp : Int32} {ro : Nat → Option Nat} {N : Nat → Nat} (d0 : h[0]? = some (cOne tp)) (hN : HN N) (C : CH h 3 N) (d19 : h[19]? = some (cR 3 4 ro)) (hro : ∀ i, i < 4 → ro i = some (44 + 2 * i)) (Q : ∃ n f, RouteAt h 17 n f) (O : InvO h) {i L : Nat} {code : Int32} {x : Nat → Nat} (hi : i < 4) (R : CRow h i (N 1) code L x) {w : Nat} {c : Int32} (hw : w < N 271) (hc : code = 0 → ¬ (¬ c < 0 ∧ ¬ nI L < c)) : Mt X am_138 [.ref 0, .int (nI i), .int (nI w), .int c] h (Qi (fun y h1 => y = (if code = 0 then -3 else code) ∧ SC h h1)) := by
  have d3 := C.1
  refine rk_aload_n rfl rfl ?_
  refine rk_iload_n rfl rfl ?_
  refine rk_cv1e rfl rfl (by assumption) rfl rfl (Nat.le_of_ble_eq_true rfl) (Nat.le_of_ble_eq_true rfl) (s179 _) ?_
  refine rk_if_eq rfl rfl (fun hc3 => ?_) (fun hc3 => ?_)
  · replace hc3 := (bI_0).mp hc3
    exact absurd (in_mk (by omega) hi) hc3
  · replace hc3 := Decidable.not_not.mp (mt bI_0.mpr hc3)
    refine rk_aload_n rfl rfl ?_
    refine rk_get rfl (by assumption) rfl ?_
    refine rk_iload_n rfl rfl ?_
    refine rk_cv1e rfl rfl (by assumption) rfl rfl (Nat.le_of_ble_eq_true rfl) (Nat.le_of_ble_eq_true rfl) (s25N C _) ?_
    refine rk_if_ne rfl rfl (fun hc8 => ?_) (fun hc8 => ?_)
    · replace hc8 := Decidable.not_not.mp (mt bI_0.mpr hc8)
      refine rk_aload_n rfl rfl ?_
      refine rk_iload_n rfl rfl ?_
      refine rk_cv1i rfl rfl (by assumption) rfl rfl (Nat.le_of_ble_eq_true rfl) (Nat.le_of_ble_eq_true rfl) (s180 d0 d19 hro hi C rfl Q R) (fun w h1 hF => ?_)
      obtain ⟨rfl, F1, Q1, R1⟩ := hF
      have e0 := (F1.2 0 (by omega)).trans d0
      have C1 := C.fr2 F1 (by omega)
      have e3 := C1.1
      refine rk_istore rfl (Nat.le_of_ble_eq_true rfl) rfl ?_
      refine rk_iload rfl rfl ?_
      refine rk_if_eq rfl rfl (fun hc16 => ?_) (fun hc16 => ?_)
      · subst hc16
        have R2 := R1 rfl
        obtain ⟨hL, hx⟩ := R.x
        have e17 := R2.choose_spec.1.1
        refine rk_iload_n rfl rfl ?_
        refine rk_if_lt rfl rfl (fun hc20 => ?_) (fun hc20 => ?_)
        · refine rk_bipush (v := (-3)) rfl (by decide) ?_
          exact rk_ireturn rfl rfl ⟨_, _, rfl, by first | rw [if_neg (by assumption)] | rw [if_pos rfl], SC.of17 F1 Q1 O⟩
        · refine rk_iload_n rfl rfl ?_
          refine rk_aload_n rfl rfl ?_
          refine rk_get rfl (by assumption) rfl ?_
          refine rk_get rfl (by assumption) rfl ?_
          refine rk_icmp_le rfl rfl (fun hc25 => ?_) (fun hc25 => ?_)
          · exact absurd ⟨hc20, fun z => (by rw [Int32.lt_iff_toInt_lt] at z; rw [Int32.le_iff_toInt_le] at hc25; omega)⟩ (hc rfl)
          · refine rk_bipush (v := (-3)) rfl (by decide) ?_
            exact rk_ireturn rfl rfl ⟨_, _, rfl, by first | rw [if_neg (by assumption)] | rw [if_pos rfl], SC.of17 F1 Q1 O⟩
      · refine rk_iload rfl rfl ?_
        exact rk_ireturn rfl rfl ⟨_, _, rfl, by first | rw [if_neg (by assumption)] | rw [if_pos rfl], SC.of17 F1 Q1 O⟩
    · replace hc8 := Decidable.not_not.mp hc8
      replace hc8 := (bI_0).mp hc8
      exact absurd (in_mk (by have := hN.w; omega) hw) hc8
theorem c138_v {X : ai_X} {h : ai_H} {tp : Int32} {ro : Nat → Option Nat} {N : Nat → Nat} (d0 : h[0]? = some (cOne tp)) (hN : HN N) (C : CH h 3 N) (d19 : h[19]? = some (cR 3 4 ro)) (hro : ∀ i, i < 4 → ro i = some (44 + 2 * i)) (Q : ∃ n f, RouteAt h 17 n f) (O : InvO h) {i L : Nat} {code : Int32} {x : Nat → Nat} (hi : i < 4) (R : CRow h i (N 1) code L x) {w j : Nat} (hw : w < N 271) (hj : code = 0 → j ≤ L) (hj2 : j < 2 ^ 31) : Mt X am_138 [.ref 0, .int (nI i), .int (nI w), .int (nI j)] h (Qi (fun y h1 => y = (if code = 0 then nI (bh N x (wt N w) j) else code) ∧ SC h h1)) := by
  have d3 := C.1
  refine rk_aload_n rfl rfl ?_
  refine rk_iload_n rfl rfl ?_
  refine rk_cv1e rfl rfl (by assumption) rfl rfl (Nat.le_of_ble_eq_true rfl) (Nat.le_of_ble_eq_true rfl) (s179 _) ?_
  refine rk_if_eq rfl rfl (fun hc3 => ?_) (fun hc3 => ?_)
  · replace hc3 := (bI_0).mp hc3
    exact absurd (in_mk (by omega) hi) hc3
  · replace hc3 := Decidable.not_not.mp (mt bI_0.mpr hc3)
    refine rk_aload_n rfl rfl ?_
    refine rk_get rfl (by assumption) rfl ?_
    refine rk_iload_n rfl rfl ?_
    refine rk_cv1e rfl rfl (by assumption) rfl rfl (Nat.le_of_ble_eq_true rfl) (Nat.le_of_ble_eq_true rfl) (s25N C _) ?_
    refine rk_if_ne rfl rfl (fun hc8 => ?_) (fun hc8 => ?_)
    · replace hc8 := Decidable.not_not.mp (mt bI_0.mpr hc8)
      refine rk_aload_n rfl rfl ?_
      refine rk_iload_n rfl rfl ?_
      refine rk_cv1i rfl rfl (by assumption) rfl rfl (Nat.le_of_ble_eq_true rfl) (Nat.le_of_ble_eq_true rfl) (s180 d0 d19 hro hi C rfl Q R) (fun w h1 hF => ?_)
      obtain ⟨rfl, F1, Q1, R1⟩ := hF
      have e0 := (F1.2 0 (by omega)).trans d0
      have C1 := C.fr2 F1 (by omega)
      have e3 := C1.1
      refine rk_istore rfl (Nat.le_of_ble_eq_true rfl) rfl ?_
      refine rk_iload rfl rfl ?_
      refine rk_if_eq rfl rfl (fun hc16 => ?_) (fun hc16 => ?_)
      · subst hc16
        have R2 := R1 rfl
        obtain ⟨hL, hx⟩ := R.x
        have e17 := R2.choose_spec.1.1
        replace hj := hj rfl
        refine rk_iload_n rfl rfl ?_
        refine rk_if_lt rfl rfl (fun hc20 => ?_) (fun hc20 => ?_)
        · replace hc20 := (n0_lt (by omega)).mp hc20
          exact hc20.elim
        · replace hc20 := mt (n0_lt (by omega)).mpr hc20
          refine rk_iload_n rfl rfl ?_
          refine rk_aload_n rfl rfl ?_
          refine rk_get rfl (by assumption) rfl ?_
          refine rk_get rfl (by assumption) rfl ?_
          refine rk_icmp_le rfl rfl (fun hc25 => ?_) (fun hc25 => ?_)
          · replace hc25 := (nI_leI (by omega) (by omega)).mp hc25
            refine rk_aload_n rfl rfl ?_
            refine rk_get rfl (by assumption) rfl ?_
            refine rk_aload_n rfl rfl ?_
            refine rk_get rfl (by assumption) rfl ?_
            refine rk_iload_n rfl rfl ?_
            refine rk_aload_n rfl rfl ?_
            refine rk_get rfl (by assumption) rfl ?_
            refine rk_iload_n rfl rfl ?_
            refine rk_cv1e rfl rfl (by assumption) rfl rfl (Nat.le_of_ble_eq_true rfl) (Nat.le_of_ble_eq_true rfl) (s31N C1 hw hN) ?_
            refine rk_cv3e rfl rfl (by assumption) rfl rfl (Nat.le_of_ble_eq_true rfl) (Nat.le_of_ble_eq_true rfl) (s41 hN C1 R2 hx (by omega) (by omega) (hN.xwt hw)) ?_
            exact rk_ireturn rfl rfl ⟨_, _, rfl, by first | rw [if_neg (by assumption)] | rw [if_pos rfl], SC.of17 F1 Q1 O⟩
          · replace hc25 := mt (nI_leI (by omega) (by omega)).mpr hc25
            omega
      · refine rk_iload rfl rfl ?_
        exact rk_ireturn rfl rfl ⟨_, _, rfl, by first | rw [if_neg (by assumption)] | rw [if_pos rfl], SC.of17 F1 Q1 O⟩
    · replace hc8 := Decidable.not_not.mp hc8
      replace hc8 := (bI_0).mp hc8
      exact absurd (in_mk (by have := hN.w; omega) hw) hc8
theorem in34 {a : Int32} : (¬ a < 0 ∧ ¬ nI 3 < a) ↔ (¬ a < 0 ∧ ¬ nI 4 ≤ a) := by
  have := in_iff (n := 4) (x := a) (by decide)
  rw [show nI 4 - nI 1 = nI 3 by decide] at this
  exact this
theorem in3_mk {i : Nat} (hi : i < 4) : ¬ nI i < 0 ∧ ¬ nI 3 < nI i := in34.mpr (in_mk (by omega) hi)
theorem m224_x {X : ai_X} {h : ai_H} {v A : Nat → Int32} {N : Nat → Nat} (c0 : h[52]? = some (cMdl v)) (c1 : h[53]? = some (cI 2346 A)) (hN : HN N) (M : MH A N) {a b c : Int32} (ha : ¬ (¬ a < 0 ∧ ¬ nI 4 ≤ a)) : Rk X am_224 3 (ai_loc (ai_mL am_224) [.ref 52, .int a, .int b, .int c]) [] h (Qe (-2) h) := by
  obtain ⟨a0, a1, a268, a269, a270, a271, apl, apc, aot, asg, awt⟩ := id M
  refine rk_iload_n rfl rfl ?_
  refine rk_i2l rfl rfl ?_
  refine rk_lconst (v := 0) rfl (by decide) ?_
  rw [show (0 : Int64) = (0 : Int32).toInt64 by decide]
  refine rk_ldc2 rfl ?_
  rw [show (3 : Int64) = (nI 3).toInt64 by decide]
  refine rk_cs3e rfl rfl rfl (Nat.le_of_ble_eq_true rfl) (Nat.le_of_ble_eq_true rfl) (s181 _ _ _) ?_
  refine rk_if_eq rfl rfl (fun hc8 => ?_) (fun hc8 => ?_)
  · replace hc8 := (bI_0).mp hc8
    refine rk_bipush (v := (-2)) rfl (by decide) ?_
    exact rk_ireturn rfl rfl (Qe_of (by first | rfl | rw [if_neg (by assumption)] | rw [if_pos rfl]))
  · replace hc8 := Decidable.not_not.mp (mt bI_0.mpr hc8)
    exact absurd (in34.mp hc8) ha
theorem m224_y {X : ai_X} {h : ai_H} {v A : Nat → Int32} {N : Nat → Nat} (c0 : h[52]? = some (cMdl v)) (c1 : h[53]? = some (cI 2346 A)) (hN : HN N) (M : MH A N) {i : Nat} {b c : Int32} (hi : i < 4) (hb : ¬ (¬ b < 0 ∧ ¬ nI (N 271) ≤ b)) : Rk X am_224 3 (ai_loc (ai_mL am_224) [.ref 52, .int (nI i), .int b, .int c]) [] h (Qe (-2) h) := by
  obtain ⟨a0, a1, a268, a269, a270, a271, apl, apc, aot, asg, awt⟩ := id M
  refine rk_iload_n rfl rfl ?_
  refine rk_i2l rfl rfl ?_
  refine rk_lconst (v := 0) rfl (by decide) ?_
  rw [show (0 : Int64) = (0 : Int32).toInt64 by decide]
  refine rk_ldc2 rfl ?_
  rw [show (3 : Int64) = (nI 3).toInt64 by decide]
  refine rk_cs3e rfl rfl rfl (Nat.le_of_ble_eq_true rfl) (Nat.le_of_ble_eq_true rfl) (s181 _ _ _) ?_
  refine rk_if_eq rfl rfl (fun hc8 => ?_) (fun hc8 => ?_)
  · replace hc8 := (bI_0).mp hc8
    exact absurd (in3_mk hi) hc8
  · replace hc8 := Decidable.not_not.mp (mt bI_0.mpr hc8)
    refine rk_aload_n rfl rfl ?_
    refine rk_iload_n rfl rfl ?_
    refine rk_cv1e rfl rfl (by assumption) rfl rfl (Nat.le_of_ble_eq_true rfl) (Nat.le_of_ble_eq_true rfl) (s209n c0 c1 a271 (by have := hN.w; omega) _) ?_
    refine rk_if_ne rfl rfl (fun hc12 => ?_) (fun hc12 => ?_)
    · replace hc12 := Decidable.not_not.mp (mt bI_0.mpr hc12)
      exact absurd hc12 hb
    · replace hc12 := Decidable.not_not.mp hc12
      replace hc12 := (bI_0).mp hc12
      refine rk_bipush (v := (-2)) rfl (by decide) ?_
      exact rk_ireturn rfl rfl (Qe_of (by first | rfl | rw [if_neg (by assumption)] | rw [if_pos rfl]))
theorem m224_o {X : ai_X} {h : ai_H} {v A : Nat → Int32} {N : Nat → Nat} (c0 : h[52]? = some (cMdl v)) (c1 : h[53]? = some (cI 2346 A)) (hN : HN N) (M : MH A N) {i L : Nat} {code : Int32} {x : Nat → Nat} (hi : i < 4) (R : MRow h i (N 1) code L x) {w : Nat} {c : Int32} (hw : w < N 271) (hc : code = 0 → ¬ (¬ c < 0 ∧ ¬ nI L < c)) : Rk X am_224 3 (ai_loc (ai_mL am_224) [.ref 52, .int (nI i), .int (nI w), .int c]) [] h (Qe (if code = 0 then -3 else code) h) := by
  obtain ⟨a0, a1, a268, a269, a270, a271, apl, apc, aot, asg, awt⟩ := id M
  refine rk_iload_n rfl rfl ?_
  refine rk_i2l rfl rfl ?_
  refine rk_lconst (v := 0) rfl (by decide) ?_
  rw [show (0 : Int64) = (0 : Int32).toInt64 by decide]
  refine rk_ldc2 rfl ?_
  rw [show (3 : Int64) = (nI 3).toInt64 by decide]
  refine rk_cs3e rfl rfl rfl (Nat.le_of_ble_eq_true rfl) (Nat.le_of_ble_eq_true rfl) (s181 _ _ _) ?_
  refine rk_if_eq rfl rfl (fun hc8 => ?_) (fun hc8 => ?_)
  · replace hc8 := (bI_0).mp hc8
    exact absurd (in3_mk hi) hc8
  · replace hc8 := Decidable.not_not.mp (mt bI_0.mpr hc8)
    refine rk_aload_n rfl rfl ?_
    refine rk_iload_n rfl rfl ?_
    refine rk_cv1e rfl rfl (by assumption) rfl rfl (Nat.le_of_ble_eq_true rfl) (Nat.le_of_ble_eq_true rfl) (s209n c0 c1 a271 (by have := hN.w; omega) _) ?_
    refine rk_if_ne rfl rfl (fun hc12 => ?_) (fun hc12 => ?_)
    · replace hc12 := Decidable.not_not.mp (mt bI_0.mpr hc12)
      refine rk_aload_n rfl rfl ?_
      refine rk_iload_n rfl rfl ?_
      refine rk_cv1e rfl rfl (by assumption) rfl rfl (Nat.le_of_ble_eq_true rfl) (Nat.le_of_ble_eq_true rfl) (s221 c0 c1 a1 hN.t hi R) ?_
      refine rk_istore rfl (Nat.le_of_ble_eq_true rfl) rfl ?_
      refine rk_iload rfl rfl ?_
      refine rk_if_eq rfl rfl (fun hc20 => ?_) (fun hc20 => ?_)
      · subst hc20
        obtain ⟨rm, nu, c3, c4, hm, hL, hx⟩ := R.good
        refine rk_iload_n rfl rfl ?_
        refine rk_i2l rfl rfl ?_
        refine rk_lconst (v := 0) rfl (by decide) ?_
        rw [show (0 : Int64) = (0 : Int32).toInt64 by decide]
        refine rk_aload_n rfl rfl ?_
        refine rk_get rfl (by assumption) rfl ?_
        refine rk_iload_n rfl rfl ?_
        refine rk_iald rfl (by assumption) (rfl) (by omega) (by decide) ?_
        rw [hm]
        refine rk_i2l rfl rfl ?_
        refine rk_cs3e rfl rfl rfl (Nat.le_of_ble_eq_true rfl) (Nat.le_of_ble_eq_true rfl) (s181 _ _ _) ?_
        refine rk_if_eq rfl rfl (fun hc32 => ?_) (fun hc32 => ?_)
        · replace hc32 := (bI_0).mp hc32
          refine rk_bipush (v := (-3)) rfl (by decide) ?_
          exact rk_ireturn rfl rfl (Qe_of (by first | rfl | rw [if_neg (by assumption)] | rw [if_pos rfl]))
        · replace hc32 := Decidable.not_not.mp (mt bI_0.mpr hc32)
          exact absurd hc32 (hc rfl)
      · refine rk_iload rfl rfl ?_
        exact rk_ireturn rfl rfl (Qe_of (by first | rfl | rw [if_neg (by assumption)] | rw [if_pos rfl]))
    · replace hc12 := Decidable.not_not.mp hc12
      replace hc12 := (bI_0).mp hc12
      exact absurd (in_mk (by have := hN.w; omega) hw) hc12
theorem m224_v {X : ai_X} {h : ai_H} {v A : Nat → Int32} {N : Nat → Nat} (c0 : h[52]? = some (cMdl v)) (c1 : h[53]? = some (cI 2346 A)) (hN : HN N) (M : MH A N) {i L : Nat} {code : Int32} {x : Nat → Nat} (hi : i < 4) (R : MRow h i (N 1) code L x) {w j : Nat} (hw : w < N 271) (hj : code = 0 → j ≤ L) (hj2 : j < 2 ^ 31) : Rk X am_224 3 (ai_loc (ai_mL am_224) [.ref 52, .int (nI i), .int (nI w), .int (nI j)]) [] h (Qe (if code = 0 then nI (bh N x (wt N w) j) else code) h) := by
  obtain ⟨a0, a1, a268, a269, a270, a271, apl, apc, aot, asg, awt⟩ := id M
  refine rk_iload_n rfl rfl ?_
  refine rk_i2l rfl rfl ?_
  refine rk_lconst (v := 0) rfl (by decide) ?_
  rw [show (0 : Int64) = (0 : Int32).toInt64 by decide]
  refine rk_ldc2 rfl ?_
  rw [show (3 : Int64) = (nI 3).toInt64 by decide]
  refine rk_cs3e rfl rfl rfl (Nat.le_of_ble_eq_true rfl) (Nat.le_of_ble_eq_true rfl) (s181 _ _ _) ?_
  refine rk_if_eq rfl rfl (fun hc8 => ?_) (fun hc8 => ?_)
  · replace hc8 := (bI_0).mp hc8
    exact absurd (in3_mk hi) hc8
  · replace hc8 := Decidable.not_not.mp (mt bI_0.mpr hc8)
    refine rk_aload_n rfl rfl ?_
    refine rk_iload_n rfl rfl ?_
    refine rk_cv1e rfl rfl (by assumption) rfl rfl (Nat.le_of_ble_eq_true rfl) (Nat.le_of_ble_eq_true rfl) (s209n c0 c1 a271 (by have := hN.w; omega) _) ?_
    refine rk_if_ne rfl rfl (fun hc12 => ?_) (fun hc12 => ?_)
    · replace hc12 := Decidable.not_not.mp (mt bI_0.mpr hc12)
      refine rk_aload_n rfl rfl ?_
      refine rk_iload_n rfl rfl ?_
      refine rk_cv1e rfl rfl (by assumption) rfl rfl (Nat.le_of_ble_eq_true rfl) (Nat.le_of_ble_eq_true rfl) (s221 c0 c1 a1 hN.t hi R) ?_
      refine rk_istore rfl (Nat.le_of_ble_eq_true rfl) rfl ?_
      refine rk_iload rfl rfl ?_
      refine rk_if_eq rfl rfl (fun hc20 => ?_) (fun hc20 => ?_)
      · subst hc20
        obtain ⟨rm, nu, c3, c4, hm, hL, hx⟩ := R.good
        replace hj := hj rfl
        have hb := bh_lt hN (hN.xwt hw) j (fun i hi => (hx i (by omega)).1)
        have hn := hN.n
        have hww := hN.w
        refine rk_iload_n rfl rfl ?_
        refine rk_i2l rfl rfl ?_
        refine rk_lconst (v := 0) rfl (by decide) ?_
        rw [show (0 : Int64) = (0 : Int32).toInt64 by decide]
        refine rk_aload_n rfl rfl ?_
        refine rk_get rfl (by assumption) rfl ?_
        refine rk_iload_n rfl rfl ?_
        refine rk_iald rfl (by assumption) (rfl) (by omega) (by decide) ?_
        rw [hm]
        refine rk_i2l rfl rfl ?_
        refine rk_cs3e rfl rfl rfl (Nat.le_of_ble_eq_true rfl) (Nat.le_of_ble_eq_true rfl) (s181 _ _ _) ?_
        refine rk_if_eq rfl rfl (fun hc32 => ?_) (fun hc32 => ?_)
        · replace hc32 := (bI_0).mp hc32
          exact absurd (show ¬ nI j < 0 ∧ ¬ nI L < nI j from ⟨nI_pos (by omega), fun z => by rw [nI_ltI (by omega) (by omega)] at z; omega⟩) hc32
        · replace hc32 := Decidable.not_not.mp (mt bI_0.mpr hc32)
          refine rk_aload_n rfl rfl ?_
          refine rk_iload_n rfl rfl ?_
          refine rk_aload_n rfl rfl ?_
          refine rk_get rfl (by assumption) rfl ?_
          refine rk_sipush (v := nI 272) rfl (by decide) ?_
          refine rk_iload_n rfl rfl ?_
          refine rk_iadd rfl (nI_add _ _) ?_
          refine rk_iald rfl (by assumption) (rfl) (by omega) (by decide) ?_
          rw [awt w hw]
          refine rk_iload_n rfl rfl ?_
          refine rk_cv3e rfl rfl (by assumption) rfl rfl (Nat.le_of_ble_eq_true rfl) (Nat.le_of_ble_eq_true rfl) (s223 c0 c1 c4 hN M hi hx (by omega) hL (hN.xwt hw)) ?_
          refine rk_goto rfl rfl ?_
          exact rk_ireturn rfl rfl (Qe_of (by first | rfl | rw [if_neg (by assumption)] | rw [if_pos rfl]))
      · refine rk_iload rfl rfl ?_
        exact rk_ireturn rfl rfl (Qe_of (by first | rfl | rw [if_neg (by assumption)] | rw [if_pos rfl]))
    · replace hc12 := Decidable.not_not.mp hc12
      replace hc12 := (bI_0).mp hc12
      exact absurd (in_mk (by have := hN.w; omega) hw) hc12
theorem m229_x {X : ai_X} {h : ai_H} {v A : Nat → Int32} {N : Nat → Nat} (c0 : h[52]? = some (cMdl v)) (c1 : h[53]? = some (cI 2346 A)) (hN : HN N) (M : MH A N) {a b c : Int32} (ha : ¬ (¬ a < 0 ∧ ¬ nI 4 ≤ a)) : Rk X am_229 3 (ai_loc (ai_mL am_229) [.ref 52, .int a, .int b, .int c]) [] h (Qe (-2) h) := by
  obtain ⟨a0, a1, a268, a269, a270, a271, apl, apc, aot, asg, awt⟩ := id M
  refine rk_iload_n rfl rfl ?_
  refine rk_i2l rfl rfl ?_
  refine rk_lconst (v := 0) rfl (by decide) ?_
  rw [show (0 : Int64) = (0 : Int32).toInt64 by decide]
  refine rk_ldc2 rfl ?_
  rw [show (3 : Int64) = (nI 3).toInt64 by decide]
  refine rk_cs3e rfl rfl rfl (Nat.le_of_ble_eq_true rfl) (Nat.le_of_ble_eq_true rfl) (s181 _ _ _) ?_
  refine rk_if_eq rfl rfl (fun hc8 => ?_) (fun hc8 => ?_)
  · replace hc8 := (bI_0).mp hc8
    refine rk_bipush (v := (-2)) rfl (by decide) ?_
    exact rk_ireturn rfl rfl (Qe_of (by first | rfl | rw [if_neg (by assumption)] | rw [if_pos rfl]))
  · replace hc8 := Decidable.not_not.mp (mt bI_0.mpr hc8)
    exact absurd (in34.mp hc8) ha
theorem m229_y {X : ai_X} {h : ai_H} {v A : Nat → Int32} {N : Nat → Nat} (c0 : h[52]? = some (cMdl v)) (c1 : h[53]? = some (cI 2346 A)) (hN : HN N) (M : MH A N) {i : Nat} {b c : Int32} (hi : i < 4) (hb : ¬ (¬ b < 0 ∧ ¬ nI (N 271) ≤ b)) : Rk X am_229 3 (ai_loc (ai_mL am_229) [.ref 52, .int (nI i), .int b, .int c]) [] h (Qe (-2) h) := by
  obtain ⟨a0, a1, a268, a269, a270, a271, apl, apc, aot, asg, awt⟩ := id M
  refine rk_iload_n rfl rfl ?_
  refine rk_i2l rfl rfl ?_
  refine rk_lconst (v := 0) rfl (by decide) ?_
  rw [show (0 : Int64) = (0 : Int32).toInt64 by decide]
  refine rk_ldc2 rfl ?_
  rw [show (3 : Int64) = (nI 3).toInt64 by decide]
  refine rk_cs3e rfl rfl rfl (Nat.le_of_ble_eq_true rfl) (Nat.le_of_ble_eq_true rfl) (s181 _ _ _) ?_
  refine rk_if_eq rfl rfl (fun hc8 => ?_) (fun hc8 => ?_)
  · replace hc8 := (bI_0).mp hc8
    exact absurd (in3_mk hi) hc8
  · replace hc8 := Decidable.not_not.mp (mt bI_0.mpr hc8)
    refine rk_aload_n rfl rfl ?_
    refine rk_iload_n rfl rfl ?_
    refine rk_cv1e rfl rfl (by assumption) rfl rfl (Nat.le_of_ble_eq_true rfl) (Nat.le_of_ble_eq_true rfl) (s209n c0 c1 a271 (by have := hN.w; omega) _) ?_
    refine rk_if_ne rfl rfl (fun hc12 => ?_) (fun hc12 => ?_)
    · replace hc12 := Decidable.not_not.mp (mt bI_0.mpr hc12)
      exact absurd hc12 hb
    · replace hc12 := Decidable.not_not.mp hc12
      replace hc12 := (bI_0).mp hc12
      refine rk_bipush (v := (-2)) rfl (by decide) ?_
      exact rk_ireturn rfl rfl (Qe_of (by first | rfl | rw [if_neg (by assumption)] | rw [if_pos rfl]))
theorem m229_o {X : ai_X} {h : ai_H} {v A : Nat → Int32} {N : Nat → Nat} (c0 : h[52]? = some (cMdl v)) (c1 : h[53]? = some (cI 2346 A)) (hN : HN N) (M : MH A N) {i L : Nat} {code : Int32} {x : Nat → Nat} (hi : i < 4) (R : MRow h i (N 1) code L x) {w : Nat} {c : Int32} (hw : w < N 271) (hc : code = 0 → ¬ (¬ c < 0 ∧ ¬ nI L < c)) : Rk X am_229 3 (ai_loc (ai_mL am_229) [.ref 52, .int (nI i), .int (nI w), .int c]) [] h (Qe (if code = 0 then -3 else code) h) := by
  obtain ⟨a0, a1, a268, a269, a270, a271, apl, apc, aot, asg, awt⟩ := id M
  refine rk_iload_n rfl rfl ?_
  refine rk_i2l rfl rfl ?_
  refine rk_lconst (v := 0) rfl (by decide) ?_
  rw [show (0 : Int64) = (0 : Int32).toInt64 by decide]
  refine rk_ldc2 rfl ?_
  rw [show (3 : Int64) = (nI 3).toInt64 by decide]
  refine rk_cs3e rfl rfl rfl (Nat.le_of_ble_eq_true rfl) (Nat.le_of_ble_eq_true rfl) (s181 _ _ _) ?_
  refine rk_if_eq rfl rfl (fun hc8 => ?_) (fun hc8 => ?_)
  · replace hc8 := (bI_0).mp hc8
    exact absurd (in3_mk hi) hc8
  · replace hc8 := Decidable.not_not.mp (mt bI_0.mpr hc8)
    refine rk_aload_n rfl rfl ?_
    refine rk_iload_n rfl rfl ?_
    refine rk_cv1e rfl rfl (by assumption) rfl rfl (Nat.le_of_ble_eq_true rfl) (Nat.le_of_ble_eq_true rfl) (s209n c0 c1 a271 (by have := hN.w; omega) _) ?_
    refine rk_if_ne rfl rfl (fun hc12 => ?_) (fun hc12 => ?_)
    · replace hc12 := Decidable.not_not.mp (mt bI_0.mpr hc12)
      refine rk_aload_n rfl rfl ?_
      refine rk_iload_n rfl rfl ?_
      refine rk_cv1e rfl rfl (by assumption) rfl rfl (Nat.le_of_ble_eq_true rfl) (Nat.le_of_ble_eq_true rfl) (s221 c0 c1 a1 hN.t hi R) ?_
      refine rk_istore rfl (Nat.le_of_ble_eq_true rfl) rfl ?_
      refine rk_iload rfl rfl ?_
      refine rk_if_eq rfl rfl (fun hc20 => ?_) (fun hc20 => ?_)
      · subst hc20
        obtain ⟨rm, nu, c3, c4, hm, hL, hx⟩ := R.good
        refine rk_iload_n rfl rfl ?_
        refine rk_i2l rfl rfl ?_
        refine rk_lconst (v := 0) rfl (by decide) ?_
        rw [show (0 : Int64) = (0 : Int32).toInt64 by decide]
        refine rk_aload_n rfl rfl ?_
        refine rk_get rfl (by assumption) rfl ?_
        refine rk_iload_n rfl rfl ?_
        refine rk_iald rfl (by assumption) (rfl) (by omega) (by decide) ?_
        rw [hm]
        refine rk_i2l rfl rfl ?_
        refine rk_cs3e rfl rfl rfl (Nat.le_of_ble_eq_true rfl) (Nat.le_of_ble_eq_true rfl) (s181 _ _ _) ?_
        refine rk_if_eq rfl rfl (fun hc32 => ?_) (fun hc32 => ?_)
        · replace hc32 := (bI_0).mp hc32
          refine rk_bipush (v := (-3)) rfl (by decide) ?_
          exact rk_ireturn rfl rfl (Qe_of (by first | rfl | rw [if_neg (by assumption)] | rw [if_pos rfl]))
        · replace hc32 := Decidable.not_not.mp (mt bI_0.mpr hc32)
          exact absurd hc32 (hc rfl)
      · refine rk_iload rfl rfl ?_
        exact rk_ireturn rfl rfl (Qe_of (by first | rfl | rw [if_neg (by assumption)] | rw [if_pos rfl]))
    · replace hc12 := Decidable.not_not.mp hc12
      replace hc12 := (bI_0).mp hc12
      exact absurd (in_mk (by have := hN.w; omega) hw) hc12
theorem m229_v {X : ai_X} {h : ai_H} {v A : Nat → Int32} {N : Nat → Nat} (c0 : h[52]? = some (cMdl v)) (c1 : h[53]? = some (cI 2346 A)) (hN : HN N) (M : MH A N) {i L : Nat} {code : Int32} {x : Nat → Nat} (hi : i < 4) (R : MRow h i (N 1) code L x) {w j : Nat} (hw : w < N 271) (hj : code = 0 → j ≤ L) (hj2 : j < 2 ^ 31) : Rk X am_229 3 (ai_loc (ai_mL am_229) [.ref 52, .int (nI i), .int (nI w), .int (nI j)]) [] h (Qe (if code = 0 then nI (sg N (bh N x (wt N w) j)) else code) h) := by
  obtain ⟨a0, a1, a268, a269, a270, a271, apl, apc, aot, asg, awt⟩ := id M
  refine rk_iload_n rfl rfl ?_
  refine rk_i2l rfl rfl ?_
  refine rk_lconst (v := 0) rfl (by decide) ?_
  rw [show (0 : Int64) = (0 : Int32).toInt64 by decide]
  refine rk_ldc2 rfl ?_
  rw [show (3 : Int64) = (nI 3).toInt64 by decide]
  refine rk_cs3e rfl rfl rfl (Nat.le_of_ble_eq_true rfl) (Nat.le_of_ble_eq_true rfl) (s181 _ _ _) ?_
  refine rk_if_eq rfl rfl (fun hc8 => ?_) (fun hc8 => ?_)
  · replace hc8 := (bI_0).mp hc8
    exact absurd (in3_mk hi) hc8
  · replace hc8 := Decidable.not_not.mp (mt bI_0.mpr hc8)
    refine rk_aload_n rfl rfl ?_
    refine rk_iload_n rfl rfl ?_
    refine rk_cv1e rfl rfl (by assumption) rfl rfl (Nat.le_of_ble_eq_true rfl) (Nat.le_of_ble_eq_true rfl) (s209n c0 c1 a271 (by have := hN.w; omega) _) ?_
    refine rk_if_ne rfl rfl (fun hc12 => ?_) (fun hc12 => ?_)
    · replace hc12 := Decidable.not_not.mp (mt bI_0.mpr hc12)
      refine rk_aload_n rfl rfl ?_
      refine rk_iload_n rfl rfl ?_
      refine rk_cv1e rfl rfl (by assumption) rfl rfl (Nat.le_of_ble_eq_true rfl) (Nat.le_of_ble_eq_true rfl) (s221 c0 c1 a1 hN.t hi R) ?_
      refine rk_istore rfl (Nat.le_of_ble_eq_true rfl) rfl ?_
      refine rk_iload rfl rfl ?_
      refine rk_if_eq rfl rfl (fun hc20 => ?_) (fun hc20 => ?_)
      · subst hc20
        obtain ⟨rm, nu, c3, c4, hm, hL, hx⟩ := R.good
        replace hj := hj rfl
        have hb := bh_lt hN (hN.xwt hw) j (fun i hi => (hx i (by omega)).1)
        have hn := hN.n
        have hww := hN.w
        refine rk_iload_n rfl rfl ?_
        refine rk_i2l rfl rfl ?_
        refine rk_lconst (v := 0) rfl (by decide) ?_
        rw [show (0 : Int64) = (0 : Int32).toInt64 by decide]
        refine rk_aload_n rfl rfl ?_
        refine rk_get rfl (by assumption) rfl ?_
        refine rk_iload_n rfl rfl ?_
        refine rk_iald rfl (by assumption) (rfl) (by omega) (by decide) ?_
        rw [hm]
        refine rk_i2l rfl rfl ?_
        refine rk_cs3e rfl rfl rfl (Nat.le_of_ble_eq_true rfl) (Nat.le_of_ble_eq_true rfl) (s181 _ _ _) ?_
        refine rk_if_eq rfl rfl (fun hc32 => ?_) (fun hc32 => ?_)
        · replace hc32 := (bI_0).mp hc32
          exact absurd (show ¬ nI j < 0 ∧ ¬ nI L < nI j from ⟨nI_pos (by omega), fun z => by rw [nI_ltI (by omega) (by omega)] at z; omega⟩) hc32
        · replace hc32 := Decidable.not_not.mp (mt bI_0.mpr hc32)
          refine rk_aload_n rfl rfl ?_
          refine rk_get rfl (by assumption) rfl ?_
          refine rk_sipush (v := nI 254) rfl (by decide) ?_
          refine rk_aload_n rfl rfl ?_
          refine rk_iload_n rfl rfl ?_
          refine rk_aload_n rfl rfl ?_
          refine rk_get rfl (by assumption) rfl ?_
          refine rk_sipush (v := nI 272) rfl (by decide) ?_
          refine rk_iload_n rfl rfl ?_
          refine rk_iadd rfl (nI_add _ _) ?_
          refine rk_iald rfl (by assumption) (rfl) (by omega) (by decide) ?_
          rw [awt w hw]
          refine rk_iload_n rfl rfl ?_
          refine rk_cv3e rfl rfl (by assumption) rfl rfl (Nat.le_of_ble_eq_true rfl) (Nat.le_of_ble_eq_true rfl) (s223 c0 c1 c4 hN M hi hx (by omega) hL (hN.xwt hw)) ?_
          refine rk_iadd rfl (nI_add _ _) ?_
          refine rk_iald rfl (by assumption) (rfl) (by omega) (by decide) ?_
          rw [asg _ (by omega)]
          refine rk_goto rfl rfl ?_
          exact rk_ireturn rfl rfl (Qe_of (by first | rfl | rw [if_neg (by assumption)] | rw [if_pos rfl]))
      · refine rk_iload rfl rfl ?_
        exact rk_ireturn rfl rfl (Qe_of (by first | rfl | rw [if_neg (by assumption)] | rw [if_pos rfl]))
    · replace hc12 := Decidable.not_not.mp hc12
      replace hc12 := (bI_0).mp hc12
      exact absurd (in_mk (by have := hN.w; omega) hw) hc12
theorem c141_n {X : ai_X} {h : ai_H} {tp : Int32} {ro : Nat → Option Nat} {N : Nat → Nat} (d0 : h[0]? = some (cOne tp)) (hN : HN N) (C : CH h 3 N) (d19 : h[19]? = some (cR 3 4 ro)) (hro : ∀ i, i < 4 → ro i = some (44 + 2 * i)) (Q : ∃ n f, RouteAt h 17 n f) (O : InvO h) {a b c W : Int32} (hW : W < 0) (z : Mt X am_138 [.ref 0, .int a, .int b, .int c] h (Qi (fun y h1 => y = W ∧ SC h h1))) : Mt X am_141 [.ref 0, .int a, .int b, .int c] h (Qi (fun y h1 => y = W ∧ SC h h1)) := by
  have d3 := C.1
  refine rk_aload_n rfl rfl ?_
  refine rk_iload_n rfl rfl ?_
  refine rk_iload_n rfl rfl ?_
  refine rk_iload_n rfl rfl ?_
  refine rk_cv3i rfl rfl (by assumption) rfl rfl (Nat.le_of_ble_eq_true rfl) (Nat.le_of_ble_eq_true rfl) (z) (fun w h1 hF => ?_)
  obtain ⟨rfl, S⟩ := hF
  refine rk_istore rfl (Nat.le_of_ble_eq_true rfl) rfl ?_
  refine rk_iload rfl rfl ?_
  refine rk_if_ge rfl rfl (fun hc7 => ?_) (fun hc7 => ?_)
  · exact absurd hW (by rw [Int32.lt_iff_toInt_lt]; rw [Int32.le_iff_toInt_le] at hc7; omega)
  · refine rk_iload rfl rfl ?_
    refine rk_goto rfl rfl ?_
    exact rk_ireturn rfl rfl ⟨_, _, rfl, rfl, S⟩
theorem c141_v {X : ai_X} {h : ai_H} {tp : Int32} {ro : Nat → Option Nat} {N : Nat → Nat} (d0 : h[0]? = some (cOne tp)) (hN : HN N) (C : CH h 3 N) (d19 : h[19]? = some (cR 3 4 ro)) (hro : ∀ i, i < 4 → ro i = some (44 + 2 * i)) (Q : ∃ n f, RouteAt h 17 n f) (O : InvO h) {a b c : Int32} {r : Nat} (hr : r < 14) (z : Mt X am_138 [.ref 0, .int a, .int b, .int c] h (Qi (fun y h1 => y = nI r ∧ SC h h1))) : Mt X am_141 [.ref 0, .int a, .int b, .int c] h (Qi (fun y h1 => y = nI (sg N r) ∧ SC h h1)) := by
  have d3 := C.1
  refine rk_aload_n rfl rfl ?_
  refine rk_iload_n rfl rfl ?_
  refine rk_iload_n rfl rfl ?_
  refine rk_iload_n rfl rfl ?_
  refine rk_cv3i rfl rfl (by assumption) rfl rfl (Nat.le_of_ble_eq_true rfl) (Nat.le_of_ble_eq_true rfl) (z) (fun w h1 hF => ?_)
  obtain ⟨rfl, S⟩ := hF
  have e0 := (S.2.1 0 (by omega) (by omega) (by omega)).trans d0
  have C2 := C.fr (h1 := h1) (fun q _ _ => S.2.1 q (by omega) (by omega) (by omega))
  have e3 := C2.1
  refine rk_istore rfl (Nat.le_of_ble_eq_true rfl) rfl ?_
  refine rk_iload rfl rfl ?_
  refine rk_if_ge rfl rfl (fun hc7 => ?_) (fun hc7 => ?_)
  · replace hc7 := (n0_ge (by omega)).mp hc7
    refine rk_aload_n rfl rfl ?_
    refine rk_get rfl (by assumption) rfl ?_
    refine rk_iload rfl rfl ?_
    refine rk_cv1e rfl rfl (by assumption) rfl rfl (Nat.le_of_ble_eq_true rfl) (Nat.le_of_ble_eq_true rfl) (s30N C2 hr) ?_
    exact rk_ireturn rfl rfl ⟨_, _, rfl, rfl, S⟩
  · replace hc7 := mt (n0_ge (by omega)).mpr hc7
    exact absurd trivial hc7
theorem md_scr {X : ai_X} {M : ai_M} {ls : ai_L} {h : ai_H} {W : Int32} {pc0 len0 a0 b0 p0 q0 pc1 len1 a1 b1 p1 q1 pc2 len2 p2 q2 i2 : Nat} {x0 x1 x2 : Value} {v : Nat → Int32} (r0 : (ai_mR M)[0]? = some (pc0, .aload_n 0, len0, x0, a0, b0, p0, q0)) (r1 : (ai_mR M)[1]? = some (pc1, .iconst 0, len1, x1, a1, b1, p1, q1)) (r2 : (ai_mR M)[2]? = some (pc2, .putfield i2, len2, x2, 11, 0, p2, q2)) (l0 : ls[0]? = some (some (.ref 52))) (hv : h[52]? = some (cMdl v)) (z : ∀ h1 : ai_H, h1[52]? = some (cMdl (upd v 0 (nI 0))) → (∀ q : Nat, q ≠ 52 → h1[q]? = h[q]?) → Rk X M 3 ls [] h1 (Qe W h1)) : Rk X M 0 ls [] h (Qi (fun y h1 => y = W ∧ SM h h1)) := by
  refine (md_thr r0 r1 r2 l0 hv z).mono ?_
  rintro o ⟨w, h2, rfl, rfl, S2⟩
  exact ⟨_, _, rfl, rfl, S2.sm⟩
/-- behind the class's helpers and the model's 'thrown' -/
theorem SC.m2 {h h1 h2 : ai_H} (S : SC h h1) (hk : ∀ q : Nat, q ≠ 52 → h2[q]? = h1[q]?) {q : Nat} (hq : 44 ≤ q) (hq2 : q ≠ 52) : h2[q]? = h[q]? := (hk q hq2).trans (S.m hq)
theorem MRow.m2 {h h1 h2 : ai_H} (S : SC h h1) (hk : ∀ q : Nat, q ≠ 52 → h2[q]? = h1[q]?) {i t L : Nat} {code : Int32} {x : Nat → Nat} (H : MRow h i t code L x) : MRow h2 i t code L x := H.fr (fun q _ _ => S.m2 hk (by omega) (by omega))
theorem ob8 (X : ai_X) : O8 X Inv := by
  intro a b c
  refine ob_scr fun m c' s h I => ?_
  obtain ⟨tp, v, A, N, ro, d0, d52, d53, hN, C, M, d19, hro, Q, RR, O⟩ := I.dat
  by_cases ha : ¬ a < 0 ∧ ¬ nI 4 ≤ a
  · obtain ⟨i, hi, rfl⟩ := in_of (by omega) ha
    by_cases hb : ¬ b < 0 ∧ ¬ nI (N 271) ≤ b
    · have hww := hN.w
      obtain ⟨w, hw, rfl⟩ := in_of (by omega) hb
      obtain ⟨code, L, x, RC, RM⟩ := RR i hi
      by_cases hc : code = 0 → ¬ (¬ c < 0 ∧ ¬ nI L < c)
      · exact ⟨_, c138_o d0 hN C d19 hro Q O hi RC hw hc, fun h1 S => md_scr rfl rfl rfl rfl ((S.m (by omega)).trans d52) (fun h2 g2 hk => m224_o g2 ((S.m2 hk (by omega) (by omega)).trans d53) hN M hi (RM.m2 S hk) hw hc)⟩
      · have hc0 : code = 0 := Decidable.byContradiction fun z => hc (fun y => absurd y z)
        have hc1 : ¬ c < 0 ∧ ¬ nI L < c := Decidable.byContradiction fun z => hc (fun _ => z)
        subst hc0
        have hL := RC.x.1
        have hc2 : ¬ c < 0 ∧ ¬ nI (L + 1) ≤ c := by
          have := in_iff (n := L + 1) (x := c) (by omega)
          rw [pk_sub (by omega), show L + 1 - 1 = L by omega] at this
          exact this.mp hc1
        obtain ⟨j, hj, rfl⟩ := in_of (by omega) hc2
        refine ⟨_, c138_v d0 hN C d19 hro Q O hi RC hw (fun _ => by omega) (by omega), fun h1 S => md_scr rfl rfl rfl rfl ((S.m (by omega)).trans d52) (fun h2 g2 hk => ?_)⟩
        have z := m224_v (X := X) g2 ((S.m2 hk (by omega) (by omega)).trans d53) hN M hi (RM.m2 S hk) hw (j := j) (fun _ => by omega) (by omega)
        first | exact z | (rw [if_pos rfl] at z; exact z)
    · exact ⟨_, c138_y d0 hN C d19 hro Q O hi hb, fun h1 S => md_scr rfl rfl rfl rfl ((S.m (by omega)).trans d52) (fun h2 g2 hk => m224_y g2 ((S.m2 hk (by omega) (by omega)).trans d53) hN M hi hb)⟩
  · exact ⟨_, c138_x d0 hN C d19 hro Q O ha, fun h1 S => md_scr rfl rfl rfl rfl ((S.m (by omega)).trans d52) (fun h2 g2 hk => m224_x g2 ((S.m2 hk (by omega) (by omega)).trans d53) hN M ha)⟩
theorem CRow.neg {h : ai_H} {i t L : Nat} {code : Int32} {x : Nat → Nat} (H : CRow h i t code L x) : code = 0 ∨ code < 0 := by
  rcases H with ⟨z, -⟩ | ⟨so, f, -, hL, ⟨z, -⟩ | ⟨z, -, hx⟩⟩
  · right; rw [z]; decide
  · right; rw [z]; decide
  · exact Or.inl z
theorem ob11 (X : ai_X) : O11 X Inv := by
  intro a b c
  refine ob_scr fun m c' s h I => ?_
  obtain ⟨tp, v, A, N, ro, d0, d52, d53, hN, C, M, d19, hro, Q, RR, O⟩ := I.dat
  by_cases ha : ¬ a < 0 ∧ ¬ nI 4 ≤ a
  · obtain ⟨i, hi, rfl⟩ := in_of (by omega) ha
    by_cases hb : ¬ b < 0 ∧ ¬ nI (N 271) ≤ b
    · have hww := hN.w
      obtain ⟨w, hw, rfl⟩ := in_of (by omega) hb
      obtain ⟨code, L, x, RC, RM⟩ := RR i hi
      by_cases hc : code = 0 → ¬ (¬ c < 0 ∧ ¬ nI L < c)
      · exact ⟨_, c141_n d0 hN C d19 hro Q O (by rcases RC.neg with z | z; (rw [if_pos z]; decide); (by_cases y : code = 0; (rw [if_pos y]; decide); (rw [if_neg y]; exact z))) (c138_o d0 hN C d19 hro Q O hi RC hw hc), fun h1 S => md_scr rfl rfl rfl rfl ((S.m (by omega)).trans d52) (fun h2 g2 hk => m229_o g2 ((S.m2 hk (by omega) (by omega)).trans d53) hN M hi (RM.m2 S hk) hw hc)⟩
      · have hc0 : code = 0 := Decidable.byContradiction fun z => hc (fun y => absurd y z)
        have hc1 : ¬ c < 0 ∧ ¬ nI L < c := Decidable.byContradiction fun z => hc (fun _ => z)
        subst hc0
        have hL := RC.x.1
        have hc2 : ¬ c < 0 ∧ ¬ nI (L + 1) ≤ c := by
          have := in_iff (n := L + 1) (x := c) (by omega)
          rw [pk_sub (by omega), show L + 1 - 1 = L by omega] at this
          exact this.mp hc1
        obtain ⟨j, hj, rfl⟩ := in_of (by omega) hc2
        refine ⟨_, c141_v (r := bh N x (wt N w) j) d0 hN C d19 hro Q O (by have := bh_lt hN (hN.xwt hw) j (fun i hi => RC.x.2 i (by omega)); have := hN.n; omega) (by have z := c138_v (X := X) d0 hN C d19 hro Q O hi RC hw (j := j) (fun _ => by omega) (by omega); rw [if_pos rfl] at z; exact z), fun h1 S => md_scr rfl rfl rfl rfl ((S.m (by omega)).trans d52) (fun h2 g2 hk => ?_)⟩
        have z := m229_v (X := X) g2 ((S.m2 hk (by omega) (by omega)).trans d53) hN M hi (RM.m2 S hk) hw (j := j) (fun _ => by omega) (by omega)
        first | exact z | (rw [if_pos rfl] at z; exact z)
    · exact ⟨_, c141_n d0 hN C d19 hro Q O (by decide) (c138_y d0 hN C d19 hro Q O hi hb), fun h1 S => md_scr rfl rfl rfl rfl ((S.m (by omega)).trans d52) (fun h2 g2 hk => m229_y g2 ((S.m2 hk (by omega) (by omega)).trans d53) hN M hi hb)⟩
  · exact ⟨_, c141_n d0 hN C d19 hro Q O (by decide) (c138_x d0 hN C d19 hro Q O ha), fun h1 S => md_scr rfl rfl rfl rfl ((S.m (by omega)).trans d52) (fun h2 g2 hk => m229_x g2 ((S.m2 hk (by omega) (by omega)).trans d53) hN M ha)⟩
