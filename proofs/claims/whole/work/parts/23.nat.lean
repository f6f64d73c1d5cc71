/-! THE HOUSE IN NATURAL NUMBERS -/
theorem b_orU (a b : Nat) : nI a ||| nI b = nI (a ||| b) := by
  apply Int32.toBitVec_inj.mp
  apply BitVec.eq_of_toNat_eq
  rw [Int32.toBitVec_or, BitVec.toNat_or]
  show (a % 2 ^ 32) ||| (b % 2 ^ 32) = (a ||| b) % 2 ^ 32
  rw [Nat.or_mod_two_pow]
theorem b_andU (a b : Nat) : nI a &&& nI b = nI (a &&& b) := by
  apply Int32.toBitVec_inj.mp
  apply BitVec.eq_of_toNat_eq
  rw [Int32.toBitVec_and, BitVec.toNat_and]
  show (a % 2 ^ 32) &&& (b % 2 ^ 32) = (a &&& b) % 2 ^ 32
  rw [Nat.and_mod_two_pow]
theorem b_and1U (a : Nat) : nI a &&& nI 1 = nI (a % 2) := by
  rw [b_andU, Nat.and_one_is_mod]
theorem b_shlU (a : Nat) {k : Nat} (hk : k < 32) : nI a <<< (nI k &&& 31) = nI (a * 2 ^ k) := by
  apply Int32.toBitVec_inj.mp
  apply BitVec.eq_of_toNat_eq
  rw [Int32.toBitVec_shiftLeft, BitVec.shiftLeft_eq', BitVec.toNat_shiftLeft, b_sm k hk]
  show (a % 2 ^ 32) <<< k % 2 ^ 32 = (a * 2 ^ k) % 2 ^ 32
  rw [Nat.shiftLeft_eq, Nat.mul_mod, Nat.mod_mod, ← Nat.mul_mod]
theorem b_1shlU {k : Nat} (hk : k < 32) : nI 1 <<< (nI k &&& 31) = nI (2 ^ k) := by
  rw [b_shlU 1 hk, Nat.one_mul]
/-- ways, chances, signs, waiters, by their places -/
abbrev pl (N : Nat → Nat) (r i : Nat) : Nat := N (2 + (6 * r + i))
abbrev ot (N : Nat → Nat) (r i : Nat) : Nat := N (86 + (6 * r + i))
abbrev pct (N : Nat → Nat) (r i : Nat) : Nat := N (170 + (6 * r + i))
abbrev sg (N : Nat → Nat) (r : Nat) : Nat := N (254 + r)
abbrev wt (N : Nat → Nat) (w : Nat) : Nat := N (272 + w)
def HN (N : Nat → Nat) : Prop :=
  ((N 0 = 0 ∧ N 1 = 0 ∧ N 271 = 0) ∨ (2 ≤ N 0 ∧ N 0 ≤ 14 ∧ 1 ≤ N 1 ∧ N 1 ≤ 6)) ∧ N 271 ≤ 8 ∧ (N 270 < N 0 ∨ (N 0 = 0 ∧ N 270 = 0)) ∧ N 268 < 2 ^ N 0 ∧ N 269 < 2 ^ N 0 ∧
  (∀ r i, r < N 0 → i < N 1 → pl N r i < N 0) ∧ (∀ r i, r < 14 → i < 6 → pct N r i < 100 ∧ (0 < pct N r i → r < N 0 ∧ i < N 1 ∧ ot N r i < N 0)) ∧ (∀ r, r < 14 → sg N r < 10) ∧ (∀ w, w < N 271 → wt N w < N 0)
theorem HN.n {N : Nat → Nat} (H : HN N) : N 0 ≤ 14 := by have := H.1; omega
theorem HN.t {N : Nat → Nat} (H : HN N) : N 1 ≤ 6 := by have := H.1; omega
theorem HN.w {N : Nat → Nat} (H : HN N) : N 271 ≤ 8 := H.2.1
theorem HN.xpl {N : Nat → Nat} (H : HN N) {r i : Nat} (hr : r < N 0) (hi : i < N 1) : pl N r i < N 0 := H.2.2.2.2.2.1 r i hr hi
theorem HN.xpct {N : Nat → Nat} (H : HN N) {r i : Nat} (hr : r < 14) (hi : i < 6) : pct N r i < 100 := (H.2.2.2.2.2.2.1 r i hr hi).1
theorem HN.xot {N : Nat → Nat} (H : HN N) {r i : Nat} (hr : r < 14) (hi : i < 6) (h : 0 < pct N r i) : ot N r i < N 0 := ((H.2.2.2.2.2.2.1 r i hr hi).2 h).2.2
theorem HN.xsg {N : Nat → Nat} (H : HN N) {r : Nat} (hr : r < 14) : sg N r < 10 := H.2.2.2.2.2.2.2.1 r hr
theorem HN.xwt {N : Nat → Nat} (H : HN N) {w : Nat} (hw : w < N 271) : wt N w < N 0 := H.2.2.2.2.2.2.2.2 w hw
theorem HN.bar {N : Nat → Nat} (H : HN N) : N 268 < 16384 := Nat.lt_of_lt_of_le H.2.2.2.1 (b_p14 H.n)
theorem HN.two {N : Nat → Nat} (H : HN N) : N 269 < 16384 := Nat.lt_of_lt_of_le H.2.2.2.2.1 (b_p14 H.n)
theorem HN.pan {N : Nat → Nat} (H : HN N) : N 270 ≤ 13 := by have := H.n; have := H.2.2.1; omega
abbrev cHo (p : Nat) (N : Nat → Nat) : ai_C := .inr (2, [.int (nI (N 0)), .int (nI (N 1)), .int (nI (N 280)), .int (nI (N 270)), .int (nI (N 271)), .int (nI (N 268)), .int (nI (N 269)), .ref (p + 1), .ref (p + 2), .ref (p + 3), .ref (p + 4), .ref (p + 5)])
/-- the class's house at p has these numbers -/
def CH (h : ai_H) (p : Nat) (N : Nat → Nat) : Prop :=
  h[p]? = some (cHo p N) ∧ ∃ G : Nat → Nat → Int32, h[p + 1]? = some (cI 84 (G 0)) ∧ h[p + 2]? = some (cI 84 (G 1)) ∧ h[p + 3]? = some (cI 84 (G 2)) ∧ h[p + 4]? = some (cI 14 (G 3)) ∧ h[p + 5]? = some (cI 8 (G 4)) ∧
  (∀ r i, r < N 0 → i < N 1 → G 0 (r * 6 + i) = nI (pl N r i)) ∧ (∀ r i, r < 14 → i < 6 → G 2 (r * 6 + i) = nI (pct N r i)) ∧ (∀ r i, r < 14 → i < 6 → 0 < pct N r i → G 1 (r * 6 + i) = nI (ot N r i)) ∧ (∀ r, r < 14 → G 3 r = nI (sg N r)) ∧ (∀ w, w < N 271 → G 4 w = nI (wt N w))
/-- the model's row has these numbers -/
def MH (A : Nat → Int32) (N : Nat → Nat) : Prop :=
  A 0 = nI (N 0) ∧ A 1 = nI (N 1) ∧ A 268 = nI (N 268) ∧ A 269 = nI (N 269) ∧ A 270 = nI (N 270) ∧ A 271 = nI (N 271) ∧
  (∀ r i, r < N 0 → i < N 1 → A (2 + (6 * r + i)) = nI (pl N r i)) ∧ (∀ r i, r < 14 → i < 6 → A (170 + (6 * r + i)) = nI (pct N r i)) ∧ (∀ r i, r < N 0 → i < N 1 → A (86 + (6 * r + i)) = if pct N r i = 0 then -1 else nI (ot N r i)) ∧ (∀ r, r < 14 → A (254 + r) = nI (sg N r)) ∧ (∀ w, w < N 271 → A (272 + w) = nI (wt N w))
theorem CH.fr {h h1 : ai_H} {p : Nat} {N : Nat → Nat} (hk : ∀ q, p ≤ q → q < p + 6 → h1[q]? = h[q]?) (H : CH h p N) : CH h1 p N := by
  obtain ⟨c0, G, c1, c2, c3, c4, c5, r⟩ := H
  exact ⟨(hk _ (by omega) (by omega)).trans c0, G, (hk _ (by omega) (by omega)).trans c1, (hk _ (by omega) (by omega)).trans c2, (hk _ (by omega) (by omega)).trans c3, (hk _ (by omega) (by omega)).trans c4, (hk _ (by omega) (by omega)).trans c5, r⟩
theorem nI_cl {a : Int32} (h : ∃ x, x < 2 ^ 31 ∧ a = nI x) : a = nI a.toNatClampNeg := by
  obtain ⟨x, hx, rfl⟩ := h
  rw [cl_nI hx]
theorem HV.nat {A : Nat → Int32} {n t w off : Nat} (h : HV A off n t w) (F : Nat → Int32) (G : Nat → Nat → Int32) (hC : HC F G A off) : ∃ N : Nat → Nat, HN N ∧ N 0 = n ∧ N 1 = t ∧ N 271 = w ∧ (∀ k, N k = (A (off + k)).toNatClampNeg) ∧ MH (fun k => A (off + k)) N ∧ F 0 = nI (N 0) ∧ F 1 = nI (N 1) ∧ F 2 = nI (N 280) ∧ F 3 = nI (N 270) ∧ F 4 = nI (N 271) ∧ F 5 = nI (N 268) ∧ F 6 = nI (N 269) ∧ (∀ r i, r < N 0 → i < N 1 → G 0 (r * 6 + i) = nI (pl N r i)) ∧ (∀ r i, r < 14 → i < 6 → G 2 (r * 6 + i) = nI (pct N r i)) ∧ (∀ r i, r < 14 → i < 6 → 0 < pct N r i → G 1 (r * 6 + i) = nI (ot N r i)) ∧ (∀ r, r < 14 → G 3 r = nI (sg N r)) ∧ (∀ w, w < N 271 → G 4 w = nI (wt N w)) := by
  obtain ⟨q1, q2, q3, q4, ⟨ll, ql1, ql2⟩, q6, ⟨p, qp, qp'⟩, ⟨b1, qb1, qb1'⟩, ⟨b2, qb2, qb2'⟩, qs, qw, ql, qc⟩ := h
  obtain ⟨f0, f1, f2, f3, f4, f5, f6, g3, g2, g4, g01⟩ := hC
  have hn : n ≤ 14 := by omega
  have ht : t ≤ 6 := by omega
  have hp14 := b_p14 hn
  obtain ⟨N, hN⟩ : ∃ N : Nat → Nat, ∀ k, N k = (A (off + k)).toNatClampNeg := ⟨_, fun _ => rfl⟩
  have cl : ∀ k x, x < 2 ^ 31 → A (off + k) = nI x → N k = x := by
    intro k x hx e
    rw [hN, e, cl_nI hx]
  have N0 : N 0 = n := cl 0 n (by omega) q1
  have N1 : N 1 = t := cl 1 t (by omega) q2
  have N271 : N 271 = w := cl 271 w (by omega) q3
  have N270 : N 270 = p := cl 270 p (by omega) qp
  have N268 : N 268 = b1 := cl 268 b1 (by omega) qb1
  have N269 : N 269 = b2 := cl 269 b2 (by omega) qb2
  have N280 : N 280 = ll := cl 280 ll (by omega) ql2
  have hpl : ∀ r i, r < n → i < t → A (off + (2 + (6 * r + i))) = nI (pl N r i) ∧ pl N r i < n := by
    intro r i hr hi
    obtain ⟨q, hq, e⟩ := ql r i hr hi
    rw [show off + 2 + (6 * r + i) = off + (2 + (6 * r + i)) by omega] at e
    have z : pl N r i = q := cl _ q (by omega) e
    rw [e, z]
    exact ⟨rfl, hq⟩
  have hpc : ∀ r i, r < 14 → i < 6 → A (off + (170 + (6 * r + i))) = nI (pct N r i) ∧ pct N r i < 100 ∧ (n = 0 ∨ (pct N r i = 0 ↔ A (off + (86 + (6 * r + i))) = -1)) ∧ (0 < pct N r i → r < n ∧ i < t ∧ ot N r i < n ∧ A (off + (86 + (6 * r + i))) = nI (ot N r i)) := by
    intro r i hr hi
    obtain ⟨c, hc, e, hz, hq⟩ := qc r i hr hi
    rw [show off + 170 + (6 * r + i) = off + (170 + (6 * r + i)) by omega] at e
    rw [show off + 86 + (6 * r + i) = off + (86 + (6 * r + i)) by omega] at hz hq
    have z : pct N r i = c := cl _ c (by omega) e
    rw [e, z]
    refine ⟨rfl, hc, hz, fun z => ?_⟩
    obtain ⟨x, y, q, d, e2⟩ := hq z
    have z2 : ot N r i = q := cl _ q (by omega) e2
    rw [e2, z2]
    exact ⟨x, y, d, rfl⟩
  have hsg : ∀ k, k < 14 → A (off + (254 + k)) = nI (sg N k) ∧ sg N k < 10 := by
    intro k hk
    obtain ⟨g, hg, e⟩ := qs k hk
    rw [show off + 254 + k = off + (254 + k) by omega] at e
    have z : sg N k = g := cl _ g (by omega) e
    rw [e, z]
    exact ⟨rfl, hg⟩
  have hwt : ∀ k, k < w → A (off + (272 + k)) = nI (wt N k) ∧ wt N k < n := by
    intro k hk
    obtain ⟨g, hg, e⟩ := qw k hk
    rw [show off + 272 + k = off + (272 + k) by omega] at e
    have z : wt N k = g := cl _ g (by omega) e
    rw [e, z]
    exact ⟨rfl, hg⟩
  have T0 : ∀ r, r < n → ¬ F 1 = 0 := by
    intro r hr
    rw [f1, q2, n0_eq (by omega)]
    omega
  refine ⟨N, ?_, N0, N1, N271, hN, ?_, f0.trans (by rw [q1, N0]), f1.trans (by rw [q2, N1]), f2.trans (by rw [ql2, N280]), f3.trans (by rw [qp, N270]), f4.trans (by rw [q3, N271]), f5.trans (by rw [qb1, N268]), f6.trans (by rw [qb2, N269]), ?_, ?_, ?_, ?_, ?_⟩
  · unfold HN
    rw [N0, N1, N271, N270, N268, N269]
    exact ⟨by omega, q4, qp', qb1', qb2', fun r i hr hi => (hpl r i hr hi).2, fun r i hr hi => ⟨(hpc r i hr hi).2.1, fun z => ⟨((hpc r i hr hi).2.2.2 z).1, ((hpc r i hr hi).2.2.2 z).2.1, ((hpc r i hr hi).2.2.2 z).2.2.1⟩⟩, fun r hr => (hsg r hr).2, fun k hk => (hwt k hk).2⟩
  · unfold MH
    rw [N0, N1, N271, N270, N268, N269]
    refine ⟨q1, q2, qb1, qb2, qp, q3, fun r i hr hi => (hpl r i hr hi).1, fun r i hr hi => (hpc r i hr hi).1, fun r i hr hi => ?_, fun r hr => (hsg r hr).1, fun k hk => (hwt k hk).1⟩
    obtain ⟨-, -, hz, hq⟩ := hpc r i (by omega) (by omega)
    by_cases hc0 : pct N r i = 0
    · rw [if_pos hc0]
      rcases hz with hz | hz
      · omega
      · exact hz.mp hc0
    · rw [if_neg hc0]
      exact (hq (by omega)).2.2.2
  · intro r i hr hi
    rw [N0] at hr
    rw [N1] at hi
    rw [(g01 (T0 r hr) (r * 6 + i) (by omega)).1, show off + 2 + (r * 6 + i) = off + (2 + (6 * r + i)) by omega]
    exact (hpl r i hr hi).1
  · intro r i hr hi
    rw [g2 (r * 6 + i) (by omega), show off + 170 + (r * 6 + i) = off + (170 + (6 * r + i)) by omega]
    exact (hpc r i hr hi).1
  · intro r i hr hi hz
    obtain ⟨a, b, c, d⟩ := (hpc r i hr hi).2.2.2 hz
    rw [(g01 (T0 r a) (r * 6 + i) (by omega)).2, show off + 86 + (r * 6 + i) = off + (86 + (6 * r + i)) by omega]
    exact d
  · intro r hr
    rw [g3 r hr, show off + 254 + r = off + (254 + r) by omega]
    exact (hsg r hr).1
  · intro k hk
    rw [N271] at hk
    rw [g4 k (by rw [f4, q3, cl_nI (by omega)]; exact hk), show off + 272 + k = off + (272 + k) by omega]
    exact (hwt k hk).1
/-- between two calls class and model hold one house -/
theorem house_nat {h : ai_H} {A F : Nat → Int32} {G : Nat → Nat → Int32} {n t w : Nat} (hH : HouseAt h 3 F G) (hC : HC F G A 0) (hV : HV A 0 n t w) : ∃ N, HN N ∧ N 0 = n ∧ N 1 = t ∧ N 271 = w ∧ CH h 3 N ∧ MH A N := by
  obtain ⟨N, hN, e0, e1, e2, -, hM, f0, f1, f2, f3, f4, f5, f6, g⟩ := hV.nat F G hC
  refine ⟨N, hN, e0, e1, e2, ?_, ?_⟩
  · obtain ⟨c0, c1, c2, c3, c4, c5⟩ := hH
    refine ⟨?_, G, c1, c2, c3, c4, c5, g⟩
    rw [c0]
    simp only [cHouse, cHo, f0, f1, f2, f3, f4, f5, f6]
  · simpa only [Nat.zero_add] using hM
/-! leaves -/
theorem s23N {X : ai_X} {h : ai_H} {p : Nat} {N : Nat → Nat} (H : CH h p N) (x : Int32) : Mt X am_23 [.ref p, .int x] h (Qe (bI (¬ x < 0 ∧ ¬ nI (N 0) ≤ x)) h) := by
  obtain ⟨c0, G, c1, c2, c3, c4, c5, g1, g2, g3, g4, g5⟩ := id H
  refine rk_iload_n rfl rfl ?_
  refine rk_if_lt rfl rfl (fun hc1 => ?_) (fun hc1 => ?_)
  · refine rk_iconst (v := nI 0) rfl (by decide) ?_
    exact rk_ireturn rfl (by decide) (Qe_of (by first | (simp [bI, nI_0, nI_one, *]; done) | (rw [bI, if_pos ⟨by assumption, by assumption⟩]; rfl) | (rw [bI, if_neg (fun z => z.2 (by assumption))]; rfl)))
  · refine rk_iload_n rfl rfl ?_
    refine rk_aload_n rfl rfl ?_
    refine rk_get rfl (by assumption) rfl ?_
    refine rk_icmp_ge rfl rfl (fun hc5 => ?_) (fun hc5 => ?_)
    · refine rk_iconst (v := nI 0) rfl (by decide) ?_
      exact rk_ireturn rfl (by decide) (Qe_of (by first | (simp [bI, nI_0, nI_one, *]; done) | (rw [bI, if_pos ⟨by assumption, by assumption⟩]; rfl) | (rw [bI, if_neg (fun z => z.2 (by assumption))]; rfl)))
    · refine rk_iconst (v := nI 1) rfl (by decide) ?_
      refine rk_goto rfl rfl ?_
      exact rk_ireturn rfl (by decide) (Qe_of (by first | (simp [bI, nI_0, nI_one, *]; done) | (rw [bI, if_pos ⟨by assumption, by assumption⟩]; rfl) | (rw [bI, if_neg (fun z => z.2 (by assumption))]; rfl)))
theorem s24N {X : ai_X} {h : ai_H} {p : Nat} {N : Nat → Nat} (H : CH h p N) (x : Int32) : Mt X am_24 [.ref p, .int x] h (Qe (bI (¬ x < 0 ∧ ¬ nI (N 1) ≤ x)) h) := by
  obtain ⟨c0, G, c1, c2, c3, c4, c5, g1, g2, g3, g4, g5⟩ := id H
  refine rk_iload_n rfl rfl ?_
  refine rk_if_lt rfl rfl (fun hc1 => ?_) (fun hc1 => ?_)
  · refine rk_iconst (v := nI 0) rfl (by decide) ?_
    exact rk_ireturn rfl (by decide) (Qe_of (by first | (simp [bI, nI_0, nI_one, *]; done) | (rw [bI, if_pos ⟨by assumption, by assumption⟩]; rfl) | (rw [bI, if_neg (fun z => z.2 (by assumption))]; rfl)))
  · refine rk_iload_n rfl rfl ?_
    refine rk_aload_n rfl rfl ?_
    refine rk_get rfl (by assumption) rfl ?_
    refine rk_icmp_ge rfl rfl (fun hc5 => ?_) (fun hc5 => ?_)
    · refine rk_iconst (v := nI 0) rfl (by decide) ?_
      exact rk_ireturn rfl (by decide) (Qe_of (by first | (simp [bI, nI_0, nI_one, *]; done) | (rw [bI, if_pos ⟨by assumption, by assumption⟩]; rfl) | (rw [bI, if_neg (fun z => z.2 (by assumption))]; rfl)))
    · refine rk_iconst (v := nI 1) rfl (by decide) ?_
      refine rk_goto rfl rfl ?_
      exact rk_ireturn rfl (by decide) (Qe_of (by first | (simp [bI, nI_0, nI_one, *]; done) | (rw [bI, if_pos ⟨by assumption, by assumption⟩]; rfl) | (rw [bI, if_neg (fun z => z.2 (by assumption))]; rfl)))
theorem s25N {X : ai_X} {h : ai_H} {p : Nat} {N : Nat → Nat} (H : CH h p N) (x : Int32) : Mt X am_25 [.ref p, .int x] h (Qe (bI (¬ x < 0 ∧ ¬ nI (N 271) ≤ x)) h) := by
  obtain ⟨c0, G, c1, c2, c3, c4, c5, g1, g2, g3, g4, g5⟩ := id H
  refine rk_iload_n rfl rfl ?_
  refine rk_if_lt rfl rfl (fun hc1 => ?_) (fun hc1 => ?_)
  · refine rk_iconst (v := nI 0) rfl (by decide) ?_
    exact rk_ireturn rfl (by decide) (Qe_of (by first | (simp [bI, nI_0, nI_one, *]; done) | (rw [bI, if_pos ⟨by assumption, by assumption⟩]; rfl) | (rw [bI, if_neg (fun z => z.2 (by assumption))]; rfl)))
  · refine rk_iload_n rfl rfl ?_
    refine rk_aload_n rfl rfl ?_
    refine rk_get rfl (by assumption) rfl ?_
    refine rk_icmp_ge rfl rfl (fun hc5 => ?_) (fun hc5 => ?_)
    · refine rk_iconst (v := nI 0) rfl (by decide) ?_
      exact rk_ireturn rfl (by decide) (Qe_of (by first | (simp [bI, nI_0, nI_one, *]; done) | (rw [bI, if_pos ⟨by assumption, by assumption⟩]; rfl) | (rw [bI, if_neg (fun z => z.2 (by assumption))]; rfl)))
    · refine rk_iconst (v := nI 1) rfl (by decide) ?_
      refine rk_goto rfl rfl ?_
      exact rk_ireturn rfl (by decide) (Qe_of (by first | (simp [bI, nI_0, nI_one, *]; done) | (rw [bI, if_pos ⟨by assumption, by assumption⟩]; rfl) | (rw [bI, if_neg (fun z => z.2 (by assumption))]; rfl)))
theorem s27N {X : ai_X} {h : ai_H} {p : Nat} {N : Nat → Nat} (H : CH h p N) {r i : Nat} (hN : HN N) (hr : r < N 0) (hi : i < N 1) : Mt X am_27 [.ref p, .int (nI r), .int (nI i)] h (Qe (nI (pl N r i)) h) := by
  obtain ⟨c0, G, c1, c2, c3, c4, c5, g1, g2, g3, g4, g5⟩ := id H
  have := hN.n
  have := hN.t
  refine rk_aload_n rfl rfl ?_
  refine rk_get rfl (by assumption) rfl ?_
  refine rk_iload_n rfl rfl ?_
  refine rk_bipush (v := nI 6) rfl (by decide) ?_
  refine rk_imul rfl (pk_mul _ _) ?_
  refine rk_iload_n rfl rfl ?_
  refine rk_iadd rfl (nI_add _ _) ?_
  refine rk_iald rfl (by assumption) (rfl) (by omega) (by decide) ?_
  rw [g1 r i hr hi]
  exact rk_ireturn rfl rfl Qe_mk
theorem s29N {X : ai_X} {h : ai_H} {p : Nat} {N : Nat → Nat} (H : CH h p N) {r i : Nat} (hr : r < 14) (hi : i < 6) : Mt X am_29 [.ref p, .int (nI r), .int (nI i)] h (Qe (nI (pct N r i)) h) := by
  obtain ⟨c0, G, c1, c2, c3, c4, c5, g1, g2, g3, g4, g5⟩ := id H
  refine rk_aload_n rfl rfl ?_
  refine rk_get rfl (by assumption) rfl ?_
  refine rk_iload_n rfl rfl ?_
  refine rk_bipush (v := nI 6) rfl (by decide) ?_
  refine rk_imul rfl (pk_mul _ _) ?_
  refine rk_iload_n rfl rfl ?_
  refine rk_iadd rfl (nI_add _ _) ?_
  refine rk_iald rfl (by assumption) (rfl) (by omega) (by decide) ?_
  rw [g2 r i hr hi]
  exact rk_ireturn rfl rfl Qe_mk
theorem s28N {X : ai_X} {h : ai_H} {p : Nat} {N : Nat → Nat} (H : CH h p N) {r i : Nat} (hr : r < 14) (hi : i < 6) (hp : 0 < pct N r i) : Mt X am_28 [.ref p, .int (nI r), .int (nI i)] h (Qe (nI (ot N r i)) h) := by
  obtain ⟨c0, G, c1, c2, c3, c4, c5, g1, g2, g3, g4, g5⟩ := id H
  refine rk_aload_n rfl rfl ?_
  refine rk_get rfl (by assumption) rfl ?_
  refine rk_iload_n rfl rfl ?_
  refine rk_bipush (v := nI 6) rfl (by decide) ?_
  refine rk_imul rfl (pk_mul _ _) ?_
  refine rk_iload_n rfl rfl ?_
  refine rk_iadd rfl (nI_add _ _) ?_
  refine rk_iald rfl (by assumption) (rfl) (by omega) (by decide) ?_
  rw [g3 r i hr hi hp]
  exact rk_ireturn rfl rfl Qe_mk
theorem s30N {X : ai_X} {h : ai_H} {p : Nat} {N : Nat → Nat} (H : CH h p N) {r : Nat} (hr : r < 14) : Mt X am_30 [.ref p, .int (nI r)] h (Qe (nI (sg N r)) h) := by
  obtain ⟨c0, G, c1, c2, c3, c4, c5, g1, g2, g3, g4, g5⟩ := id H
  refine rk_aload_n rfl rfl ?_
  refine rk_get rfl (by assumption) rfl ?_
  refine rk_iload_n rfl rfl ?_
  refine rk_iald rfl (by assumption) (rfl) (by omega) (by decide) ?_
  rw [g4 r hr]
  exact rk_ireturn rfl rfl Qe_mk
theorem s31N {X : ai_X} {h : ai_H} {p : Nat} {N : Nat → Nat} (H : CH h p N) {w : Nat} (hw : w < N 271) (hN : HN N) : Mt X am_31 [.ref p, .int (nI w)] h (Qe (nI (wt N w)) h) := by
  obtain ⟨c0, G, c1, c2, c3, c4, c5, g1, g2, g3, g4, g5⟩ := id H
  have := hN.w
  refine rk_aload_n rfl rfl ?_
  refine rk_get rfl (by assumption) rfl ?_
  refine rk_iload_n rfl rfl ?_
  refine rk_iald rfl (by assumption) (rfl) (by omega) (by decide) ?_
  rw [g5 w hw]
  exact rk_ireturn rfl rfl Qe_mk
theorem s210N {X : ai_X} {h : ai_H} {v A : Nat → Int32} {N : Nat → Nat} (c0 : h[52]? = some (cMdl v)) (c1 : h[53]? = some (cI 2346 A)) (H : MH A N) {r i : Nat} (hN : HN N) (hr : r < N 0) (hi : i < N 1) : Mt X am_210 [.ref 52, .int (nI r), .int (nI i)] h (Qe (nI (pl N r i)) h) := by
  obtain ⟨a0, a1, a268, a269, a270, a271, apl, apc, aot, asg, awt⟩ := id H
  have := hN.n
  have := hN.t
  refine rk_aload_n rfl rfl ?_
  refine rk_get rfl (by assumption) rfl ?_
  refine rk_iconst (v := nI 2) rfl (by decide) ?_
  refine rk_iload_n rfl rfl ?_
  refine rk_iload_n rfl rfl ?_
  refine rk_cs2e rfl rfl rfl (Nat.le_of_ble_eq_true rfl) (Nat.le_of_ble_eq_true rfl) (s196) ?_
  refine rk_iadd rfl (nI_add _ _) ?_
  refine rk_iald rfl (by assumption) (rfl) (by omega) (by decide) ?_
  rw [apl r i hr hi]
  exact rk_ireturn rfl rfl Qe_mk
