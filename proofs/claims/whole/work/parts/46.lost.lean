/-! LOST: behind its search -/
def CE3 (h h1 : ai_H) (b : Option Nat) (w : Int32) (B : Bf) (g : Nat → Bool) : Prop := h1.length = h.length + nc b ∧ (∀ q : Nat, q < h.length → q ≠ 15 → q ≠ 16 → q ≠ 23 → q ≠ 25 → q ≠ 33 → q ≠ 35 → ¬ (np b h.length ≤ q ∧ q < np b h.length + 3) → h1[q]? = h[q]?) ∧ (∃ f, h1[25]? = some (cI 1536 f) ∧ ∀ j, j < 12 → f (128 * j) = 0) ∧ (∃ n, h1[33]? = some (.inr (1, [.ref 3, .ref 22, .ref 34, .ref 35, .int n]))) ∧ SrchAt h1 23 30001 65536 (some (np b h.length)) ∧ CF h h1 w B g
theorem fin3 {m c s mk x : Nat} {h h1 h2 h3 : ai_H} {tp : Nat} {T A A1 im rs rm v : Nat → Int32} {nu : Nat → Int64} {fk fp W W1 : Int32} {b : Nat → Option Nat} {N : Nat → Nat} {B : Bf} {g : Nat → Bool} {nx : Nat → Nat → Nat} {ok : Nat → Bool} (hP : InvP m c s h tp T A im rs rm nu fk fp b) (hV : HV A 0 (N 0) (N 1) (N 271)) (hFV : FV A 0 (N 1)) (hmk : mk ≤ 4000 * m + 3999) (hv : v 5 = nI tp ∧ v 13 = fk ∧ v 14 = fp) (E : CE3 h h1 (b 3) W B g) (hk : ∀ q : Nat, q ≠ 52 → h2[q]? = h1[q]?) (F : FrF h2 h3) (Mw : MW h3 v (mk + 1)) (c53 : h3[53]? = some (cI 2346 A1)) (Mf : MF A A1 W1 B g) (hB : BI nx ok (N 1) x B) (hl : h2.length = h1.length) (k : ai_Sk h h3) : Inv (m + 1) (c + nc (b 3)) (s + ns (b 3) 125538) h3 := by
  obtain ⟨hA, hBB, hR, hI, hS, hO, hM, hVV, hD, hc, hs⟩ := id hP
  obtain ⟨y1, y2, ⟨f25, y3, y3'⟩, ⟨n33, y4⟩, y5, y6⟩ := E
  have h80 := hM.len
  have hb2 : ∀ p, b 3 = some p → 80 ≤ p := fun p e => (hD 3 p (by omega) e).1
  have hp80 := np_80 hb2 h80
  have kk : ∀ q : Nat, q ≠ 52 → q ≠ 53 → ¬ (57 ≤ q ∧ q < 63) → h3[q]? = h1[q]? := fun q a1 a2 a3 => (F.2 q a1 a2 a3).trans (hk q a1)
  have k8 : ∀ q : Nat, q < 80 → q ≠ 15 → q ≠ 16 → q ≠ 23 → q ≠ 25 → q ≠ 33 → q ≠ 35 → q ≠ 52 → q ≠ 53 → ¬ (57 ≤ q ∧ q < 63) → h3[q]? = h[q]? := fun q a0 a1 a2 a3 a4 a5 a6 a7 a8 a9 => (kk q a7 a8 a9).trans (y2 q (by omega) a1 a2 a3 a4 a5 a6 (by omega))
  have kb : ∀ i p q, (i = 2 ∨ i = 4) → i < 5 → b i = some p → p ≤ q → q < p + blN i → h3[q]? = h[q]? := by
    intro i p q hi1 hi2 e a1 a2
    have hd := hD i p hi2 e
    refine (kk q (by omega) (by omega) (by omega)).trans (y2 q (by omega) (by omega) (by omega) (by omega) (by omega) (by omega) (by omega) ?_)
    cases e2 : b 3 with
    | none => show ¬ (h.length ≤ q ∧ q < h.length + 3); omega
    | some p2 =>
      have := (hd.2.2 3 p2 (by omega) (by omega) e2)
      rw [show blN 3 = 3 from rfl] at this
      show ¬ (p2 ≤ q ∧ q < p2 + 3)
      omega
  obtain ⟨d1, d2, d3⟩ := dyn_after (z := 125538) hD (by omega) rfl rfl h80 y1 hc hs
  have hlen3 : h3.length = h1.length := F.1.trans hl
  refine Inv.srch (b1 := bu b 3 (np (b 3) h.length)) hP k ?_ ?_ rfl rfl (d1.fr (by omega)) d2 d3 ?_ (found_FC y6 Mf hBB.2.2.1 (kk 15 (by omega) (by omega) (by omega)) (kk 16 (by omega) (by omega) (by omega))) ?_ ⟨n33, (kk 33 (by omega) (by omega) (by omega)).trans y4⟩ ?_ c53 Mf.keep ?_
  · intro q hq kp hbl
    refine (kk q (by omega) (by omega) (by omega)).trans (y2 q hq (by omega) (by omega) (by omega) (by omega) (by omega) (by omega) ?_)
    cases e2 : b 3 with
    | none => show ¬ (h.length ≤ q ∧ q < h.length + 3); omega
    | some p2 => exact hbl 3 p2 (by omega) (by omega) e2
  · obtain ⟨s1, s2, ⟨n1, n2, xa, xb, s3, s4⟩, -⟩ := hS
    refine ⟨?_, ?_, ⟨n1, n2, xa, xb, (k8 24 (by omega) (by omega) (by omega) (by omega) (by omega) (by omega) (by omega) (by omega) (by omega) (by omega)).trans s3, ?_⟩, f25, (kk 25 (by omega) (by omega) (by omega)).trans y3, y3'⟩
    · exact s1.fr (k8 22 (by omega) (by omega) (by omega) (by omega) (by omega) (by omega) (by omega) (by omega) (by omega) (by omega)) (fun p e q a1 a2 => kb 2 p q (by omega) (by omega) e a1 (by rw [show blN 2 = 3 from rfl]; exact a2))
    · exact y5.fr (kk 23 (by omega) (by omega) (by omega)) (fun p e q a1 a2 => by cases e; exact kk q (by omega) (by omega) (by omega))
    · rcases s4 with z | ⟨p, e1, e2, e3, e4, e5⟩
      · exact Or.inl z
      · exact Or.inr ⟨p, e1, e2, e3, e4.fr (kb 4 p p (by omega) (by omega) e1 (by omega) (by simp [blN])), e5.fr (kb 4 p (p + 1) (by omega) (by omega) e1 (by omega) (by simp [blN]))⟩
  · obtain ⟨F9, G9, z⟩ := hBB.2.1
    exact ⟨F9, G9, z.fr (fun q _ _ => k8 q (by omega) (by omega) (by omega) (by omega) (by omega) (by omega) (by omega) (by omega) (by omega) (by omega))⟩
  · obtain ⟨n, f, z⟩ := hBB.2.2.2
    exact ⟨n, f, z.fr (fun q _ _ => k8 q (by omega) (by omega) (by omega) (by omega) (by omega) (by omega) (by omega) (by omega) (by omega) (by omega))⟩
  · obtain ⟨v1, w0, w1, w2, w3, w4, w5⟩ := Mw
    exact ⟨v1, mk + 1, w0, w1.trans hv.1, w2.trans hv.2.1, w3.trans hv.2.2, w4, by omega, w5⟩
  · intro n t w hV' _
    have : t = N 1 := by
      have e1 := hV.2.1
      have e2 := hV'.2.1
      rw [e1] at e2
      have h1 := hV.2.2.2.2.2.1
      have h2 := hV'.2.2.2.2.2.1
      exact ((nI_eq (by omega) (by omega)).mp e2).symm
    subst this
    exact found_FV Mf hB hFV
/-! what is sought: where all may be, and where all may be if a tone was lost -/
theorem b_xorU (a b : Nat) : nI a ^^^ nI b = nI (a ^^^ b) := by
  apply Int32.toBitVec_inj.mp
  apply BitVec.eq_of_toNat_eq
  rw [Int32.toBitVec_xor, BitVec.toNat_xor]
  show (a % 2 ^ 32) ^^^ (b % 2 ^ 32) = (a ^^^ b) % 2 ^ 32
  rw [Nat.xor_mod_two_pow]
theorem andn {a b : Nat} (ha : a < 2 ^ 31) : nI a &&& (nI b ^^^ (-1)) = 0 ↔ sub a b := by
  rw [show (-1 : Int32) = nI (2 ^ 32 - 1) by decide, b_xorU, b_andU]
  have hle : a &&& (b ^^^ (2 ^ 32 - 1)) ≤ a := Nat.and_le_left
  rw [n0_eq (by omega)]
  have hb : ∀ k, k < 32 → ((b ^^^ (2 ^ 32 - 1)) / 2 ^ k % 2 = 1 ↔ ¬ b / 2 ^ k % 2 = 1) := by
    intro k hk
    rw [← bt_tb, ← bt_tb, Nat.testBit_xor, Nat.testBit_two_pow_sub_one]
    simp [hk]
  constructor
  · intro h k hk
    have hk32 : k < 32 := by
      have := bt_lt (n := 31) ha hk
      omega
    apply Classical.byContradiction
    intro z
    have : (a &&& (b ^^^ (2 ^ 32 - 1))) / 2 ^ k % 2 = 1 := bt_and.mpr ⟨hk, (hb k hk32).mpr z⟩
    rw [h] at this
    exact bt_zero k this
  · intro h
    apply bs_ext
    intro k
    refine ⟨fun z => ?_, fun z => absurd z (bt_zero k)⟩
    obtain ⟨z1, z2⟩ := bt_and.mp z
    have hk32 : k < 32 := by
      have := bt_lt (n := 31) ha z1
      omega
    exact absurd (h k z1) ((hb k hk32).mp z2)
abbrev oW (x : Nat) : Nat := x % 16384
abbrev oL (x : Nat) : Nat := x / 16384
def cdO (w l : Nat) : Nat := w ||| l * 2 ^ 14
theorem cdO_eq {w l : Nat} (hw : w < 16384) : cdO w l = w + 16384 * l := by
  unfold cdO
  have := Nat.two_pow_add_eq_or_of_lt (i := 14) (b := w) hw l
  rw [Nat.mul_comm l, Nat.or_comm, ← this]
  omega
theorem cdO_W {w l : Nat} (hw : w < 16384) : oW (cdO w l) = w := by rw [cdO_eq hw]; show (w + 16384 * l) % 16384 = w; omega
theorem cdO_L {w l : Nat} (hw : w < 16384) : oL (cdO w l) = l := by rw [cdO_eq hw]; show (w + 16384 * l) / 16384 = l; omega
def nxO (N : Nat → Nat) (x t : Nat) : Nat := cdO (img N (oW x) t) (img N (oL x) t ||| oW x)
def glO (N : Nat → Nat) (x : Nat) : Bool := decide (oW x ||| oL x = 2 ^ N 270)
theorem glO_t {N : Nat → Nat} {x : Nat} : glO N x = true ↔ oW x ||| oL x = 2 ^ N 270 := decide_eq_true_iff
def vO (N : Nat → Nat) (x : Nat) : Prop := 0 < oW x ∧ oW x < 2 ^ N 0 ∧ oL x < 2 ^ N 0
theorem vO.lt {N : Nat → Nat} {x : Nat} (hN : HN N) (h : vO N x) : x < 2 ^ 28 ∧ oW x < 16384 ∧ oL x < 16384 := by
  have hp := hN.p14
  obtain ⟨-, h1, h2⟩ := h
  unfold oL at *
  unfold oW at *
  omega
theorem nxO_v {N : Nat → Nat} {x t : Nat} (hN : HN N) (hx : vO N x) (ht : t < N 1) : vO N (nxO N x t) ∧ oW (nxO N x t) = img N (oW x) t ∧ oL (nxO N x t) = img N (oL x) t ||| oW x := by
  have hp := hN.p14
  have h1 := img_lt (s := oW x) hN ht
  have hw : img N (oW x) t < 16384 := by omega
  have e1 : oW (nxO N x t) = img N (oW x) t := cdO_W hw
  have e2 : oL (nxO N x t) = img N (oL x) t ||| oW x := cdO_L hw
  exact ⟨⟨by rw [e1]; exact img_pos hx.1 hx.2.1, by rw [e1]; exact h1, by rw [e2]; exact Nat.or_lt_two_pow (img_lt hN ht) hx.2.1⟩, e1, e2⟩
theorem lost_v {N : Nat → Nat} {x : Nat} {ok : Nat → Bool} {B : Bf} (hN : HN N) (hx : vO N x) (H : BI (nxO N) ok (N 1) x B) : ∀ i, i < B.m → vO N (B.st i) := H.all (P := vO N) hx (fun y t hy ht _ => (nxO_v hN hy ht).1)
/-- the model's goal is the class's -/
theorem glO_iff {N : Nat → Nat} {w l : Nat} (h0 : 0 < w) : (sub w (2 ^ N 270) ∧ sub l (2 ^ N 270)) ↔ w ||| l = 2 ^ N 270 := by
  constructor
  · rintro ⟨h1, h2⟩
    apply bs_ext
    intro k
    rw [bt_or]
    refine ⟨fun z => z.elim (h1 k) (h2 k), fun z => ?_⟩
    obtain ⟨j, hj⟩ := set_bit h0
    have e1 := bt_pow.mp (h1 j hj)
    have e2 := bt_pow.mp z
    rw [← e2, e1]
    exact Or.inl hj
  · intro h
    exact ⟨h ▸ sub.l w l, h ▸ sub.r w l⟩
/-- at most 30,001 of them -/
def trB (B : Bf) : Bf := (min B.m 30001, B.st, B.pa, B.to)
theorem trB_m (B : Bf) : (trB B).m = min B.m 30001 := rfl
theorem trB_st (B : Bf) (i : Nat) : (trB B).st i = B.st i := rfl
theorem trB_full {B1 C : Bf} {g : Nat → Bool} (P : Pre B1 C) (hm : B1.m = 30001) (g1 : ∀ i, i < B1.m → ¬ g (B1.st i) = true) : ∀ i, i < (trB C).m → ¬ g ((trB C).st i) = true := fun i hi => by
  rw [trB_m] at hi
  rw [trB_st, (P.2 i (by omega)).1]
  exact g1 i (by omega)
theorem trB_lt {B1 C : Bf} (P : Pre B1 C) (hm : B1.m = 30001) : ¬ C.m ≤ 30000 := by have := P.1; omega
theorem trB_end {C : Bf} {g : Nat → Bool} (G : ∀ i, i < C.m → ¬ g (C.st i) = true) : ∀ i, i < (trB C).m → ¬ g ((trB C).st i) = true := fun i hi => by
  rw [trB_m] at hi
  exact G i (by omega)
theorem Pre.trB {B C : Bf} (P : Pre B C) (h : B.m ≤ 30001) : Pre B (trB C) := ⟨by rw [trB_m]; have := P.1; omega, P.2⟩
theorem BI.trB {nx : Nat → Nat → Nat} {ok : Nat → Bool} {T x : Nat} {B : Bf} (H : BI nx ok T x B) : BI nx ok T x (trB B) := by
  have hm := trB_m B
  refine ⟨by have := H.1; omega, H.2.1, fun i j hi hj => H.2.2.1 i j (by omega) (by omega), fun i h0 hi => H.2.2.2 i h0 (by omega)⟩
abbrev bO (N : Nat → Nat) (set : Nat) : Bf := trB (bfK (nxO N) okA (N 1) set 30001)
def ansO (N : Nat → Nat) (set : Nat) : Int32 := if ffi (fun i => glO N ((bO N set).st i)) (bO N set).m 0 = (bO N set).m then (if (bfK (nxO N) okA (N 1) set 30001).m ≤ 30000 then -1 else -4) else nI (dep (bO N set).pa (ffi (fun i => glO N ((bO N set).st i)) (bO N set).m 0))
theorem ansO_found {N : Nat → Nat} {set k : Nat} {w : Int32} {B : Bf} {nx : Nat → Nat → Nat} {ok : Nat → Bool} {T x : Nat} (P : Pre B (bO N set)) (H : BI nx ok T x B) (hk : k < B.m) (hg : glO N (B.st k) = true) (hn : ∀ i, i < k → ¬ glO N (B.st i) = true) (hw : w = nI (dep B.pa k)) : w = ansO N set := by
  have h1 := P.1
  unfold ansO
  rw [ffi_pre P hk hg hn, if_neg (by omega), P.dep H hk]
  exact hw
theorem ansO_none {N : Nat → Nat} {set : Nat} (hn : ∀ i, i < (bO N set).m → ¬ glO N ((bO N set).st i) = true) : ansO N set = if (bfK (nxO N) okA (N 1) set 30001).m ≤ 30000 then -1 else -4 := by
  unfold ansO
  rw [if_pos]
  exact (ffi_no _ 0 (fun i _ hi => hn i (by omega))).trans (by omega)
theorem l108i {X : ai_X} {h : ai_H} {N : Nat → Nat} {n1 n2 n0 : Int32} {xa xb : Value} {f0 : Nat → Int32} {p set : Nat} (hN : HN N) (C : CH h 3 N) (d24 : h[24]? = some (cSets n1 n2 xa xb)) (I : IM h (tf N true) (N 1)) (R : RouteAt h 15 n0 f0) (hp : 80 ≤ p) (hset : vO N set) {k : Nat} {B : Bf} (hB : BI (nxO N) okA (N 1) set B) (hk : k < B.m) (hk3 : k ≤ 30000) {P : ai_O → Prop} (z1 : ∀ g c9 c10, FrS 23 p h g → SB g 23 p 30001 65536 (bfT (nxO N) okA B k (N 1)) → (bfT (nxO N) okA B k (N 1)).m ≤ 30000 → (∀ i, i < (bfT (nxO N) okA B k (N 1)).m → ¬ glO N ((bfT (nxO N) okA B k (N 1)).st i) = true) → Rk X am_108 91 [some (.ref 24), some (.int (nI set)), some (.ref 23), some (.ref 15), some (.int (nI (2 ^ N 270))), some (.int (nI k)), some (.int (nI (oW (B.st k)))), some (.int (nI (oL (B.st k)))), some (.int (nI (N 1))), c9, c10] [] g P) (z2 : ∀ B1 w h1, Pre B1 (bfT (nxO N) okA B k (N 1)) → BI (nxO N) okA (N 1) set B1 → B1.m ≤ 30001 → glO N (B1.st (B1.m - 1)) = true → (∀ i, i < B1.m - 1 → ¬ glO N (B1.st i) = true) → FrQ 23 p h h1 → SrchAt h1 23 30001 65536 (some p) → w = nI (dep B1.pa (B1.m - 1)) → ((500 < dep B1.pa (B1.m - 1) ∧ h1[15]? = h[15]? ∧ h1[16]? = h[16]?) ∨ (dep B1.pa (B1.m - 1) ≤ 500 ∧ RtAt h1 15 (dep B1.pa (B1.m - 1)) (rowTo B1 (B1.m - 1)))) → P (some (.int w), h1, 0, 0)) (z3 : ∀ B1 h1, Pre B1 (bfT (nxO N) okA B k (N 1)) → B1.m = 30001 → (∀ i, i < B1.m → ¬ glO N (B1.st i) = true) → FrQ 23 p h h1 → SrchAt h1 23 30001 65536 (some p) → h1[15]? = h[15]? → h1[16]? = h[16]? → P (some (.int (-4)), h1, 0, 0)) : ∀ (d : Nat) (t : Nat) (g : ai_H) (c9 c10 : Option Value), N 1 < t + d → (t ≤ N 1) → (FrS 23 p h g) → (SB g 23 p 30001 65536 (bfT (nxO N) okA B k t)) → ((bfT (nxO N) okA B k t).m ≤ 30000) → ((∀ i, i < (bfT (nxO N) okA B k t).m → ¬ glO N ((bfT (nxO N) okA B k t).st i) = true)) → Rk X am_108 47 [some (.ref 24), some (.int (nI set)), some (.ref 23), some (.ref 15), some (.int (nI (2 ^ N 270))), some (.int (nI k)), some (.int (nI (oW (B.st k)))), some (.int (nI (oL (B.st k)))), some (.int (nI t)), c9, c10] [] g (P) := by
  intro d
  induction d with
  | zero => intro t g c9 c10 hd ht F S hm3 G; exfalso; omega
  | succ d ih =>
    intro t g c9 c10 hd ht F S hm3 G
    have C2 : CH g 3 N := C.fr (fun q _ _ => F.2 q (by omega) (by omega))
    have e3 := C2.1
    have e24 := (F.2 24 (by omega) (by omega)).trans d24
    have I2 : IM g (tf N true) (N 1) := I.fr (F.2 25 (by omega) (by omega))
    obtain ⟨base, e23⟩ := S.obj
    have h6 := hN.t
    have hn := hN.n
    have hp14 := hN.p14
    have hpan := hN.pan
    have hgp : 2 ^ N 270 ≤ 8192 := Nat.pow_le_pow_right (n := 2) (by decide) hpan
    have hBt := hB.tones hk t ht
    have hkt : k < (bfT (nxO N) okA B k t).m := Nat.lt_of_lt_of_le hk (bfT_pre _ _ B k t).1
    have hst := lost_v hN hset hBt
    have hse : (bfT (nxO N) okA B k t).st k = B.st k := ((bfT_pre (nxO N) okA B k t).2 k hk).1
    have hvk := hst k hkt
    rw [hse] at hvk
    obtain ⟨hl1, hl2, hl3⟩ := hvk.lt hN
    have hT1 := bfT_ok (nx := nxO N) (ok := okA) (B := B) (k := k) (t := t) rfl
    rw [hse] at hT1
    refine rk_iload rfl rfl ?_
    refine rk_aload_n rfl rfl ?_
    refine rk_get rfl (by first | assumption | exact S1.obj.choose_spec) rfl ?_
    refine rk_get rfl (by first | assumption | exact S1.obj.choose_spec) rfl ?_
    refine rk_icmp_ge rfl rfl (fun hc51 => ?_) (fun hc51 => ?_)
    · replace hc51 := (nI_leI (by omega) (by omega)).mp hc51
      have ht2 : t = N 1 := by omega
      subst ht2
      exact z1 g _ _ F S hm3 G
    · replace hc51 := mt (nI_leI (by omega) (by omega)).mpr hc51
      refine rk_aload_n rfl rfl ?_
      refine rk_iload rfl rfl ?_
      refine rk_iload rfl rfl ?_
      refine rk_cv2e rfl rfl (by first | assumption | exact S1.obj.choose_spec) rfl rfl (Nat.le_of_ble_eq_true rfl) (Nat.le_of_ble_eq_true rfl) (s105 (may := true) hN e24 I2 (by omega) (by omega)) ?_
      rw [if_pos rfl]
      have hy1 := img_lt (s := oW (B.st k)) (t := t) hN (by omega)
      refine rk_istore rfl (Nat.le_of_ble_eq_true rfl) rfl ?_
      refine rk_aload_n rfl rfl ?_
      refine rk_iload rfl rfl ?_
      refine rk_iload rfl rfl ?_
      refine rk_cv2e rfl rfl (by first | assumption | exact S1.obj.choose_spec) rfl rfl (Nat.le_of_ble_eq_true rfl) (Nat.le_of_ble_eq_true rfl) (s105 (may := true) hN e24 I2 (by omega) (by omega)) ?_
      rw [if_pos rfl]
      have hy2 := img_lt (s := oL (B.st k)) (t := t) hN (by omega)
      obtain ⟨hvn, hn1, hn2⟩ := nxO_v hN hvk (show t < N 1 by omega)
      obtain ⟨hnl1, hnl2, hnl3⟩ := hvn.lt hN
      refine rk_iload rfl rfl ?_
      refine rk_ior rfl (b_orU _ _) ?_
      rw [← hn2]
      refine rk_istore rfl (Nat.le_of_ble_eq_true rfl) rfl ?_
      refine rk_aload_n rfl rfl ?_
      refine rk_iload rfl rfl ?_
      refine rk_iload rfl rfl ?_
      refine rk_bipush (v := nI 14) rfl (by decide) ?_
      refine rk_ishl rfl (b_shlU _ (by omega)) ?_
      refine rk_ior (v := nI (nxO N (B.st k) t)) rfl (by rw [b_orU, hn2]; rfl) ?_
      refine rk_iload rfl rfl ?_
      refine rk_iload rfl rfl ?_
      refine rk_cv3i rfl rfl (by first | assumption | exact S1.obj.choose_spec) rfl rfl (Nat.le_of_ble_eq_true rfl) (Nat.le_of_ble_eq_true rfl) (s101B (x := (nxO N (B.st k) t)) S hBt.1 (by omega) (by omega) (by omega) (by omega)) (fun w h1 hF => ?_)
      obtain ⟨rfl, F1, S1⟩ := hF
      have F2 := F.tr F1
      have e24b := (F1.2 24 (by omega) (by omega)).trans e24
      refine rk_if_eq rfl rfl (fun hc73 => ?_) (fun hc73 => ?_)
      · replace hc73 := (bI_0).mp hc73
        have S2 := S1
        have M2 : (bfT (nxO N) okA B k (t + 1)).m ≤ 30000 := by rw [hT1, bfA, if_pos (Decidable.not_not.mp hc73)]; exact hm3
        have G2 := bfA_all (x := (nxO N (B.st k) t)) (k := k) (t := t) (P := fun y => ¬ glO N y = true) G (fun z => absurd z hc73)
        rw [← hT1] at S2 G2
        refine rk_iinc rfl rfl (n_inc _) rfl ?_
        refine rk_goto rfl rfl ?_
        exact ih (t + 1) _ _ _ (by omega) (by omega) F2 S2 M2 G2
      · replace hc73 := Decidable.not_not.mp (mt bI_0.mpr hc73)
        have hI1 : BI (nxO N) okA (N 1) set (bfA (bfT (nxO N) okA B k t) (nxO N (B.st k) t) k t) := by
          have := hBt.step (t := t) hkt (by omega)
          rwa [bfS, if_pos (show okA _ = true from rfl), hse] at this
        obtain ⟨y1, y2, y3⟩ := bfA_new (k := k) (t := t) hc73
        have hor : img N (oW (B.st k)) t ||| oL (nxO N (B.st k) t) < 2 ^ N 0 := Nat.or_lt_two_pow hy1 hvn.2.2
        refine rk_iload rfl rfl ?_
        refine rk_iload rfl rfl ?_
        refine rk_ior rfl (b_orU _ _) ?_
        refine rk_iload rfl rfl ?_
        refine rk_icmp_ne rfl rfl (fun hc78 => ?_) (fun hc78 => ?_)
        · replace hc78 := mt (nI_eq (by omega) (by omega)).mpr hc78
          have hng : ¬ glO N (nxO N (B.st k) t) = true := fun z => hc78 (by rw [← hn1]; exact glO_t.mp z)
          have G2 := bfA_all (x := (nxO N (B.st k) t)) (k := k) (t := t) (P := fun y => ¬ glO N y = true) G (fun _ => hng)
          refine rk_aload_n rfl rfl ?_
          refine rk_cv0e rfl rfl (by first | assumption | exact S1.obj.choose_spec) rfl rfl (Nat.le_of_ble_eq_true rfl) (Nat.le_of_ble_eq_true rfl) (s97B S1) ?_
          refine rk_sipush (v := nI 30000) rfl (by decide) ?_
          refine rk_icmp_le rfl rfl (fun hc86 => ?_) (fun hc86 => ?_)
          · replace hc86 := (nI_leI (by omega) (by omega)).mp hc86
            have S2 := S1
            have M2 : (bfT (nxO N) okA B k (t + 1)).m ≤ 30000 := by rw [hT1]; exact hc86
            rw [← hT1] at S2 G2
            refine rk_iinc rfl rfl (n_inc _) rfl ?_
            refine rk_goto rfl rfl ?_
            exact ih (t + 1) _ _ _ (by omega) (by omega) F2 S2 M2 G2
          · replace hc86 := mt (nI_leI (by omega) (by omega)).mpr hc86
            refine rk_bipush (v := (-4)) rfl (by decide) ?_
            refine rk_ireturn rfl rfl (z3 _ _ ?_ (by omega) G2 F2.q S1.at' (F2.2 15 (by omega) (by omega)) (F2.2 16 (by omega) (by omega)))
            rw [← hT1]
            have := bfT_mono (nxO N) okA B k (t + 1) (N 1 - (t + 1))
            rwa [show t + 1 + (N 1 - (t + 1)) = N 1 by omega] at this
        · replace hc78 := Decidable.not_not.mp hc78
          replace hc78 := (nI_eq (by omega) (by omega)).mp hc78
          refine rk_aload_n rfl rfl ?_
          refine rk_aload_n rfl rfl ?_
          refine rk_cv1i rfl rfl (by first | assumption | exact S1.obj.choose_spec) rfl rfl (Nat.le_of_ble_eq_true rfl) (Nat.le_of_ble_eq_true rfl) (s102F S1 hI1 (by omega) (by omega) (by omega) F2 R) (fun w h1 hF => ?_)
          obtain ⟨rfl, F3, S3, z4⟩ := hF
          refine rk_ireturn rfl rfl (z2 _ _ _ ?_ hI1 (by omega) ?_ ?_ F3 S3 rfl z4)
          · rw [← hT1]
            have := bfT_mono (nxO N) okA B k (t + 1) (N 1 - (t + 1))
            rwa [show t + 1 + (N 1 - (t + 1)) = N 1 by omega] at this
          · rw [y1, Nat.add_sub_cancel, y2]
            exact glO_t.mpr (by rw [hn1]; exact hc78)
          · intro i hi
            rw [y1, Nat.add_sub_cancel] at hi
            rw [y3 i hi]
            exact G i hi
theorem l108 {X : ai_X} {h : ai_H} {N : Nat → Nat} {n1 n2 n0 : Int32} {xa xb : Value} {f0 : Nat → Int32} {p set : Nat} (hN : HN N) (C : CH h 3 N) (d24 : h[24]? = some (cSets n1 n2 xa xb)) (I : IM h (tf N true) (N 1)) (R : RouteAt h 15 n0 f0) (hp : 80 ≤ p) (hset : vO N set) : ∀ (d : Nat) (k : Nat) (g : ai_H) (c6 c7 c8 c9 c10 : Option Value), 30000 < k + d → (k ≤ (bfK (nxO N) okA (N 1) set k).m) → (k ≤ 30000) → (FrS 23 p h g) → (SB g 23 p 30001 65536 (bfK (nxO N) okA (N 1) set k)) → ((bfK (nxO N) okA (N 1) set k).m ≤ 30000) → ((∀ i, i < (bfK (nxO N) okA (N 1) set k).m → ¬ glO N ((bfK (nxO N) okA (N 1) set k).st i) = true)) → Rk X am_108 26 [some (.ref 24), some (.int (nI set)), some (.ref 23), some (.ref 15), some (.int (nI (2 ^ N 270))), some (.int (nI k)), c6, c7, c8, c9, c10] [] g (Qi (fun w h1 => w = ansO N set ∧ FrQ 23 p h h1 ∧ SrchAt h1 23 30001 65536 (some p) ∧ CF h h1 (ans (bO N set) (glO N)) (bO N set) (glO N))) := by
  intro d
  induction d with
  | zero => intro k g c6 c7 c8 c9 c10 hd hk hk2 F S hm3 G; exfalso; omega
  | succ d ih =>
    intro k g c6 c7 c8 c9 c10 hd hk hk2 F S hm3 G
    have C2 : CH g 3 N := C.fr (fun q _ _ => F.2 q (by omega) (by omega))
    have e3 := C2.1
    have e24 := (F.2 24 (by omega) (by omega)).trans d24
    have I2 : IM g (tf N true) (N 1) := I.fr (F.2 25 (by omega) (by omega))
    obtain ⟨base, e23⟩ := S.obj
    have h6 := hN.t
    have hn := hN.n
    have hp14 := hN.p14
    have hpan := hN.pan
    have hgp : 2 ^ N 270 ≤ 8192 := Nat.pow_le_pow_right (n := 2) (by decide) hpan
    have hBk := BI.heads (nx := nxO N) (ok := okA) (T := N 1) (x := set) k
    have hst := lost_v hN hset hBk
    refine rk_iload rfl rfl ?_
    refine rk_sipush (v := nI 30000) rfl (by decide) ?_
    refine rk_icmp_gt rfl rfl (fun hc28 => ?_) (fun hc28 => ?_)
    · replace hc28 := (nI_ltI (by omega) (by omega)).mp hc28
      omega
    · replace hc28 := mt (nI_ltI (by omega) (by omega)).mpr hc28
      refine rk_iload rfl rfl ?_
      refine rk_aload_n rfl rfl ?_
      refine rk_cv0e rfl rfl (by assumption) rfl rfl (Nat.le_of_ble_eq_true rfl) (Nat.le_of_ble_eq_true rfl) (s97B S) ?_
      refine rk_icmp_ge rfl rfl (fun hc32 => ?_) (fun hc32 => ?_)
      · replace hc32 := (nI_leI (by omega) (by omega)).mp hc32
        refine rk_iconst (v := (-1)) rfl (by decide) ?_
        have hend := bfK_end (nx := nxO N) (ok := okA) (T := N 1) (x := set) (k := k) (W := 30001) (by omega) (by omega)
        have hno : ∀ i, i < (bO N set).m → ¬ glO N ((bO N set).st i) = true := by
          unfold bO
          rw [hend]
          exact trB_end G
        have cf : CF h g (-1) (bO N set) (glO N) := CF.none hno (F.2 15 (by omega) (by omega)) (F.2 16 (by omega) (by omega))
        have hw1 := cf.w
        rw [hw1] at cf
        exact rk_ireturn rfl rfl ⟨_, _, rfl, by rw [ansO_none hno, hend, if_pos (by omega)], F.q, S.at', cf⟩
      · replace hc32 := mt (nI_leI (by omega) (by omega)).mpr hc32
        refine rk_aload_n rfl rfl ?_
        refine rk_iload rfl rfl ?_
        refine rk_cv1e rfl rfl (by assumption) rfl rfl (Nat.le_of_ble_eq_true rfl) (Nat.le_of_ble_eq_true rfl) (s98B S (by omega)) ?_
        obtain ⟨hl1, hl2, hl3⟩ := (hst k (by omega)).lt hN
        refine rk_sipush (v := nI 16383) rfl (by decide) ?_
        refine rk_iand rfl (by rw [b_andU, show (bfK (nxO N) okA (N 1) set k).st k &&& 16383 = oW ((bfK (nxO N) okA (N 1) set k).st k) from Nat.and_two_pow_sub_one_eq_mod _ 14]) ?_
        refine rk_istore rfl (Nat.le_of_ble_eq_true rfl) rfl ?_
        refine rk_aload_n rfl rfl ?_
        refine rk_iload rfl rfl ?_
        refine rk_cv1e rfl rfl (by assumption) rfl rfl (Nat.le_of_ble_eq_true rfl) (Nat.le_of_ble_eq_true rfl) (s98B S (by omega)) ?_
        obtain ⟨hl1, hl2, hl3⟩ := (hst k (by omega)).lt hN
        refine rk_bipush (v := nI 14) rfl (by decide) ?_
        refine rk_iushr rfl (b_ushr (by omega) (by omega)) ?_
        refine rk_istore rfl (Nat.le_of_ble_eq_true rfl) rfl ?_
        refine rk_iconst (v := nI 0) rfl (by decide) ?_
        refine rk_istore rfl (Nat.le_of_ble_eq_true rfl) rfl ?_
        refine l108i (B := (bfK (nxO N) okA (N 1) set k)) hN C d24 I R hp hset hBk (by omega) hk2 ?_ ?_ ?_ (N 1 + 1) 0 g _ _ (by omega) (by omega) F S hm3 G
        · intro g2 c9 c10 F2 S2 M2 G2
          rw [← bfK_s (by omega)] at S2 G2 M2
          refine rk_iinc rfl rfl (n_inc _) rfl ?_
          refine rk_goto rfl rfl ?_
          have := (bfK_1 (nxO N) okA (N 1) set k).1
          exact ih (k + 1) g2 _ _ _ _ _ (by omega) (by omega) (by omega) F2 S2 M2 G2
        · intro B1 w h1 P1 H1 hm1 g1 g2 F3 S3 hw z3
          rw [← bfK_s (by omega)] at P1
          have P2 := (P1.tr (bfK_pre (W := 30001) (by omega))).trB hm1
          have cf : CF h h1 w (bO N set) (glO N) := CF.found P2 H1 (by have := H1.1; omega) g1 g2 hw z3
          have hw1 := cf.w
          rw [hw1] at cf
          exact ⟨_, _, rfl, ansO_found P2 H1 (by have := H1.1; omega) g1 g2 hw, F3, S3, cf⟩
        · intro B1 h1 P1 hm1 g1 F3 S3 e1 e2
          rw [← bfK_s (by omega)] at P1
          have P2 := P1.tr (bfK_pre (W := 30001) (by omega))
          have hno : ∀ i, i < (bO N set).m → ¬ glO N ((bO N set).st i) = true := trB_full P2 hm1 g1
          have cf : CF h h1 (-1) (bO N set) (glO N) := CF.none hno e1 e2
          have hw1 := cf.w
          rw [hw1] at cf
          exact ⟨_, _, rfl, by rw [ansO_none hno, if_neg (trB_lt P2 hm1)], F3, S3, cf⟩
theorem r108 {X : ai_X} {h : ai_H} {N : Nat → Nat} {n1 n2 n0 : Int32} {xa xb : Value} {f0 : Nat → Int32} {p set : Nat} (hN : HN N) (C : CH h 3 N) (d24 : h[24]? = some (cSets n1 n2 xa xb)) (I : IM h (tf N true) (N 1)) (R : RouteAt h 15 n0 f0) (hp : 80 ≤ p) (hset : vO N set) (hs : set < 2 ^ N 0) (E : SE h 23 p 30001 65536) : Rk X am_108 11 [some (.ref 24), some (.int (nI set)), some (.ref 23), some (.ref 15), some (.int (nI (2 ^ N 270))), none, none, none, none, none, none] [] h (Qi (fun w h1 => w = ansO N set ∧ FrQ 23 p h h1 ∧ SrchAt h1 23 30001 65536 (some p) ∧ CF h h1 (ans (bO N set) (glO N)) (bO N set) (glO N))) := by
  obtain ⟨base, e23⟩ := E.obj
  have hp14 := hN.p14
  have h6 := hN.t
  have hpan := hN.pan
  have hgp : 2 ^ N 270 ≤ 8192 := Nat.pow_le_pow_right (n := 2) (by decide) hpan
  have hsW : oW set = set := Nat.mod_eq_of_lt (by omega)
  have hsL : oL set = 0 := Nat.div_eq_of_lt (by omega)
  refine rk_aload_n rfl rfl ?_
  refine rk_iload_n rfl rfl ?_
  refine rk_iconst (v := (-1)) rfl (by decide) ?_
  refine rk_iconst (v := nI 0) rfl (by decide) ?_
  refine rk_cv3i rfl rfl (by first | assumption | exact S1.obj.choose_spec) rfl rfl (Nat.le_of_ble_eq_true rfl) (Nat.le_of_ble_eq_true rfl) (s101R E (by omega) (by omega)) (fun w h1 hF => ?_)
  obtain ⟨rfl, F1, S1⟩ := hF
  have hB0 := BI.zero (nx := nxO N) (ok := okA) (T := N 1) (x := set)
  have P0 : Pre (bf0 set) (bO N set) := Pre.trB (bfK_pre (k := 0) (W := 30001) (by omega)) (by show 1 ≤ 30001; omega)
  refine rk_pop rfl ?_
  refine rk_iload_n rfl rfl ?_
  refine rk_iload rfl rfl ?_
  refine rk_icmp_ne rfl rfl (fun hc19 => ?_) (fun hc19 => ?_)
  · replace hc19 := mt (nI_eq (by omega) (by omega)).mpr hc19
    refine rk_iconst (v := nI 0) rfl (by decide) ?_
    refine rk_istore rfl (Nat.le_of_ble_eq_true rfl) rfl ?_
    refine (l108 hN C d24 I R hp hset 30001 0 _ none none none none none (by omega) (by omega) (by omega) F1 S1 (by show 1 ≤ 30000; omega) (fun i hi => ?_))
    have hi' : i < 1 := hi
    intro z
    have z2 := glO_t.mp z
    have z3 : oW set ||| oL set = 2 ^ N 270 := z2
    rw [hsW, hsL, Nat.or_zero] at z3
    exact hc19 z3
  · replace hc19 := Decidable.not_not.mp hc19
    replace hc19 := (nI_eq (by omega) (by omega)).mp hc19
    refine rk_aload_n rfl rfl ?_
    refine rk_aload_n rfl rfl ?_
    refine rk_cv1i rfl rfl (by first | assumption | exact S1.obj.choose_spec) rfl rfl (Nat.le_of_ble_eq_true rfl) (Nat.le_of_ble_eq_true rfl) (s102F S1 hB0 (by omega) (by omega) (by omega) F1 R) (fun w h1 hF => ?_)
    obtain ⟨hw, F3, S3, z3⟩ := hF
    have hg0 : glO N ((bf0 set).st 0) = true := glO_t.mpr (by show oW set ||| oL set = _; rw [hsW, hsL, Nat.or_zero]; exact hc19)
    have cf : CF h h1 w (bO N set) (glO N) := CF.found (k := 0) P0 hB0 (by show 0 < 1; omega) hg0 (fun i hi => absurd hi (by omega)) hw z3
    have hw1 := cf.w
    rw [hw1] at cf
    exact rk_ireturn rfl rfl ⟨_, _, rfl, ansO_found (k := 0) P0 hB0 (by show 0 < 1; omega) hg0 (fun i hi => absurd hi (by omega)) hw, F3, S3, cf⟩
theorem s108 {X : ai_X} {h : ai_H} {N : Nat → Nat} {n1 n2 n0 : Int32} {xa xb : Value} {f0 f25 : Nat → Int32} {set : Nat} {b : Option Nat} (hN : HN N) (C : CH h 3 N) (d24 : h[24]? = some (cSets n1 n2 xa xb)) (c25 : h[25]? = some (cI 1536 f25)) (hf : ∀ j, j < 12 → f25 (128 * j) = 0) (R : RouteAt h 15 n0 f0) (hset : 0 < set ∧ set < 2 ^ N 0) (S : SrchAt h 23 30001 65536 b) (hb : ∀ p, b = some p → 80 ≤ p) (hl : 80 ≤ h.length) (O33 : ∃ n, h[33]? = some (.inr (1, [.ref 3, .ref 22, .ref 34, .ref 35, .int n]))) : Mt X am_108 [.ref 24, .int (nI set), .ref 23, .ref 15] h (Qn (nc b) (ns b 125538) (Qi (fun w h1 => w = ansO N set ∧ CE3 h h1 b (ans (bO N set) (glO N)) (bO N set) (glO N)))) := by
  have e3 := C.1
  have hpan := hN.pan
  have hp14 := hN.p14
  have hp80 := np_80 hb hl
  have hvs : vO N set := by
    have hsW : oW set = set := Nat.mod_eq_of_lt (by omega)
    have hsL : oL set = 0 := Nat.div_eq_of_lt (by omega)
    exact ⟨by rw [hsW]; exact hset.1, by rw [hsW]; exact hset.2, by rw [hsL]; exact Nat.two_pow_pos _⟩
  obtain ⟨n33, o33⟩ := O33
  refine rk_iconst (v := nI 1) rfl (by decide) ?_
  refine rk_aload_n rfl rfl ?_
  refine rk_get rfl (by assumption) rfl ?_
  refine rk_get rfl (by assumption) rfl ?_
  refine rk_ishl rfl (b_1shlU (by omega)) ?_
  refine rk_istore rfl (Nat.le_of_ble_eq_true rfl) rfl ?_
  refine rk_aload_n rfl rfl ?_
  refine rk_iconst (v := nI 1) rfl (by decide) ?_
  refine rk_cv1v rfl rfl (by assumption) rfl rfl (Nat.le_of_ble_eq_true rfl) (Nat.le_of_ble_eq_true rfl) (s104 (may := true) hN C d24 c25 hf (by rw [bI_t rfl]; exact nI_one)) (fun h1 hF => ?_)
  obtain ⟨F1, I1⟩ := hF
  have e24 := (F1.2 24 (by omega)).trans d24
  have C1 := C.fr2 F1 (by omega)
  have R1 : RouteAt h1 15 n0 f0 := R.fr (fun q _ _ => F1.2 q (by omega))
  have S1 : SrchAt h1 23 30001 65536 b := S.fr (F1.2 23 (by omega)) (fun p e q _ _ => F1.2 q (by have := hb p e; omega))
  have E1 := s96b (X := X) S1 (fun p e => by have := hb p e; omega) (Or.inr rfl) (by omega) (by rw [F1.1]; omega)
  rw [F1.1] at E1
  obtain ⟨fs23, e23⟩ := srch_obj S1
  refine rk_aload_n rfl rfl ?_
  refine rk_cq0v rfl rfl e23 rfl rfl (Nat.le_of_ble_eq_true rfl) (Nat.le_of_ble_eq_true rfl) E1 (fun h2 hF => ?_)
  obtain ⟨F2, E2⟩ := hF
  have hl1 := F1.1
  have hl2 := F2.1
  have k2 : ∀ q : Nat, q < 80 → q ≠ 23 → h2[q]? = h1[q]? := fun q hq h22 => F2.2 q (by omega) h22 (by omega)
  refine (r108 hN (C1.fr (fun q _ _ => k2 q (by omega) (by omega))) ((k2 24 (by omega) (by omega)).trans e24) (I1.fr (k2 25 (by omega) (by omega))) (R1.fr (fun q _ _ => k2 q (by omega) (by omega))) hp80 hvs hset.2 E2).mono ?_
  rintro o ⟨w, h3, e1, hw, F3, S3, z3⟩
  subst e1
  have k3 : ∀ q : Nat, q < 80 → q ≠ 23 → q ≠ 15 → q ≠ 16 → h3[q]? = h1[q]? := fun q a b1 c d => (F3.2 q c d b1 (by omega)).trans (k2 q a b1)
  refine ⟨_, _, rfl, hw, by rw [F3.1, hl2, hl1], fun q a b1 c d _ _ _ f => ?_, ?_, ⟨n33, (k3 33 (by omega) (by omega) (by omega) (by omega)).trans ((F1.2 33 (by omega)).trans o33)⟩, S3, ?_⟩
  · exact (F3.2 q b1 c d f).trans ((F2.2 q (by omega) d f).trans (F1.2 q (by omega)))
  · obtain ⟨f, g1, g2, -⟩ := I1
    exact ⟨f, (k3 25 (by omega) (by omega) (by omega) (by omega)).trans g1, g2⟩
  · have e15 : h2[15]? = h[15]? := (k2 15 (by omega) (by omega)).trans (F1.2 15 (by omega))
    have e16 : h2[16]? = h[16]? := (k2 16 (by omega) (by omega)).trans (F1.2 16 (by omega))
    unfold CF at z3 ⊢
    rw [e15, e16] at z3
    exact z3
theorem c150_v {X : ai_X} {h : ai_H} {tp : Int32} {N : Nat → Nat} {n1 n2 n0 : Int32} {xa xb : Value} {f0 f25 : Nat → Int32} {set : Nat} {b : Option Nat} (d0 : h[0]? = some (cOne tp)) (hN : HN N) (C : CH h 3 N) (d24 : h[24]? = some (cSets n1 n2 xa xb)) (c25 : h[25]? = some (cI 1536 f25)) (hf : ∀ j, j < 12 → f25 (128 * j) = 0) (R : RouteAt h 15 n0 f0) (hset : 0 < set ∧ set < 2 ^ N 0) (S : SrchAt h 23 30001 65536 b) (hb : ∀ p, b = some p → 80 ≤ p) (hl : 80 ≤ h.length) (O33 : ∃ n, h[33]? = some (.inr (1, [.ref 3, .ref 22, .ref 34, .ref 35, .int n]))) : Mt X am_150 [.ref 0, .int (nI set)] h (Qn (nc b) (ns b 125538) (Qi (fun w h1 => w = ansO N set ∧ CE3 h h1 b (ans (bO N set) (glO N)) (bO N set) (glO N)))) := by
  have e3 := C.1
  refine rk_aload_n rfl rfl ?_
  refine rk_get rfl (by assumption) rfl ?_
  refine rk_iload_n rfl rfl ?_
  refine rk_cv1e rfl rfl (by assumption) rfl rfl (Nat.le_of_ble_eq_true rfl) (Nat.le_of_ble_eq_true rfl) (s26N hN C _) ?_
  refine rk_if_eq rfl rfl (fun hc4 => ?_) (fun hc4 => ?_)
  · replace hc4 := (bI_0).mp hc4
    exact absurd (isSet_mk hN hset.1 hset.2) hc4
  · replace hc4 := Decidable.not_not.mp (mt bI_0.mpr hc4)
    refine rk_aload_n rfl rfl ?_
    refine rk_get rfl (by assumption) rfl ?_
    refine rk_iload_n rfl rfl ?_
    refine rk_aload_n rfl rfl ?_
    refine rk_get rfl (by assumption) rfl ?_
    refine rk_aload_n rfl rfl ?_
    refine rk_get rfl (by assumption) rfl ?_
    refine rk_cq3i rfl rfl d24 rfl rfl (Nat.le_of_ble_eq_true rfl) (Nat.le_of_ble_eq_true rfl) (s108 hN C d24 c25 hf R hset S hb hl O33) (fun w h1 hF => ?_)
    refine rk_goto rfl rfl ?_
    exact rk_ireturn rfl rfl ⟨_, _, rfl, hF⟩
theorem c150_x {X : ai_X} {h : ai_H} {tp : Int32} {N : Nat → Nat} (d0 : h[0]? = some (cOne tp)) (hN : HN N) (C : CH h 3 N) {a : Int32} (hx : ¬ IsSet N a) : Mt X am_150 [.ref 0, .int a] h (Qe (-3) h) := by
  have e3 := C.1
  refine rk_aload_n rfl rfl ?_
  refine rk_get rfl (by assumption) rfl ?_
  refine rk_iload_n rfl rfl ?_
  refine rk_cv1e rfl rfl (by assumption) rfl rfl (Nat.le_of_ble_eq_true rfl) (Nat.le_of_ble_eq_true rfl) (s26N hN C _) ?_
  refine rk_if_eq rfl rfl (fun hc4 => ?_) (fun hc4 => ?_)
  · replace hc4 := (bI_0).mp hc4
    refine rk_bipush (v := (-3)) rfl (by decide) ?_
    exact rk_ireturn rfl rfl Qe_mk
  · replace hc4 := Decidable.not_not.mp (mt bI_0.mpr hc4)
    exact absurd hc4 hx
theorem l246i {X : ai_X} {h : ai_H} {w A : Nat → Int32} {N : Nat → Nat} {mk set : Nat} (c53 : h[53]? = some (cI 2346 A)) (hN : HN N) (M : MH A N) (hset : vO N set) {k : Nat} {B : Bf} (hB : BI (nxO N) okA (N 1) set B) (hk : k < B.m) {P : ai_O → Prop} (z1 : ∀ g c5 c6, FrM h g → MB g w mk oW oL (bfT (nxO N) okA B k (N 1)) → (bfT (nxO N) okA B k (N 1)).m ≤ 30000 → (∀ i, i < (bfT (nxO N) okA B k (N 1)).m → ¬ glO N ((bfT (nxO N) okA B k (N 1)).st i) = true) → Rk X am_246 102 [some (.ref 52), some (.int (nI set)), some (.int (nI (2 ^ N 270))), some (.int (nI k)), some (.int (nI (N 1))), c5, c6] [] g P) (z2 : ∀ B1 y h1, Pre B1 (bfT (nxO N) okA B k (N 1)) → BI (nxO N) okA (N 1) set B1 → B1.m ≤ 30001 → glO N (B1.st (B1.m - 1)) = true → (∀ i, i < B1.m - 1 → ¬ glO N (B1.st i) = true) → y = ans B1 (glO N) → FrF h h1 → MW h1 w mk → (∃ A1, h1[53]? = some (cI 2346 A1) ∧ MF A A1 y B1 (glO N)) → P (some (.int y), h1, 0, 0)) (z3 : ∀ B1 h1, Pre B1 (bfT (nxO N) okA B k (N 1)) → B1.m = 30001 → (∀ i, i < B1.m → ¬ glO N (B1.st i) = true) → FrF h h1 → MW h1 w mk → h1[53]? = some (cI 2346 A) → P (some (.int (-4)), h1, 0, 0)) : ∀ (d : Nat) (t : Nat) (g : ai_H) (c5 c6 : Option Value), N 1 < t + d → (t ≤ N 1) → (FrM h g) → (MB g w mk oW oL (bfT (nxO N) okA B k t)) → ((bfT (nxO N) okA B k t).m ≤ 30000) → ((∀ i, i < (bfT (nxO N) okA B k t).m → ¬ glO N ((bfT (nxO N) okA B k t).st i) = true)) → Rk X am_246 40 [some (.ref 52), some (.int (nI set)), some (.int (nI (2 ^ N 270))), some (.int (nI k)), some (.int (nI t)), c5, c6] [] g (P) := by
  intro d
  induction d with
  | zero => intro t g c5 c6 hd ht F S hm3 G; exfalso; omega
  | succ d ih =>
    intro t g c5 c6 hd ht F S hm3 G
    obtain ⟨a0, a1, a268, a269, a270, a271, apl, apc, aot, asg, awt⟩ := id M
    obtain ⟨v, e52, hv21, hv22, -⟩ := S.obj
    obtain ⟨f57, f58, e57, e58, hsts⟩ := S.sts
    have hst1 : ∀ i, i < (bfT (nxO N) okA B k t).m → f57 i = nI (oW ((bfT (nxO N) okA B k t).st i)) := fun i hi => (hsts i hi).1
    have hst2 : ∀ i, i < (bfT (nxO N) okA B k t).m → f58 i = nI (oL ((bfT (nxO N) okA B k t).st i)) := fun i hi => (hsts i hi).2
    have e53 := (F.2 53 (by omega) (by omega)).trans c53
    have h6 := hN.t
    have hn := hN.n
    have hp14 := hN.p14
    have hpan := hN.pan
    have hgp : 2 ^ N 270 ≤ 8192 := Nat.pow_le_pow_right (n := 2) (by decide) hpan
    have hBt := hB.tones hk t ht
    have hkt : k < (bfT (nxO N) okA B k t).m := Nat.lt_of_lt_of_le hk (bfT_pre _ _ B k t).1
    have hst := lost_v hN hset hBt
    have hvk := hst k hkt
    obtain ⟨hl1, hl2, hl3⟩ := hvk.lt hN
    have hT1 := bfT_ok (nx := nxO N) (ok := okA) (B := B) (k := k) (t := t) rfl
    refine rk_iload rfl rfl ?_
    refine rk_aload_n rfl rfl ?_
    refine rk_get rfl (by assumption) rfl ?_
    refine rk_iconst (v := nI 1) rfl (by decide) ?_
    refine rk_iald rfl (by assumption) (rfl) (by omega) (by decide) ?_
    rw [a1]
    refine rk_icmp_ge rfl rfl (fun hc45 => ?_) (fun hc45 => ?_)
    · replace hc45 := (nI_leI (by omega) (by omega)).mp hc45
      have ht2 : t = N 1 := by omega
      subst ht2
      exact z1 g _ _ F S hm3 G
    · replace hc45 := mt (nI_leI (by omega) (by omega)).mpr hc45
      refine rk_aload_n rfl rfl ?_
      refine rk_aload_n rfl rfl ?_
      refine rk_get rfl (by assumption) rfl ?_
      refine rk_iload_n rfl rfl ?_
      refine rk_iald rfl (by assumption) (rfl) (by omega) (by decide) ?_
      rw [hst1 k hkt]
      refine rk_iload rfl rfl ?_
      refine rk_cv2e rfl rfl (by assumption) rfl rfl (Nat.le_of_ble_eq_true rfl) (Nat.le_of_ble_eq_true rfl) (s211 e52 e53 hN M (by omega) (by omega)) ?_
      have hy1 := img_lt (s := oW ((bfT (nxO N) okA B k t).st k)) (t := t) hN (by omega)
      refine rk_istore rfl (Nat.le_of_ble_eq_true rfl) rfl ?_
      refine rk_aload_n rfl rfl ?_
      refine rk_aload_n rfl rfl ?_
      refine rk_get rfl (by assumption) rfl ?_
      refine rk_iload_n rfl rfl ?_
      refine rk_iald rfl (by assumption) (rfl) (by omega) (by decide) ?_
      rw [hst2 k hkt]
      refine rk_iload rfl rfl ?_
      refine rk_cv2e rfl rfl (by assumption) rfl rfl (Nat.le_of_ble_eq_true rfl) (Nat.le_of_ble_eq_true rfl) (s211 e52 e53 hN M (by omega) (by omega)) ?_
      have hy2 := img_lt (s := oL ((bfT (nxO N) okA B k t).st k)) (t := t) hN (by omega)
      obtain ⟨hvn, hn1, hn2⟩ := nxO_v hN hvk (show t < N 1 by omega)
      obtain ⟨hnl1, hnl2, hnl3⟩ := hvn.lt hN
      refine rk_aload_n rfl rfl ?_
      refine rk_get rfl (by assumption) rfl ?_
      refine rk_iload_n rfl rfl ?_
      refine rk_iald rfl (by assumption) (rfl) (by omega) (by decide) ?_
      rw [hst1 k hkt]
      refine rk_ior rfl (b_orU _ _) ?_
      rw [← hn2]
      refine rk_istore rfl (Nat.le_of_ble_eq_true rfl) rfl ?_
      refine rk_aload_n rfl rfl ?_
      refine rk_iload rfl rfl ?_
      refine rk_iload rfl rfl ?_
      refine rk_iload_n rfl rfl ?_
      refine rk_iload rfl rfl ?_
      refine rk_cv4i rfl rfl (by assumption) rfl rfl (Nat.le_of_ble_eq_true rfl) (Nat.le_of_ble_eq_true rfl) (s232C (r1 := oW) (r2 := oL) (x := (nxO N ((bfT (nxO N) okA B k t).st k) t)) S hBt.1 hn1 rfl (by omega) (by omega) (fun i hi z1 z2 => by show ((bfT (nxO N) okA B k t).st i) = _; have e1 : (bfT (nxO N) okA B k t).st i % 16384 = (nxO N ((bfT (nxO N) okA B k t).st k) t) % 16384 := z1; have e2 : (bfT (nxO N) okA B k t).st i / 16384 = (nxO N ((bfT (nxO N) okA B k t).st k) t) / 16384 := z2; omega) (by omega)) (fun w h1 hF => ?_)
      obtain ⟨rfl, F1, S1⟩ := hF
      have F2 := F.tr F1
      obtain ⟨v1, f52, hw21, -⟩ := S1.obj
      have f53 := (F1.2 53 (by omega) (by omega)).trans e53
      refine rk_if_ne rfl rfl (fun hc73 => ?_) (fun hc73 => ?_)
      · replace hc73 := Decidable.not_not.mp (mt bI_0.mpr hc73)
        have hI1 : BI (nxO N) okA (N 1) set (bfA (bfT (nxO N) okA B k t) (nxO N ((bfT (nxO N) okA B k t).st k) t) k t) := by
          have := hBt.step (t := t) hkt (by omega)
          rwa [bfS, if_pos (show okA _ = true from rfl)] at this
        obtain ⟨y1, y2, y3⟩ := bfA_new (k := k) (t := t) hc73
        have hgi := glO_iff (N := N) (w := oW (nxO N ((bfT (nxO N) okA B k t).st k) t)) (l := oL (nxO N ((bfT (nxO N) okA B k t).st k) t)) hvn.1
        have an1 := andn (a := oW (nxO N ((bfT (nxO N) okA B k t).st k) t)) (b := 2 ^ N 270) (by omega)
        have an2 := andn (a := oL (nxO N ((bfT (nxO N) okA B k t).st k) t)) (b := 2 ^ N 270) (by omega)
        rw [hn1] at an1
        refine rk_iload rfl rfl ?_
        refine rk_iload_n rfl rfl ?_
        refine rk_iconst (v := (-1)) rfl (by decide) ?_
        refine rk_ixor rfl rfl ?_
        refine rk_iand rfl rfl ?_
        refine rk_if_ne rfl rfl (fun hc80 => ?_) (fun hc80 => ?_)
        · have hng : ¬ glO N (nxO N ((bfT (nxO N) okA B k t).st k) t) = true := fun z => hc80 (an1.mpr (hn1 ▸ (hgi.mpr (glO_t.mp z)).1))
          have G2 := bfA_all (x := (nxO N ((bfT (nxO N) okA B k t).st k) t)) (k := k) (t := t) (P := fun y => ¬ glO N y = true) G (fun _ => hng)
          refine rk_aload_n rfl rfl ?_
          refine rk_get rfl (by assumption) rfl ?_
          rw [hw21]
          refine rk_sipush (v := nI 30000) rfl (by decide) ?_
          refine rk_icmp_le rfl rfl (fun hc97 => ?_) (fun hc97 => ?_)
          · replace hc97 := (nI_leI (by omega) (by omega)).mp hc97
            have S2 := S1
            have M2 : (bfT (nxO N) okA B k (t + 1)).m ≤ 30000 := by rw [hT1]; exact hc97
            rw [← hT1] at S2 G2
            refine rk_iinc rfl rfl (n_inc _) rfl ?_
            refine rk_goto rfl rfl ?_
            exact ih (t + 1) _ _ _ (by omega) (by omega) F2 S2 M2 G2
          · replace hc97 := mt (nI_leI (by omega) (by omega)).mpr hc97
            refine rk_bipush (v := (-4)) rfl (by decide) ?_
            refine rk_ireturn rfl rfl (z3 _ _ ?_ (by omega) G2 F2.f S1.mw f53)
            rw [← hT1]
            have := bfT_mono (nxO N) okA B k (t + 1) (N 1 - (t + 1))
            rwa [show t + 1 + (N 1 - (t + 1)) = N 1 by omega] at this
        · replace hc80 := Decidable.not_not.mp hc80
          refine rk_iload rfl rfl ?_
          refine rk_iload_n rfl rfl ?_
          refine rk_iconst (v := (-1)) rfl (by decide) ?_
          refine rk_ixor rfl rfl ?_
          refine rk_iand rfl rfl ?_
          refine rk_if_ne rfl rfl (fun hc86 => ?_) (fun hc86 => ?_)
          · have hng : ¬ glO N (nxO N ((bfT (nxO N) okA B k t).st k) t) = true := fun z => hc86 (an2.mpr (hgi.mpr (glO_t.mp z)).2)
            have G2 := bfA_all (x := (nxO N ((bfT (nxO N) okA B k t).st k) t)) (k := k) (t := t) (P := fun y => ¬ glO N y = true) G (fun _ => hng)
            refine rk_aload_n rfl rfl ?_
            refine rk_get rfl (by assumption) rfl ?_
            rw [hw21]
            refine rk_sipush (v := nI 30000) rfl (by decide) ?_
            refine rk_icmp_le rfl rfl (fun hc97 => ?_) (fun hc97 => ?_)
            · replace hc97 := (nI_leI (by omega) (by omega)).mp hc97
              have S2 := S1
              have M2 : (bfT (nxO N) okA B k (t + 1)).m ≤ 30000 := by rw [hT1]; exact hc97
              rw [← hT1] at S2 G2
              refine rk_iinc rfl rfl (n_inc _) rfl ?_
              refine rk_goto rfl rfl ?_
              exact ih (t + 1) _ _ _ (by omega) (by omega) F2 S2 M2 G2
            · replace hc97 := mt (nI_leI (by omega) (by omega)).mpr hc97
              refine rk_bipush (v := (-4)) rfl (by decide) ?_
              refine rk_ireturn rfl rfl (z3 _ _ ?_ (by omega) G2 F2.f S1.mw f53)
              rw [← hT1]
              have := bfT_mono (nxO N) okA B k (t + 1) (N 1 - (t + 1))
              rwa [show t + 1 + (N 1 - (t + 1)) = N 1 by omega] at this
          · replace hc86 := Decidable.not_not.mp hc86
            have hgo : glO N ((bfA (bfT (nxO N) okA B k t) (nxO N ((bfT (nxO N) okA B k t).st k) t) k t).st ((bfA (bfT (nxO N) okA B k t) (nxO N ((bfT (nxO N) okA B k t).st k) t) k t).m - 1)) = true := by rw [y1, Nat.add_sub_cancel, y2]; exact glO_t.mpr (hgi.mp ⟨by rw [hn1]; exact an1.mp hc80, an2.mp hc86⟩)
            refine rk_aload_n rfl rfl ?_
            refine rk_aload_n rfl rfl ?_
            refine rk_get rfl (by assumption) rfl ?_
            rw [hw21]
            refine rk_iconst (v := nI 1) rfl (by decide) ?_
            refine rk_isub rfl (pk_sub (by omega)) ?_
            refine rk_cv1i rfl rfl (by assumption) rfl rfl (Nat.le_of_ble_eq_true rfl) (Nat.le_of_ble_eq_true rfl) (s237F (B := bfA (bfT (nxO N) okA B k t) (nxO N ((bfT (nxO N) okA B k t).st k) t) k t) (C := bfA (bfT (nxO N) okA B k t) (nxO N ((bfT (nxO N) okA B k t).st k) t) k t) c53 F2 S1 hI1 (Pre.rfl' _) (by omega) hgo (fun i hi => by rw [y3 i (by omega)]; exact G i (by omega))) (fun w h1 hF => ?_)
            refine rk_ireturn rfl rfl (z2 _ _ _ ?_ hI1 (by omega) ?_ ?_ hF.1 hF.2.1 hF.2.2.1 hF.2.2.2)
            · rw [← hT1]
              have := bfT_mono (nxO N) okA B k (t + 1) (N 1 - (t + 1))
              rwa [show t + 1 + (N 1 - (t + 1)) = N 1 by omega] at this
            · exact hgo
            · intro i hi
              rw [y1, Nat.add_sub_cancel] at hi
              rw [y3 i hi]
              exact G i hi
      · replace hc73 := Decidable.not_not.mp hc73
        replace hc73 := (bI_0).mp hc73
        have S2 := S1
        have M2 : (bfT (nxO N) okA B k (t + 1)).m ≤ 30000 := by rw [hT1, bfA, if_pos (Decidable.not_not.mp hc73)]; exact hm3
        have G2 := bfA_all (x := (nxO N ((bfT (nxO N) okA B k t).st k) t)) (k := k) (t := t) (P := fun y => ¬ glO N y = true) G (fun z => absurd z hc73)
        rw [← hT1] at S2 G2
        refine rk_goto rfl rfl ?_
        refine rk_iinc rfl rfl (n_inc _) rfl ?_
        refine rk_goto rfl rfl ?_
        exact ih (t + 1) _ _ _ (by omega) (by omega) F2 S2 M2 G2
theorem l246 {X : ai_X} {h : ai_H} {w A : Nat → Int32} {N : Nat → Nat} {mk set : Nat} (c53 : h[53]? = some (cI 2346 A)) (hN : HN N) (M : MH A N) (hset : vO N set) : ∀ (d : Nat) (k : Nat) (g : ai_H) (c4 c5 c6 : Option Value), 30000 < k + d → (k ≤ (bfK (nxO N) okA (N 1) set k).m) → (k ≤ 30000) → (FrM h g) → (MB g w mk oW oL (bfK (nxO N) okA (N 1) set k)) → ((bfK (nxO N) okA (N 1) set k).m ≤ 30000) → ((∀ i, i < (bfK (nxO N) okA (N 1) set k).m → ¬ glO N ((bfK (nxO N) okA (N 1) set k).st i) = true)) → Rk X am_246 34 [some (.ref 52), some (.int (nI set)), some (.int (nI (2 ^ N 270))), some (.int (nI k)), c4, c5, c6] [] g (Qi (fun y h1 => (y = ansO N set ∧ FrF h h1 ∧ MW h1 w mk ∧ ∃ A1, h1[53]? = some (cI 2346 A1) ∧ MF A A1 (ans (bO N set) (glO N)) (bO N set) (glO N)))) := by
  intro d
  induction d with
  | zero => intro k g c4 c5 c6 hd hk hk2 F S hm3 G; exfalso; omega
  | succ d ih =>
    intro k g c4 c5 c6 hd hk hk2 F S hm3 G
    obtain ⟨a0, a1, a268, a269, a270, a271, apl, apc, aot, asg, awt⟩ := id M
    obtain ⟨v, e52, hv21, hv22, -⟩ := S.obj
    obtain ⟨f57, f58, e57, e58, hsts⟩ := S.sts
    have hst1 : ∀ i, i < (bfK (nxO N) okA (N 1) set k).m → f57 i = nI (oW ((bfK (nxO N) okA (N 1) set k).st i)) := fun i hi => (hsts i hi).1
    have hst2 : ∀ i, i < (bfK (nxO N) okA (N 1) set k).m → f58 i = nI (oL ((bfK (nxO N) okA (N 1) set k).st i)) := fun i hi => (hsts i hi).2
    have e53 := (F.2 53 (by omega) (by omega)).trans c53
    have h6 := hN.t
    have hn := hN.n
    have hp14 := hN.p14
    have hpan := hN.pan
    have hgp : 2 ^ N 270 ≤ 8192 := Nat.pow_le_pow_right (n := 2) (by decide) hpan
    have hBk := BI.heads (nx := nxO N) (ok := okA) (T := N 1) (x := set) k
    refine rk_iload_n rfl rfl ?_
    refine rk_aload_n rfl rfl ?_
    refine rk_get rfl (by assumption) rfl ?_
    rw [hv21]
    refine rk_icmp_ge rfl rfl (fun hc37 => ?_) (fun hc37 => ?_)
    · replace hc37 := (nI_leI (by omega) (by omega)).mp hc37
      refine rk_iconst (v := (-1)) rfl (by decide) ?_
      have hend := bfK_end (nx := nxO N) (ok := okA) (T := N 1) (x := set) (k := k) (W := 30001) (by omega) (by omega)
      have hno : ∀ i, i < (bO N set).m → ¬ glO N ((bO N set).st i) = true := by
        unfold bO
        rw [hend]
        exact trB_end G
      have mf : MF A A (-1) (bO N set) (glO N) := MF.none hno
      have hw1 := mf.w
      rw [hw1] at mf
      exact rk_ireturn rfl rfl ⟨_, _, rfl, by rw [ansO_none hno, hend, if_pos (by omega)], F.f, S.mw, A, e53, mf⟩
    · replace hc37 := mt (nI_leI (by omega) (by omega)).mpr hc37
      refine rk_iconst (v := nI 0) rfl (by decide) ?_
      refine rk_istore rfl (Nat.le_of_ble_eq_true rfl) rfl ?_
      refine l246i (B := (bfK (nxO N) okA (N 1) set k)) c53 hN M hset hBk (by omega) ?_ ?_ ?_ (N 1 + 1) 0 g _ _ (by omega) (by omega) F S hm3 G
      · intro g2 c5 c6 F2 S2 M2 G2
        rw [← bfK_s (by omega)] at S2 G2 M2
        refine rk_iinc rfl rfl (n_inc _) rfl ?_
        refine rk_goto rfl rfl ?_
        have := (bfK_1 (nxO N) okA (N 1) set k).1
        exact ih (k + 1) g2 _ _ _ (by omega) (by omega) (by omega) F2 S2 M2 G2
      · intro B1 y h1 P1 H1 hm1 g1 g2 hy F3 W3 z3
        rw [← bfK_s (by omega)] at P1
        have P2 := (P1.tr (bfK_pre (W := 30001) (by omega))).trB hm1
        have h0 := H1.1
        obtain ⟨A1, c53', mf1⟩ := z3
        have hy2 : y = nI (dep B1.pa (B1.m - 1)) := by
          rw [hy, ans, ffi_pre (Pre.rfl' B1) (by omega) g1 g2, if_neg (by omega)]
        have mf : MF A A1 y (bO N set) (glO N) := MF.found P2 H1 (by omega) g1 g2 hy2 (by
          unfold MF at mf1
          rw [ffi_pre (Pre.rfl' B1) (by omega) g1 g2] at mf1
          rcases mf1 with ⟨q, -⟩ | ⟨-, -, q⟩
          · omega
          · exact q)
        have hw1 := mf.w
        rw [hw1] at mf
        exact ⟨_, _, rfl, ansO_found P2 H1 (by omega) g1 g2 hy2, F3, W3, A1, c53', mf⟩
      · intro B1 h1 P1 hm1 g1 F3 W3 f53
        rw [← bfK_s (by omega)] at P1
        have P2 := P1.tr (bfK_pre (W := 30001) (by omega))
        have hno : ∀ i, i < (bO N set).m → ¬ glO N ((bO N set).st i) = true := trB_full P2 hm1 g1
        have mf : MF A A (-1) (bO N set) (glO N) := MF.none hno
        have hw1 := mf.w
        rw [hw1] at mf
        exact ⟨_, _, rfl, by rw [ansO_none hno, if_neg (trB_lt P2 hm1)], F3, W3, A, f53, mf⟩
theorem m246_x {X : ai_X} {h : ai_H} {v A : Nat → Int32} {N : Nat → Nat} (c0 : h[52]? = some (cMdl v)) (c1 : h[53]? = some (cI 2346 A)) (hN : HN N) (M : MH A N) {a : Int32} (hx : ¬ IsSet N a) : Rk X am_246 3 (ai_loc (ai_mL am_246) [.ref 52, .int a]) [] h (Qe (-3) h) := by
  obtain ⟨a0, a1, a268, a269, a270, a271, apl, apc, aot, asg, awt⟩ := id M
  refine rk_aload_n rfl rfl ?_
  refine rk_iload_n rfl rfl ?_
  refine rk_cv1e rfl rfl (by assumption) rfl rfl (Nat.le_of_ble_eq_true rfl) (Nat.le_of_ble_eq_true rfl) (s208N c0 c1 hN M _) ?_
  refine rk_if_ne rfl rfl (fun hc6 => ?_) (fun hc6 => ?_)
  · replace hc6 := Decidable.not_not.mp (mt bI_0.mpr hc6)
    exact absurd hc6 hx
  · replace hc6 := Decidable.not_not.mp hc6
    replace hc6 := (bI_0).mp hc6
    refine rk_bipush (v := (-3)) rfl (by decide) ?_
    exact rk_ireturn rfl rfl Qe_mk
theorem m246_v {X : ai_X} {h : ai_H} {v A : Nat → Int32} {N : Nat → Nat} {mk : Nat} (c0 : h[52]? = some (cMdl v)) (c1 : h[53]? = some (cI 2346 A)) (hN : HN N) (M : MH A N) (H : MQs h mk) {set : Nat} (hset : 0 < set ∧ set < 2 ^ N 0) : Rk X am_246 3 (ai_loc (ai_mL am_246) [.ref 52, .int (nI set)]) [] h (Qi (fun y h1 => (y = ansO N set ∧ FrF h h1 ∧ MW h1 v (mk + 1) ∧ ∃ A1, h1[53]? = some (cI 2346 A1) ∧ MF A A1 (ans (bO N set) (glO N)) (bO N set) (glO N)))) := by
  obtain ⟨a0, a1, a268, a269, a270, a271, apl, apc, aot, asg, awt⟩ := id M
  have hp14 := hN.p14
  have hpan := hN.pan
  have hgp : 2 ^ N 270 ≤ 8192 := Nat.pow_le_pow_right (n := 2) (by decide) hpan
  have hsW : oW set = set := Nat.mod_eq_of_lt (by omega)
  have hsL : oL set = 0 := Nat.div_eq_of_lt (by omega)
  have hvs : vO N set := ⟨by rw [hsW]; exact hset.1, by rw [hsW]; exact hset.2, by rw [hsL]; exact Nat.two_pow_pos _⟩
  refine rk_aload_n rfl rfl ?_
  refine rk_iload_n rfl rfl ?_
  refine rk_cv1e rfl rfl (by assumption) rfl rfl (Nat.le_of_ble_eq_true rfl) (Nat.le_of_ble_eq_true rfl) (s208N c0 c1 hN M _) ?_
  refine rk_if_ne rfl rfl (fun hc6 => ?_) (fun hc6 => ?_)
  · replace hc6 := Decidable.not_not.mp (mt bI_0.mpr hc6)
    refine rk_iconst (v := nI 1) rfl (by decide) ?_
    refine rk_aload_n rfl rfl ?_
    refine rk_get rfl (by assumption) rfl ?_
    refine rk_sipush (v := nI 270) rfl (by decide) ?_
    refine rk_iald rfl (by assumption) (rfl) (by omega) (by decide) ?_
    rw [a270]
    refine rk_ishl rfl (b_1shlU (by omega)) ?_
    refine rk_istore_n rfl (Nat.le_of_ble_eq_true rfl) rfl ?_
    refine rk_aload_n rfl rfl ?_
    refine rk_cv0v rfl rfl (by assumption) rfl rfl (Nat.le_of_ble_eq_true rfl) (Nat.le_of_ble_eq_true rfl) (s231Q H c0) (fun h1 hF => ?_)
    obtain ⟨F1, E1⟩ := hF
    obtain ⟨v1, e52⟩ := E1.obj
    have e53 := (F1.2 53 (by omega) (by omega)).trans c1
    refine rk_aload_n rfl rfl ?_
    refine rk_iload_n rfl rfl ?_
    refine rk_iconst (v := nI 0) rfl (by decide) ?_
    refine rk_iconst (v := (-1)) rfl (by decide) ?_
    refine rk_iconst (v := (-1)) rfl (by decide) ?_
    refine rk_cv4i rfl rfl (by assumption) rfl rfl (Nat.le_of_ble_eq_true rfl) (Nat.le_of_ble_eq_true rfl) (s232RC (r1 := oW) (r2 := oL) (x := set) E1 hsW hsL (by omega) (by omega)) (fun w h1 hF => ?_)
    obtain ⟨rfl, F2, S2⟩ := hF
    obtain ⟨v2, f52, -⟩ := S2.obj
    have hB0 := BI.zero (nx := nxO N) (ok := okA) (T := N 1) (x := set)
    have P0 : Pre (bf0 set) (bO N set) := Pre.trB (bfK_pre (k := 0) (W := 30001) (by omega)) (by show 1 ≤ 30001; omega)
    refine rk_pop rfl ?_
    refine rk_iload_n rfl rfl ?_
    refine rk_iload_n rfl rfl ?_
    refine rk_icmp_ne rfl rfl (fun hc27 => ?_) (fun hc27 => ?_)
    · replace hc27 := mt (nI_eq (by omega) (by omega)).mpr hc27
      refine rk_iconst (v := nI 0) rfl (by decide) ?_
      refine rk_istore_n rfl (Nat.le_of_ble_eq_true rfl) rfl ?_
      refine l246 c1 hN M hvs 30001 0 _ _ _ _ (by omega) (by omega) (by omega) (F1.tr F2) S2 (by show 1 ≤ 30000; omega) (fun i hi => ?_)
      have hi' : i < 1 := hi
      intro z
      have z3 : oW set ||| oL set = 2 ^ N 270 := glO_t.mp z
      rw [hsW, hsL, Nat.or_zero] at z3
      exact hc27 z3
    · replace hc27 := Decidable.not_not.mp hc27
      replace hc27 := (nI_eq (by omega) (by omega)).mp hc27
      have hg0 : glO N ((bf0 set).st 0) = true := glO_t.mpr (by show oW set ||| oL set = _; rw [hsW, hsL, Nat.or_zero]; exact hc27)
      refine rk_aload_n rfl rfl ?_
      refine rk_iconst (v := nI 0) rfl (by decide) ?_
      refine rk_cv1i rfl rfl (by assumption) rfl rfl (Nat.le_of_ble_eq_true rfl) (Nat.le_of_ble_eq_true rfl) (s237F (k := 0) (C := bO N set) c1 (F1.tr F2) S2 hB0 P0 (by show 0 < 1; omega) hg0 (fun i hi => absurd hi (by omega))) (fun w h1 hF => ?_)
      obtain ⟨hw, F3, W3, A1, c53', mf⟩ := hF
      have hfz := ffi_pre P0 (g := glO N) (k := 0) (by show 0 < 1; omega) hg0 (fun i hi => absurd hi (by omega))
      have hw2 : w = nI (dep (bf0 set).pa 0) := by
        have hm0 : 0 < (bO N set).m := by have := P0.1; have e : (bf0 set).m = 1 := rfl; omega
        rw [hw, ans, hfz, if_neg (by omega), P0.dep hB0 (by show 0 < 1; omega)]
      rw [hw] at mf
      exact rk_ireturn rfl rfl ⟨_, _, rfl, ansO_found (k := 0) P0 hB0 (by show 0 < 1; omega) hg0 (fun i hi => absurd hi (by omega)) hw2, F3, W3, A1, c53', mf⟩
  · replace hc6 := Decidable.not_not.mp hc6
    replace hc6 := (bI_0).mp hc6
    exact absurd (isSet_mk hN hset.1 hset.2) hc6
theorem ob19 (X : ai_X) : O19 X Inv := by
  intro a0
  refine ob_cells fun m c s h hm I => ?_
  obtain ⟨tp, T, A, im, rs, rm, nu, fk, fp, b, hP⟩ := id I
  obtain ⟨N, mk, hN, C, M, -, hV, hFV, H, hmk, hv⟩ := Inv.sdat hP hm
  obtain ⟨hA, hB, hR, hI, hS, hO, hM, hVV, hD, hc, hs⟩ := id hP
  obtain ⟨v, d52⟩ := I.m52
  have d53 := hM.2.1
  have d0 := hA.1
  have h80 := hM.len
  by_cases hx : IsSet N a0
  · obtain ⟨set, s1, s2, rfl⟩ := isSet_of hN hx
    obtain ⟨S2, S3, ⟨n1, n2, xa, xb, d24, hvals⟩, f25, c25, hf⟩ := id hS
    obtain ⟨-, R9, ⟨n0, f0, R, hFC⟩, R17⟩ := id hB
    have hb3 : ∀ p, b 3 = some p → 80 ≤ p := fun p e => (hD 3 p (by omega) e).1
    have hp80 := np_80 hb3 h80
    refine ⟨_, _, _, _, c150_v d0 hN C d24 c25 hf R ⟨s1, s2⟩ S3 hb3 h80 hO.2.1, ?_⟩
    rintro h1 E k1
    have kq : ∀ q : Nat, 44 ≤ q → q < 80 → h1[q]? = h[q]? := fun q a1 a2 => E.2.1 q (by omega) (by omega) (by omega) (by omega) (by omega) (by omega) (by omega) (by omega)
    have e52 := (kq 52 (by omega) (by omega)).trans d52
    refine ⟨⟨_, e52⟩, md_g rfl rfl rfl rfl e52 (fun h2 g2 hk hl => ?_)⟩
    have H2 : MQs h2 mk := H.fr (fun q a1 a2 => (hk q (by omega)).trans (kq q (by omega) (by omega))) d52 g2 rfl
    refine (m246_v g2 ((hk 53 (by omega)).trans ((kq 53 (by omega) (by omega)).trans d53)) hN M H2 ⟨s1, s2⟩).mono ?_
    rintro o ⟨y, h3, e1, hy, F3, w3, A1, c53, mf⟩
    subst e1
    exact ⟨_, _, rfl, hy, fun k2 => fin3 hP hV hFV (by omega) (hv v d52) E hk F3 w3 c53 mf (BI.heads 30001).trB hl (k1.trans k2)⟩
  · exact og_cells (og_pure I (c150_x d0 hN C hx) (md_thr rfl rfl rfl rfl d52 (fun h2 g2 hk => m246_x g2 ((hk 53 (by omega)).trans d53) hN M hx)))
