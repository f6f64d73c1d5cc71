/-! SETS OF ROOMS AS BITS -/
abbrev bt (s k : Nat) : Nat := s / 2 ^ k % 2
theorem bt_tb {s k : Nat} : s.testBit k = true ↔ s / 2 ^ k % 2 = 1 := by
  rw [Nat.testBit_eq_decide_div_mod_eq]; exact decide_eq_true_iff
theorem bt_01 (s k : Nat) : s / 2 ^ k % 2 = 0 ∨ s / 2 ^ k % 2 = 1 := by omega
theorem bt_or {a b k : Nat} : (a ||| b) / 2 ^ k % 2 = 1 ↔ a / 2 ^ k % 2 = 1 ∨ b / 2 ^ k % 2 = 1 := by
  rw [← bt_tb, ← bt_tb, ← bt_tb, Nat.testBit_or, Bool.or_eq_true]
theorem bt_and {a b k : Nat} : (a &&& b) / 2 ^ k % 2 = 1 ↔ a / 2 ^ k % 2 = 1 ∧ b / 2 ^ k % 2 = 1 := by
  rw [← bt_tb, ← bt_tb, ← bt_tb, Nat.testBit_and, Bool.and_eq_true]
theorem bt_pow {j k : Nat} : 2 ^ j / 2 ^ k % 2 = 1 ↔ j = k := by
  rw [← bt_tb, Nat.testBit_two_pow]; exact decide_eq_true_iff
theorem bt_zero (k : Nat) : ¬ 0 / 2 ^ k % 2 = 1 := by rw [Nat.zero_div]; decide
theorem bs_ext {a b : Nat} (h : ∀ k, a / 2 ^ k % 2 = 1 ↔ b / 2 ^ k % 2 = 1) : a = b := by
  apply Nat.eq_of_testBit_eq
  intro k
  rw [Bool.eq_iff_iff, bt_tb, bt_tb]
  exact h k
theorem bt_lt {a n k : Nat} (h : a < 2 ^ n) (hk : a / 2 ^ k % 2 = 1) : k < n := by
  apply Decidable.byContradiction
  intro z
  have : a / 2 ^ k = 0 := Nat.div_eq_of_lt (Nat.lt_of_lt_of_le h (Nat.pow_le_pow_right (by decide) (by omega)))
  rw [this] at hk
  exact absurd hk (by decide)
theorem bs_lt {a n : Nat} (h : ∀ k, a / 2 ^ k % 2 = 1 → k < n) : a < 2 ^ n := by
  apply Nat.lt_pow_two_of_testBit
  intro i hi
  cases hz : a.testBit i
  · rfl
  · have := h i (bt_tb.mp hz)
    omega
def sub (a b : Nat) : Prop := ∀ k, a / 2 ^ k % 2 = 1 → b / 2 ^ k % 2 = 1
theorem sub.refl' (a : Nat) : sub a a := fun _ h => h
theorem sub.tr {a b c : Nat} (x : sub a b) (y : sub b c) : sub a c := fun k h => y k (x k h)
theorem sub.anti {a b : Nat} (x : sub a b) (y : sub b a) : a = b := bs_ext (fun k => ⟨x k, y k⟩)
theorem sub.lt {a b n : Nat} (x : sub a b) (h : b < 2 ^ n) : a < 2 ^ n := bs_lt (fun k hk => bt_lt h (x k hk))
theorem sub.l (a b : Nat) : sub a (a ||| b) := fun _ h => bt_or.mpr (Or.inl h)
theorem sub.r (a b : Nat) : sub b (a ||| b) := fun _ h => bt_or.mpr (Or.inr h)
theorem sub.or {a b c : Nat} (x : sub a c) (y : sub b c) : sub (a ||| b) c := fun k h => (bt_or.mp h).elim (x k) (y k)
theorem sub.of_or {a b : Nat} (h : a ||| b = a) : sub b a := by have := sub.r a b; rw [h] at this; exact this
theorem sub.le {a b : Nat} (x : sub a b) : a ≤ b := by
  have : a ||| b = b := bs_ext (fun k => ⟨fun h => (bt_or.mp h).elim (x k) id, fun h => bt_or.mpr (Or.inr h)⟩)
  rw [← this]; exact Nat.left_le_or
/-- how many rooms, below k -/
def pop (s : Nat) : Nat → Nat
  | 0 => 0
  | k + 1 => pop s k + s / 2 ^ k % 2
theorem pop_le (s : Nat) : ∀ n, pop s n ≤ n
  | 0 => Nat.le_refl _
  | n + 1 => by have := pop_le s n; have := bt_01 s n; simp only [pop]; omega
theorem pop_sub {a b : Nat} (x : sub a b) : ∀ n, pop a n ≤ pop b n
  | 0 => Nat.le_refl _
  | n + 1 => by
    have := pop_sub x n
    have h1 := bt_01 a n
    have h2 := bt_01 b n
    have h3 := x n
    simp only [pop]
    omega
theorem pop_sub_lt {a b : Nat} (x : sub a b) : ∀ n k, k < n → b / 2 ^ k % 2 = 1 → ¬ a / 2 ^ k % 2 = 1 → pop a n < pop b n
  | 0, k, hk, _, _ => by omega
  | n + 1, k, hk, hb, ha => by
    have h1 := bt_01 a n
    have h2 := bt_01 b n
    have h3 := x n
    simp only [pop]
    by_cases e : k = n
    · subst e
      have := pop_sub x k
      omega
    · have := pop_sub_lt x n k (by omega) hb ha
      omega
theorem pop_lt {a b n : Nat} (x : sub a b) (hb : b < 2 ^ n) (hne : a ≠ b) : pop a n < pop b n := by
  have : ¬ sub b a := fun y => hne (x.anti y)
  have h2 : ∃ k, b / 2 ^ k % 2 = 1 ∧ ¬ a / 2 ^ k % 2 = 1 := by
    apply Classical.byContradiction
    intro z
    exact this (fun k hk => Classical.byContradiction fun y => z ⟨k, hk, y⟩)
  obtain ⟨k, h3, h4⟩ := h2
  exact pop_sub_lt x n k (bt_lt hb h3) h3 h4
theorem pop_pos {s k : Nat} (hk : s / 2 ^ k % 2 = 1) : ∀ n, k < n → 1 ≤ pop s n
  | 0, h => by omega
  | n + 1, h => by
    simp only [pop]
    by_cases e : k = n
    · subst e; omega
    · have := pop_pos hk n (by omega); omega
/-- where a set may be behind a tone -/
def mb (N : Nat → Nat) (r t : Nat) : Nat := if 0 < pct N r t then 2 ^ pl N r t ||| 2 ^ ot N r t else 2 ^ pl N r t
def mim (N : Nat → Nat) (s t : Nat) : Nat → Nat
  | 0 => 0
  | k + 1 => if s / 2 ^ k % 2 = 0 then mim N s t k else mim N s t k ||| mb N k t
def img (N : Nat → Nat) (s t : Nat) : Nat := mim N s t (N 0)
theorem mim_z {N : Nat → Nat} {s t k : Nat} (h : s / 2 ^ k % 2 = 0) : mim N s t (k + 1) = mim N s t k := by rw [mim, if_pos h]
theorem mim_s {N : Nat → Nat} {s t k : Nat} (h : ¬ s / 2 ^ k % 2 = 0) : mim N s t (k + 1) = mim N s t k ||| mb N k t := by rw [mim, if_neg h]
theorem bt_mb {N : Nat → Nat} {r t j : Nat} : mb N r t / 2 ^ j % 2 = 1 ↔ pl N r t = j ∨ (0 < pct N r t ∧ ot N r t = j) := by
  unfold mb
  by_cases h : 0 < pct N r t
  · rw [if_pos h, bt_or, bt_pow, bt_pow]
    exact ⟨fun z => z.elim Or.inl (fun y => Or.inr ⟨h, y⟩), fun z => z.elim Or.inl (fun y => Or.inr y.2)⟩
  · rw [if_neg h, bt_pow]
    exact ⟨Or.inl, fun z => z.elim id (fun y => absurd y.1 h)⟩
theorem bt_mim {N : Nat → Nat} {s t j : Nat} : ∀ k, mim N s t k / 2 ^ j % 2 = 1 ↔ ∃ r, r < k ∧ s / 2 ^ r % 2 = 1 ∧ mb N r t / 2 ^ j % 2 = 1
  | 0 => ⟨fun h => absurd h (bt_zero j), fun ⟨r, h, _⟩ => absurd h (by omega)⟩
  | k + 1 => by
    have ih := bt_mim (N := N) (s := s) (t := t) (j := j) k
    by_cases h : s / 2 ^ k % 2 = 0
    · rw [mim_z h, ih]
      constructor
      · rintro ⟨r, a, b, c⟩; exact ⟨r, by omega, b, c⟩
      · rintro ⟨r, a, b, c⟩
        by_cases e : r = k
        · subst e; omega
        · exact ⟨r, by omega, b, c⟩
    · have h1 : s / 2 ^ k % 2 = 1 := by omega
      rw [mim_s h, bt_or, ih]
      constructor
      · rintro (⟨r, a, b, c⟩ | c)
        · exact ⟨r, by omega, b, c⟩
        · exact ⟨k, by omega, h1, c⟩
      · rintro ⟨r, a, b, c⟩
        by_cases e : r = k
        · subst e; exact Or.inr c
        · exact Or.inl ⟨r, by omega, b, c⟩
theorem mb_lt {N : Nat → Nat} {r t : Nat} (hN : HN N) (hr : r < N 0) (ht : t < N 1) : mb N r t < 2 ^ N 0 := by
  have := hN.n
  have := hN.t
  apply bs_lt
  intro k hk
  rcases bt_mb.mp hk with z | ⟨p, z⟩
  · rw [← z]; exact hN.xpl hr ht
  · rw [← z]; exact hN.xot (by omega) (by omega) p
theorem mim_lt {N : Nat → Nat} {s t : Nat} (hN : HN N) (ht : t < N 1) {k : Nat} (hk : k ≤ N 0) : mim N s t k < 2 ^ N 0 := by
  apply bs_lt
  intro j hj
  obtain ⟨r, a, b, c⟩ := (bt_mim k).mp hj
  exact bt_lt (mb_lt hN (by omega) ht) c
theorem img_lt {N : Nat → Nat} {s t : Nat} (hN : HN N) (ht : t < N 1) : img N s t < 2 ^ N 0 := mim_lt hN ht (Nat.le_refl _)
theorem img_mono {N : Nat → Nat} {a b t : Nat} (x : sub a b) : sub (img N a t) (img N b t) := by
  intro k hk
  obtain ⟨r, h1, h2, h3⟩ := (bt_mim _).mp hk
  exact (bt_mim _).mpr ⟨r, h1, x r h2, h3⟩
theorem HN.p14 {N : Nat → Nat} (hN : HN N) : 2 ^ N 0 ≤ 16384 := b_p14 hN.n
/-- a set that is no set at all, or one of the house's -/
abbrev IsSet (N : Nat → Nat) (x : Int32) : Prop := ¬ x ≤ 0 ∧ ¬ nI (2 ^ N 0) ≤ x
theorem isSet_iff {N : Nat → Nat} (hN : HN N) (x : Int32) : (¬ x < nI 1 ∧ ¬ (nI (2 ^ N 0) - nI 1) < x) ↔ IsSet N x := by
  have hp := hN.p14
  have e1 : x < nI 1 ↔ x ≤ 0 := by
    rw [Int32.lt_iff_toInt_lt, Int32.le_iff_toInt_le, nI_toInt (by omega)]
    have : (0 : Int32).toInt = 0 := by decide
    omega
  have e2 : nI (2 ^ N 0) - nI 1 < x ↔ nI (2 ^ N 0) ≤ x := by
    rw [Int32.lt_iff_toInt_lt, Int32.le_iff_toInt_le, pk_sub_toInt (by omega) (by decide), nI_toInt (by omega)]
    omega
  rw [e1, e2]
theorem isSet_of {N : Nat → Nat} (hN : HN N) {x : Int32} (h : IsSet N x) : ∃ s, 0 < s ∧ s < 2 ^ N 0 ∧ x = nI s := by
  have hp := hN.p14
  have h0 : ¬ x < 0 := fun z => h.1 (by rw [Int32.le_iff_toInt_le]; rw [Int32.lt_iff_toInt_lt] at z; omega)
  obtain ⟨s, hs, rfl⟩ := in_of (n := 2 ^ N 0) (by omega) ⟨h0, h.2⟩
  refine ⟨s, ?_, hs, rfl⟩
  have := h.1
  rw [n0_le (by omega)] at this
  omega
theorem isSet_mk {N : Nat → Nat} (hN : HN N) {s : Nat} (h0 : 0 < s) (h : s < 2 ^ N 0) : IsSet N (nI s) := by
  have hp := hN.p14
  refine ⟨?_, nI_ge h (by omega)⟩
  rw [n0_le (by omega)]
  omega
theorem s26N {X : ai_X} {h : ai_H} {p : Nat} {N : Nat → Nat} (hN : HN N) (C : CH h p N) (x : Int32) : Mt X am_26 [.ref p, .int x] h (Qe (bI (IsSet N x)) h) := by
  have d0 := C.1
  have hn := hN.n
  refine rk_iload_n rfl rfl ?_
  refine rk_if_le rfl rfl (fun hc1 => ?_) (fun hc1 => ?_)
  · refine rk_iconst (v := nI 0) rfl (by decide) ?_
    exact rk_ireturn rfl (by decide) (Qe_of (by first | (simp [bI, nI_0, nI_one, *]; done) | (rw [bI, if_pos ⟨by assumption, by assumption⟩]; rfl) | (rw [bI, if_neg (fun z => z.2 (by assumption))]; rfl)))
  · refine rk_iload_n rfl rfl ?_
    refine rk_iconst (v := nI 1) rfl (by decide) ?_
    refine rk_aload_n rfl rfl ?_
    refine rk_get rfl (by assumption) rfl ?_
    refine rk_ishl rfl (b_1shlU (by omega)) ?_
    refine rk_icmp_ge rfl rfl (fun hc7 => ?_) (fun hc7 => ?_)
    · refine rk_iconst (v := nI 0) rfl (by decide) ?_
      exact rk_ireturn rfl (by decide) (Qe_of (by first | (simp [bI, nI_0, nI_one, *]; done) | (rw [bI, if_pos ⟨by assumption, by assumption⟩]; rfl) | (rw [bI, if_neg (fun z => z.2 (by assumption))]; rfl)))
    · refine rk_iconst (v := nI 1) rfl (by decide) ?_
      refine rk_goto rfl rfl ?_
      exact rk_ireturn rfl (by decide) (Qe_of (by first | (simp [bI, nI_0, nI_one, *]; done) | (rw [bI, if_pos ⟨by assumption, by assumption⟩]; rfl) | (rw [bI, if_neg (fun z => z.2 (by assumption))]; rfl)))
theorem s37 {X : ai_X} {h : ai_H} {p : Nat} {N : Nat → Nat} (hN : HN N) (C : CH h p N) {r t : Nat} (hr : r < N 0) (ht : t < N 1) : Mt X am_37 [.ref p, .int (nI r), .int (nI t)] h (Qe (nI (mb N r t)) h) := by
  have d0 := C.1
  have hn := hN.n
  have htt := hN.t
  have hp := hN.xpl hr ht
  have hq := hN.xpct (r := r) (i := t) (by omega) (by omega)
  refine rk_iconst (v := nI 1) rfl (by decide) ?_
  refine rk_aload_n rfl rfl ?_
  refine rk_iload_n rfl rfl ?_
  refine rk_iload_n rfl rfl ?_
  refine rk_cv2e rfl rfl (by assumption) rfl rfl (Nat.le_of_ble_eq_true rfl) (Nat.le_of_ble_eq_true rfl) (s27N C hN hr ht) ?_
  refine rk_ishl rfl (b_1shlU (by omega)) ?_
  refine rk_istore_n rfl (Nat.le_of_ble_eq_true rfl) rfl ?_
  refine rk_aload_n rfl rfl ?_
  refine rk_iload_n rfl rfl ?_
  refine rk_iload_n rfl rfl ?_
  refine rk_cv2e rfl rfl (by assumption) rfl rfl (Nat.le_of_ble_eq_true rfl) (Nat.le_of_ble_eq_true rfl) (s29N C (by omega) (by omega)) ?_
  refine rk_if_le rfl rfl (fun hc11 => ?_) (fun hc11 => ?_)
  · replace hc11 := (n0_le (by omega)).mp hc11
    refine rk_iload_n rfl rfl ?_
    exact rk_ireturn rfl rfl (Qe_of (by rw [mb]; first | (rw [if_pos (by omega)]; done) | (rw [if_neg (by omega)]; done)))
  · replace hc11 := mt (n0_le (by omega)).mpr hc11
    have ho := hN.xot (r := r) (i := t) (by omega) (by omega) (by omega)
    refine rk_iload_n rfl rfl ?_
    refine rk_iconst (v := nI 1) rfl (by decide) ?_
    refine rk_aload_n rfl rfl ?_
    refine rk_iload_n rfl rfl ?_
    refine rk_iload_n rfl rfl ?_
    refine rk_cv2e rfl rfl (by assumption) rfl rfl (Nat.le_of_ble_eq_true rfl) (Nat.le_of_ble_eq_true rfl) (s28N C (by omega) (by omega) (by omega)) ?_
    refine rk_ishl rfl (b_1shlU (by omega)) ?_
    refine rk_ior rfl (b_orU _ _) ?_
    refine rk_goto rfl rfl ?_
    exact rk_ireturn rfl rfl (Qe_of (by rw [mb]; first | (rw [if_pos (by omega)]; done) | (rw [if_neg (by omega)]; done)))
theorem l38 {X : ai_X} {h : ai_H} {p : Nat} {N : Nat → Nat} (hN : HN N) (C : CH h p N) {s t : Nat} (hs : s < 16384) (ht : t < N 1) : ∀ (d : Nat) (j : Nat), N 0 < j + d → (j ≤ N 0) → Rk X am_38 4 [some (.ref p), some (.int (nI s)), some (.int (nI t)), some (.int (nI (mim N s t j))), some (.int (nI j))] [] h (Qe (nI (img N s t)) h) := by
  intro d
  induction d with
  | zero => intro j hd hj; exfalso; omega
  | succ d ih =>
    intro j hd hj
    have d0 := C.1
    have hn := hN.n
    refine rk_iload rfl rfl ?_
    refine rk_aload_n rfl rfl ?_
    refine rk_get rfl (by assumption) rfl ?_
    refine rk_icmp_ge rfl rfl (fun hc7 => ?_) (fun hc7 => ?_)
    · replace hc7 := (nI_leI (by omega) (by omega)).mp hc7
      refine rk_iload_n rfl rfl ?_
      exact rk_ireturn rfl rfl (Qe_of (by rw [show j = N 0 by omega]; rfl))
    · replace hc7 := mt (nI_leI (by omega) (by omega)).mpr hc7
      refine rk_iload_n rfl rfl ?_
      refine rk_iload rfl rfl ?_
      refine rk_iushr rfl (b_ushr (by omega) (by omega)) ?_
      refine rk_iconst (v := nI 1) rfl (by decide) ?_
      refine rk_iand rfl (b_and1U _) ?_
      refine rk_if_eq rfl rfl (fun hc13 => ?_) (fun hc13 => ?_)
      · replace hc13 := (n0_eq (by omega)).mp hc13
        have hm := mim_z (N := N) (t := t) hc13
        refine rk_iinc rfl rfl (n_inc _) rfl ?_
        refine rk_goto rfl rfl ?_
        have z := ih (j + 1) (by omega) (by omega)
        rw [hm] at z
        exact z
      · replace hc13 := mt (n0_eq (by omega)).mpr hc13
        have hm := mim_s (N := N) (t := t) hc13
        refine rk_iload_n rfl rfl ?_
        refine rk_aload_n rfl rfl ?_
        refine rk_iload rfl rfl ?_
        refine rk_iload_n rfl rfl ?_
        refine rk_cv2e rfl rfl (by assumption) rfl rfl (Nat.le_of_ble_eq_true rfl) (Nat.le_of_ble_eq_true rfl) (s37 hN C (by omega) ht) ?_
        refine rk_ior rfl (b_orU _ _) ?_
        refine rk_istore_n rfl (Nat.le_of_ble_eq_true rfl) rfl ?_
        refine rk_iinc rfl rfl (n_inc _) rfl ?_
        refine rk_goto rfl rfl ?_
        have z := ih (j + 1) (by omega) (by omega)
        rw [hm] at z
        exact z
theorem s38 {X : ai_X} {h : ai_H} {p : Nat} {N : Nat → Nat} (hN : HN N) (C : CH h p N) {s t : Nat} (hs : s < 16384) (ht : t < N 1) : Mt X am_38 [.ref p, .int (nI s), .int (nI t)] h (Qe (nI (img N s t)) h) := by
  refine rk_iconst (v := nI 0) rfl (by decide) ?_
  refine rk_istore_n rfl (Nat.le_of_ble_eq_true rfl) rfl ?_
  refine rk_iconst (v := nI 0) rfl (by decide) ?_
  refine rk_istore rfl (Nat.le_of_ble_eq_true rfl) rfl ?_
  exact l38 hN C hs ht (N 0 + 1) 0 (by omega) (by omega)
theorem s208N {X : ai_X} {h : ai_H} {v A : Nat → Int32} {N : Nat → Nat} (c0 : h[52]? = some (cMdl v)) (c1 : h[53]? = some (cI 2346 A)) (hN : HN N) (M : MH A N) (x : Int32) : Mt X am_208 [.ref 52, .int x] h (Qe (bI (IsSet N x)) h) := by
  obtain ⟨a0, a1, a268, a269, a270, a271, apl, apc, aot, asg, awt⟩ := id M
  have hn := hN.n
  rw [← bI_congr (isSet_iff hN x)]
  refine rk_iload_n rfl rfl ?_
  refine rk_i2l rfl rfl ?_
  refine rk_lconst (v := 1) rfl (by decide) ?_
  rw [show (1 : Int64) = (nI 1).toInt64 by decide]
  refine rk_iconst (v := nI 1) rfl (by decide) ?_
  refine rk_aload_n rfl rfl ?_
  refine rk_get rfl (by assumption) rfl ?_
  refine rk_iconst (v := nI 0) rfl (by decide) ?_
  refine rk_iald rfl (by assumption) (rfl) (by omega) (by decide) ?_
  rw [a0]
  refine rk_ishl rfl (b_1shlU (by omega)) ?_
  refine rk_iconst (v := nI 1) rfl (by decide) ?_
  refine rk_isub rfl rfl ?_
  refine rk_i2l rfl rfl ?_
  refine rk_cs3e rfl rfl rfl (Nat.le_of_ble_eq_true rfl) (Nat.le_of_ble_eq_true rfl) (s181 _ _ _) ?_
  exact rk_ireturn rfl bI_rok Qe_mk
theorem l211 {X : ai_X} {h : ai_H} {v A : Nat → Int32} {N : Nat → Nat} (c0 : h[52]? = some (cMdl v)) (c1 : h[53]? = some (cI 2346 A)) (hN : HN N) (M : MH A N) {s t : Nat} (hs : s < 16384) (ht : t < N 1) : ∀ (d : Nat) (j : Nat), N 0 < j + d → (j ≤ N 0) → Rk X am_211 4 [some (.ref 52), some (.int (nI s)), some (.int (nI t)), some (.int (nI (mim N s t j))), some (.int (nI j))] [] h (Qe (nI (img N s t)) h) := by
  intro d
  induction d with
  | zero => intro j hd hj; exfalso; omega
  | succ d ih =>
    intro j hd hj
    obtain ⟨a0, a1, a268, a269, a270, a271, apl, apc, aot, asg, awt⟩ := id M
    have hn := hN.n
    have htt := hN.t
    refine rk_iload rfl rfl ?_
    refine rk_aload_n rfl rfl ?_
    refine rk_get rfl (by assumption) rfl ?_
    refine rk_iconst (v := nI 0) rfl (by decide) ?_
    refine rk_iald rfl (by assumption) (rfl) (by omega) (by decide) ?_
    rw [a0]
    refine rk_icmp_ge rfl rfl (fun hc9 => ?_) (fun hc9 => ?_)
    · replace hc9 := (nI_leI (by omega) (by omega)).mp hc9
      refine rk_iload_n rfl rfl ?_
      exact rk_ireturn rfl rfl (Qe_of (by rw [show j = N 0 by omega]; rfl))
    · replace hc9 := mt (nI_leI (by omega) (by omega)).mpr hc9
      have hpl := hN.xpl (r := j) (i := t) (by omega) ht
      refine rk_iload_n rfl rfl ?_
      refine rk_iload rfl rfl ?_
      refine rk_ishr rfl (b_shr (by omega) (by omega)) ?_
      refine rk_iconst (v := nI 1) rfl (by decide) ?_
      refine rk_iand rfl (b_and1U _) ?_
      refine rk_if_ne rfl rfl (fun hc15 => ?_) (fun hc15 => ?_)
      · replace hc15 := mt (n0_eq (by omega)).mpr hc15
        refine rk_iload_n rfl rfl ?_
        refine rk_iconst (v := nI 1) rfl (by decide) ?_
        refine rk_aload_n rfl rfl ?_
        refine rk_iload rfl rfl ?_
        refine rk_iload_n rfl rfl ?_
        refine rk_cv2e rfl rfl (by assumption) rfl rfl (Nat.le_of_ble_eq_true rfl) (Nat.le_of_ble_eq_true rfl) (s210N c0 c1 M hN (by omega) ht) ?_
        refine rk_ishl rfl (b_1shlU (by omega)) ?_
        refine rk_ior rfl (b_orU _ _) ?_
        refine rk_istore_n rfl (Nat.le_of_ble_eq_true rfl) rfl ?_
        refine rk_iload_n rfl rfl ?_
        refine rk_aload_n rfl rfl ?_
        refine rk_get rfl (by assumption) rfl ?_
        refine rk_bipush (v := nI 86) rfl (by decide) ?_
        refine rk_iload rfl rfl ?_
        refine rk_iload_n rfl rfl ?_
        refine rk_cs2e rfl rfl rfl (Nat.le_of_ble_eq_true rfl) (Nat.le_of_ble_eq_true rfl) (s196) ?_
        refine rk_iadd rfl (nI_add _ _) ?_
        refine rk_iald rfl (by assumption) (rfl) (by omega) (by decide) ?_
        rw [aot j t (by omega) ht]
        refine rk_iconst (v := (-1)) rfl (by decide) ?_
        refine rk_icmp_ne rfl rfl (fun hc36 => ?_) (fun hc36 => ?_)
        · have hp : ¬ pct N j t = 0 := fun z => hc36 (if_pos z)
          have ho := hN.xot (r := j) (i := t) (by omega) (by omega) (by omega)
          have hm := mim_s (N := N) (t := t) hc15
          rw [mb, if_pos (by omega), ← Nat.or_assoc] at hm
          refine rk_iconst (v := nI 1) rfl (by decide) ?_
          refine rk_aload_n rfl rfl ?_
          refine rk_get rfl (by assumption) rfl ?_
          refine rk_bipush (v := nI 86) rfl (by decide) ?_
          refine rk_iload rfl rfl ?_
          refine rk_iload_n rfl rfl ?_
          refine rk_cs2e rfl rfl rfl (Nat.le_of_ble_eq_true rfl) (Nat.le_of_ble_eq_true rfl) (s196) ?_
          refine rk_iadd rfl (nI_add _ _) ?_
          refine rk_iald rfl (by assumption) (rfl) (by omega) (by decide) ?_
          rw [aot j t (by omega) ht, if_neg hp]
          refine rk_ishl rfl (b_1shlU (by omega)) ?_
          refine rk_ior rfl (b_orU _ _) ?_
          refine rk_istore_n rfl (Nat.le_of_ble_eq_true rfl) rfl ?_
          refine rk_iinc rfl rfl (n_inc _) rfl ?_
          refine rk_goto rfl rfl ?_
          have z := ih (j + 1) (by omega) (by omega)
          rw [hm] at z
          exact z
        · replace hc36 := Decidable.not_not.mp hc36
          have hp : pct N j t = 0 := Decidable.byContradiction fun z => nm_eq (a := ot N j t) (by have := hN.xot (r := j) (i := t) (by omega) (by omega) (by omega); omega) ((if_neg z).symm.trans hc36)
          have hm := mim_s (N := N) (t := t) hc15
          rw [mb, if_neg (by omega), ← Nat.or_zero (mim N s t j ||| 2 ^ pl N j t)] at hm
          refine rk_iconst (v := nI 0) rfl (by decide) ?_
          refine rk_goto rfl rfl ?_
          refine rk_ior rfl (b_orU _ _) ?_
          refine rk_istore_n rfl (Nat.le_of_ble_eq_true rfl) rfl ?_
          refine rk_iinc rfl rfl (n_inc _) rfl ?_
          refine rk_goto rfl rfl ?_
          have z := ih (j + 1) (by omega) (by omega)
          rw [hm] at z
          exact z
      · replace hc15 := Decidable.not_not.mp hc15
        replace hc15 := (n0_eq (by omega)).mp hc15
        have hm := mim_z (N := N) (t := t) hc15
        refine rk_goto rfl rfl ?_
        refine rk_iinc rfl rfl (n_inc _) rfl ?_
        refine rk_goto rfl rfl ?_
        have z := ih (j + 1) (by omega) (by omega)
        rw [hm] at z
        exact z
theorem s211 {X : ai_X} {h : ai_H} {v A : Nat → Int32} {N : Nat → Nat} (c0 : h[52]? = some (cMdl v)) (c1 : h[53]? = some (cI 2346 A)) (hN : HN N) (M : MH A N) {s t : Nat} (hs : s < 16384) (ht : t < N 1) : Mt X am_211 [.ref 52, .int (nI s), .int (nI t)] h (Qe (nI (img N s t)) h) := by
  refine rk_iconst (v := nI 0) rfl (by decide) ?_
  refine rk_istore_n rfl (Nat.le_of_ble_eq_true rfl) rfl ?_
  refine rk_iconst (v := nI 0) rfl (by decide) ?_
  refine rk_istore rfl (Nat.le_of_ble_eq_true rfl) rfl ?_
  exact l211 c0 c1 hN M hs ht (N 0 + 1) 0 (by omega) (by omega)
def pim (N : Nat → Nat) (s t : Nat) : Nat → Nat
  | 0 => 0
  | k + 1 => if s / 2 ^ k % 2 = 0 then pim N s t k else pim N s t k ||| 2 ^ pl N k t
def pimg (N : Nat → Nat) (s t : Nat) : Nat := pim N s t (N 0)
theorem pim_z {N : Nat → Nat} {s t k : Nat} (h : s / 2 ^ k % 2 = 0) : pim N s t (k + 1) = pim N s t k := by rw [pim, if_pos h]
theorem pim_s {N : Nat → Nat} {s t k : Nat} (h : ¬ s / 2 ^ k % 2 = 0) : pim N s t (k + 1) = pim N s t k ||| 2 ^ pl N k t := by rw [pim, if_neg h]
theorem bt_pim {N : Nat → Nat} {s t j : Nat} : ∀ k, pim N s t k / 2 ^ j % 2 = 1 ↔ ∃ r, r < k ∧ s / 2 ^ r % 2 = 1 ∧ pl N r t = j
  | 0 => ⟨fun h => absurd h (bt_zero j), fun ⟨r, h, _⟩ => absurd h (by omega)⟩
  | k + 1 => by
    have ih := bt_pim (N := N) (s := s) (t := t) (j := j) k
    by_cases h : s / 2 ^ k % 2 = 0
    · rw [pim_z h, ih]
      constructor
      · rintro ⟨r, a, b, c⟩; exact ⟨r, by omega, b, c⟩
      · rintro ⟨r, a, b, c⟩
        by_cases e : r = k
        · subst e; omega
        · exact ⟨r, by omega, b, c⟩
    · have h1 : s / 2 ^ k % 2 = 1 := by omega
      rw [pim_s h, bt_or, ih, bt_pow]
      constructor
      · rintro (⟨r, a, b, c⟩ | c)
        · exact ⟨r, by omega, b, c⟩
        · exact ⟨k, by omega, h1, c⟩
      · rintro ⟨r, a, b, c⟩
        by_cases e : r = k
        · subst e; exact Or.inr c
        · exact Or.inl ⟨r, by omega, b, c⟩
theorem pimg_lt {N : Nat → Nat} {s t : Nat} (hN : HN N) (ht : t < N 1) : pimg N s t < 2 ^ N 0 := by
  apply bs_lt
  intro j hj
  obtain ⟨r, a, b, c⟩ := (bt_pim _).mp hj
  rw [← c]; exact hN.xpl a ht
theorem l39 {X : ai_X} {h : ai_H} {p : Nat} {N : Nat → Nat} (hN : HN N) (C : CH h p N) {s t : Nat} (hs : s < 16384) (ht : t < N 1) : ∀ (d : Nat) (j : Nat), N 0 < j + d → (j ≤ N 0) → Rk X am_39 4 [some (.ref p), some (.int (nI s)), some (.int (nI t)), some (.int (nI (pim N s t j))), some (.int (nI j))] [] h (Qe (nI (pimg N s t)) h) := by
  intro d
  induction d with
  | zero => intro j hd hj; exfalso; omega
  | succ d ih =>
    intro j hd hj
    have d0 := C.1
    have hn := hN.n
    refine rk_iload rfl rfl ?_
    refine rk_aload_n rfl rfl ?_
    refine rk_get rfl (by assumption) rfl ?_
    refine rk_icmp_ge rfl rfl (fun hc7 => ?_) (fun hc7 => ?_)
    · replace hc7 := (nI_leI (by omega) (by omega)).mp hc7
      refine rk_iload_n rfl rfl ?_
      exact rk_ireturn rfl rfl (Qe_of (by rw [show j = N 0 by omega]; rfl))
    · replace hc7 := mt (nI_leI (by omega) (by omega)).mpr hc7
      have hpl := hN.xpl (r := j) (i := t) (by omega) ht
      refine rk_iload_n rfl rfl ?_
      refine rk_iload rfl rfl ?_
      refine rk_iushr rfl (b_ushr (by omega) (by omega)) ?_
      refine rk_iconst (v := nI 1) rfl (by decide) ?_
      refine rk_iand rfl (b_and1U _) ?_
      refine rk_if_eq rfl rfl (fun hc13 => ?_) (fun hc13 => ?_)
      · replace hc13 := (n0_eq (by omega)).mp hc13
        have hm := pim_z (N := N) (t := t) hc13
        refine rk_iinc rfl rfl (n_inc _) rfl ?_
        refine rk_goto rfl rfl ?_
        have z := ih (j + 1) (by omega) (by omega)
        rw [hm] at z
        exact z
      · replace hc13 := mt (n0_eq (by omega)).mpr hc13
        have hm := pim_s (N := N) (t := t) hc13
        refine rk_iload_n rfl rfl ?_
        refine rk_iconst (v := nI 1) rfl (by decide) ?_
        refine rk_aload_n rfl rfl ?_
        refine rk_iload rfl rfl ?_
        refine rk_iload_n rfl rfl ?_
        refine rk_cv2e rfl rfl (by assumption) rfl rfl (Nat.le_of_ble_eq_true rfl) (Nat.le_of_ble_eq_true rfl) (s27N C hN (by omega) ht) ?_
        refine rk_ishl rfl (b_1shlU (by omega)) ?_
        refine rk_ior rfl (b_orU _ _) ?_
        refine rk_istore_n rfl (Nat.le_of_ble_eq_true rfl) rfl ?_
        refine rk_iinc rfl rfl (n_inc _) rfl ?_
        refine rk_goto rfl rfl ?_
        have z := ih (j + 1) (by omega) (by omega)
        rw [hm] at z
        exact z
theorem s39 {X : ai_X} {h : ai_H} {p : Nat} {N : Nat → Nat} (hN : HN N) (C : CH h p N) {s t : Nat} (hs : s < 16384) (ht : t < N 1) : Mt X am_39 [.ref p, .int (nI s), .int (nI t)] h (Qe (nI (pimg N s t)) h) := by
  refine rk_iconst (v := nI 0) rfl (by decide) ?_
  refine rk_istore_n rfl (Nat.le_of_ble_eq_true rfl) rfl ?_
  refine rk_iconst (v := nI 0) rfl (by decide) ?_
  refine rk_istore rfl (Nat.le_of_ble_eq_true rfl) rfl ?_
  exact l39 hN C hs ht (N 0 + 1) 0 (by omega) (by omega)
theorem l212 {X : ai_X} {h : ai_H} {v A : Nat → Int32} {N : Nat → Nat} (c0 : h[52]? = some (cMdl v)) (c1 : h[53]? = some (cI 2346 A)) (hN : HN N) (M : MH A N) {s t : Nat} (hs : s < 16384) (ht : t < N 1) : ∀ (d : Nat) (j : Nat), N 0 < j + d → (j ≤ N 0) → Rk X am_212 4 [some (.ref 52), some (.int (nI s)), some (.int (nI t)), some (.int (nI (pim N s t j))), some (.int (nI j))] [] h (Qe (nI (pimg N s t)) h) := by
  intro d
  induction d with
  | zero => intro j hd hj; exfalso; omega
  | succ d ih =>
    intro j hd hj
    obtain ⟨a0, a1, a268, a269, a270, a271, apl, apc, aot, asg, awt⟩ := id M
    have hn := hN.n
    have htt := hN.t
    refine rk_iload rfl rfl ?_
    refine rk_aload_n rfl rfl ?_
    refine rk_get rfl (by assumption) rfl ?_
    refine rk_iconst (v := nI 0) rfl (by decide) ?_
    refine rk_iald rfl (by assumption) (rfl) (by omega) (by decide) ?_
    rw [a0]
    refine rk_icmp_ge rfl rfl (fun hc9 => ?_) (fun hc9 => ?_)
    · replace hc9 := (nI_leI (by omega) (by omega)).mp hc9
      refine rk_iload_n rfl rfl ?_
      exact rk_ireturn rfl rfl (Qe_of (by rw [show j = N 0 by omega]; rfl))
    · replace hc9 := mt (nI_leI (by omega) (by omega)).mpr hc9
      have hpl := hN.xpl (r := j) (i := t) (by omega) ht
      refine rk_iload_n rfl rfl ?_
      refine rk_iload_n rfl rfl ?_
      refine rk_iload rfl rfl ?_
      refine rk_ishr rfl (b_shr (by omega) (by omega)) ?_
      refine rk_iconst (v := nI 1) rfl (by decide) ?_
      refine rk_iand rfl (b_and1U _) ?_
      refine rk_if_ne rfl rfl (fun hc16 => ?_) (fun hc16 => ?_)
      · replace hc16 := mt (n0_eq (by omega)).mpr hc16
        have hm := pim_s (N := N) (t := t) hc16
        refine rk_iconst (v := nI 1) rfl (by decide) ?_
        refine rk_aload_n rfl rfl ?_
        refine rk_iload rfl rfl ?_
        refine rk_iload_n rfl rfl ?_
        refine rk_cv2e rfl rfl (by assumption) rfl rfl (Nat.le_of_ble_eq_true rfl) (Nat.le_of_ble_eq_true rfl) (s210N c0 c1 M hN (by omega) ht) ?_
        refine rk_ishl rfl (b_1shlU (by omega)) ?_
        refine rk_ior rfl (b_orU _ _) ?_
        refine rk_istore_n rfl (Nat.le_of_ble_eq_true rfl) rfl ?_
        refine rk_iinc rfl rfl (n_inc _) rfl ?_
        refine rk_goto rfl rfl ?_
        have z := ih (j + 1) (by omega) (by omega)
        rw [hm] at z
        exact z
      · replace hc16 := Decidable.not_not.mp hc16
        replace hc16 := (n0_eq (by omega)).mp hc16
        have hm := pim_z (N := N) (t := t) hc16
        rw [← Nat.or_zero (pim N s t j)] at hm
        refine rk_iconst (v := nI 0) rfl (by decide) ?_
        refine rk_goto rfl rfl ?_
        refine rk_ior rfl (b_orU _ _) ?_
        refine rk_istore_n rfl (Nat.le_of_ble_eq_true rfl) rfl ?_
        refine rk_iinc rfl rfl (n_inc _) rfl ?_
        refine rk_goto rfl rfl ?_
        have z := ih (j + 1) (by omega) (by omega)
        rw [hm] at z
        exact z
theorem s212 {X : ai_X} {h : ai_H} {v A : Nat → Int32} {N : Nat → Nat} (c0 : h[52]? = some (cMdl v)) (c1 : h[53]? = some (cI 2346 A)) (hN : HN N) (M : MH A N) {s t : Nat} (hs : s < 16384) (ht : t < N 1) : Mt X am_212 [.ref 52, .int (nI s), .int (nI t)] h (Qe (nI (pimg N s t)) h) := by
  refine rk_iconst (v := nI 0) rfl (by decide) ?_
  refine rk_istore_n rfl (Nat.le_of_ble_eq_true rfl) rfl ?_
  refine rk_iconst (v := nI 0) rfl (by decide) ?_
  refine rk_istore rfl (Nat.le_of_ble_eq_true rfl) rfl ?_
  exact l212 c0 c1 hN M hs ht (N 0 + 1) 0 (by omega) (by omega)
theorem l213 {X : ai_X} {h : ai_H} {s : Nat} (hs : s < 16384) : ∀ (d : Nat) (j : Nat), 14 < j + d → (j ≤ 14) → Rk X am_213 4 [some (.int (nI s)), some (.int (nI (pop s j))), some (.int (nI j))] [] h (Qe (nI (pop s 14)) h) := by
  intro d
  induction d with
  | zero => intro j hd hj; exfalso; omega
  | succ d ih =>
    intro j hd hj
    refine rk_iload_n rfl rfl ?_
    refine rk_bipush (v := nI 14) rfl (by decide) ?_
    refine rk_icmp_ge rfl rfl (fun hc6 => ?_) (fun hc6 => ?_)
    · replace hc6 := (nI_leI (by omega) (by omega)).mp hc6
      refine rk_iload_n rfl rfl ?_
      exact rk_ireturn rfl rfl (Qe_of (by rw [show j = 14 by omega]))
    · replace hc6 := mt (nI_leI (by omega) (by omega)).mpr hc6
      refine rk_iload_n rfl rfl ?_
      refine rk_iload_n rfl rfl ?_
      refine rk_iload_n rfl rfl ?_
      refine rk_ishr rfl (b_shr (by omega) (by omega)) ?_
      refine rk_iconst (v := nI 1) rfl (by decide) ?_
      refine rk_iand rfl (b_and1U _) ?_
      refine rk_iadd rfl (nI_add _ _) ?_
      refine rk_istore_n rfl (Nat.le_of_ble_eq_true rfl) rfl ?_
      refine rk_iinc rfl rfl (n_inc _) rfl ?_
      refine rk_goto rfl rfl ?_
      exact ih (j + 1) (by omega) (by omega)
theorem s213 {X : ai_X} {h : ai_H} {s : Nat} (hs : s < 16384) : Mt X am_213 [.int (nI s)] h (Qe (nI (pop s 14)) h) := by
  refine rk_iconst (v := nI 0) rfl (by decide) ?_
  refine rk_istore_n rfl (Nat.le_of_ble_eq_true rfl) rfl ?_
  refine rk_iconst (v := nI 0) rfl (by decide) ?_
  refine rk_istore_n rfl (Nat.le_of_ble_eq_true rfl) rfl ?_
  exact l213 hs 15 0 (by omega) (by omega)
