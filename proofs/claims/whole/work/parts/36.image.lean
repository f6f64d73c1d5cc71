/-! HOW MANY BITS -/
def sw1 (s : Nat) : Nat := s - (s / 2 ^ 1 &&& 1431655765)
def sw2 (y : Nat) : Nat := (y &&& 858993459) + (y / 2 ^ 2 &&& 858993459)
def sw3 (y : Nat) : Nat := y + y / 2 ^ 4 &&& 252645135
def sw4 (y : Nat) : Nat := y + y / 2 ^ 8
def sw5 (y : Nat) : Nat := y + y / 2 ^ 16
def swa (s : Nat) : Nat := sw5 (sw4 (sw3 (sw2 (sw1 s)))) &&& 63
set_option maxRecDepth 100000 in
theorem swa_c : ∀ a, a < 128 → ∀ b, b < 128 → swa (128 * a + b) = pop (128 * a + b) 14 := by decide +kernel
theorem swa_eq {s : Nat} (h : s < 16384) : swa s = pop s 14 := by
  have := swa_c (s / 128) (by omega) (s % 128) (by omega)
  rwa [show 128 * (s / 128) + s % 128 = s by omega] at this
theorem sw1_le (s : Nat) : sw1 s ≤ s := Nat.sub_le _ _
theorem sw2_le (y : Nat) : sw2 y ≤ y + y / 4 := Nat.add_le_add Nat.and_le_left Nat.and_le_left
theorem sw3_le (y : Nat) : sw3 y ≤ y + y / 16 := Nat.and_le_left
theorem sw4_le (y : Nat) : sw4 y ≤ 2 * y := by unfold sw4; omega
theorem sw5_le (y : Nat) : sw5 y ≤ 2 * y := by unfold sw5; omega
theorem s290 {X : ai_X} {h : ai_H} {s : Nat} (hs : s < 16384) : Mt X am_290 [.int (nI s)] h (Qe (nI (pop s 14)) h) := by
  have q1 : (s / 2 ^ 1 &&& 1431655765) ≤ s := Nat.le_trans Nat.and_le_left (by omega)
  have q2 := sw1_le s
  have q3 := sw2_le (sw1 s)
  have q4 := sw3_le (sw2 (sw1 s))
  have q5 := sw4_le (sw3 (sw2 (sw1 s)))
  have q6 := sw5_le (sw4 (sw3 (sw2 (sw1 s))))
  refine rk_iload_n rfl rfl ?_
  refine rk_iload_n rfl rfl ?_
  refine rk_iconst (v := nI 1) rfl (by decide) ?_
  refine rk_iushr rfl (b_ushr (by omega) (by omega)) ?_
  refine rk_ldcw rfl ?_
  rw [show (1431655765 : Int32) = nI 1431655765 by decide]
  refine rk_iand rfl (b_andU _ _) ?_
  refine rk_isub (v := nI (sw1 s)) rfl (pk_sub q1) ?_
  refine rk_istore_n rfl (Nat.le_of_ble_eq_true rfl) rfl ?_
  refine rk_iload_n rfl rfl ?_
  refine rk_ldcw rfl ?_
  rw [show (858993459 : Int32) = nI 858993459 by decide]
  refine rk_iand rfl (b_andU _ _) ?_
  refine rk_iload_n rfl rfl ?_
  refine rk_iconst (v := nI 2) rfl (by decide) ?_
  refine rk_iushr rfl (b_ushr (by omega) (by omega)) ?_
  refine rk_ldcw rfl ?_
  rw [show (858993459 : Int32) = nI 858993459 by decide]
  refine rk_iand rfl (b_andU _ _) ?_
  refine rk_iadd (v := nI (sw2 (sw1 s))) rfl (nI_add _ _) ?_
  refine rk_istore_n rfl (Nat.le_of_ble_eq_true rfl) rfl ?_
  refine rk_iload_n rfl rfl ?_
  refine rk_iload_n rfl rfl ?_
  refine rk_iconst (v := nI 4) rfl (by decide) ?_
  refine rk_iushr rfl (b_ushr (by omega) (by omega)) ?_
  refine rk_iadd rfl (nI_add _ _) ?_
  refine rk_ldcw rfl ?_
  rw [show (252645135 : Int32) = nI 252645135 by decide]
  refine rk_iand (v := nI (sw3 (sw2 (sw1 s)))) rfl (b_andU _ _) ?_
  refine rk_istore_n rfl (Nat.le_of_ble_eq_true rfl) rfl ?_
  refine rk_iload_n rfl rfl ?_
  refine rk_iload_n rfl rfl ?_
  refine rk_bipush (v := nI 8) rfl (by decide) ?_
  refine rk_iushr rfl (b_ushr (by omega) (by omega)) ?_
  refine rk_iadd (v := nI (sw4 (sw3 (sw2 (sw1 s))))) rfl (nI_add _ _) ?_
  refine rk_istore_n rfl (Nat.le_of_ble_eq_true rfl) rfl ?_
  refine rk_iload_n rfl rfl ?_
  refine rk_iload_n rfl rfl ?_
  refine rk_bipush (v := nI 16) rfl (by decide) ?_
  refine rk_iushr rfl (b_ushr (by omega) (by omega)) ?_
  refine rk_iadd (v := nI (sw5 (sw4 (sw3 (sw2 (sw1 s)))))) rfl (nI_add _ _) ?_
  refine rk_istore_n rfl (Nat.le_of_ble_eq_true rfl) rfl ?_
  refine rk_iload_n rfl rfl ?_
  refine rk_bipush (v := nI 63) rfl (by decide) ?_
  refine rk_iand rfl (b_andU _ _) ?_
  exact rk_ireturn rfl rfl (Qe_of (by rw [← swa_eq hs]; rfl))
/-! GOALS -/
def gl (goal : Int32) (s : Nat) : Bool := if goal = -1 then decide (pop s 14 = 1) else decide (nI s &&& (goal ^^^ (-1)) = 0)
theorem gl_1 {s : Nat} : (gl (-1) s = true) ↔ pop s 14 = 1 := by rw [gl, if_pos rfl]; exact decide_eq_true_iff
theorem gl_2 {s : Nat} {goal : Int32} (h : ¬ goal = -1) : (gl goal s = true) ↔ nI s &&& (goal ^^^ (-1)) = 0 := by rw [gl, if_neg h]; exact decide_eq_true_iff
theorem s106 {X : ai_X} {h : ai_H} {p s : Nat} (hs : s < 16384) (g : Int32) : Mt X am_106 [.ref p, .int (nI s), .int g] h (Qe (bI (gl g s = true)) h) := by
  have hpp := pop_le s 14
  refine rk_iload_n rfl rfl ?_
  refine rk_iconst (v := (-1)) rfl (by decide) ?_
  refine rk_icmp_ne rfl rfl (fun hc2 => ?_) (fun hc2 => ?_)
  · refine rk_iload_n rfl rfl ?_
    refine rk_iload_n rfl rfl ?_
    refine rk_iconst (v := (-1)) rfl (by decide) ?_
    refine rk_ixor rfl rfl ?_
    refine rk_iand rfl rfl ?_
    refine rk_if_ne rfl rfl (fun hc16 => ?_) (fun hc16 => ?_)
    · refine rk_iconst (v := nI 0) rfl (by decide) ?_
      refine rk_ireturn rfl (by decide) (Qe_of ?_)
      first
        | (subst hc2; rw [bI_congr gl_1, bI_t (by assumption)]; rfl)
        | (subst hc2; rw [bI_congr gl_1, bI_f (by assumption)]; rfl)
        | (rw [bI_congr (gl_2 hc2), bI_t (by assumption)]; rfl)
        | (rw [bI_congr (gl_2 hc2), bI_f (by assumption)]; rfl)
    · replace hc16 := Decidable.not_not.mp hc16
      refine rk_iconst (v := nI 1) rfl (by decide) ?_
      refine rk_goto rfl rfl ?_
      refine rk_ireturn rfl (by decide) (Qe_of ?_)
      first
        | (subst hc2; rw [bI_congr gl_1, bI_t (by assumption)]; rfl)
        | (subst hc2; rw [bI_congr gl_1, bI_f (by assumption)]; rfl)
        | (rw [bI_congr (gl_2 hc2), bI_t (by assumption)]; rfl)
        | (rw [bI_congr (gl_2 hc2), bI_f (by assumption)]; rfl)
  · replace hc2 := Decidable.not_not.mp hc2
    refine rk_iload_n rfl rfl ?_
    refine rk_cs1e rfl rfl rfl (Nat.le_of_ble_eq_true rfl) (Nat.le_of_ble_eq_true rfl) (s290 hs) ?_
    refine rk_iconst (v := nI 1) rfl (by decide) ?_
    refine rk_icmp_ne rfl rfl (fun hc6 => ?_) (fun hc6 => ?_)
    · replace hc6 := mt (nI_eq (by omega) (by omega)).mpr hc6
      refine rk_iconst (v := nI 0) rfl (by decide) ?_
      refine rk_goto rfl rfl ?_
      refine rk_ireturn rfl (by decide) (Qe_of ?_)
      first
        | (subst hc2; rw [bI_congr gl_1, bI_t (by assumption)]; rfl)
        | (subst hc2; rw [bI_congr gl_1, bI_f (by assumption)]; rfl)
        | (rw [bI_congr (gl_2 hc2), bI_t (by assumption)]; rfl)
        | (rw [bI_congr (gl_2 hc2), bI_f (by assumption)]; rfl)
    · replace hc6 := Decidable.not_not.mp hc6
      replace hc6 := (nI_eq (by omega) (by omega)).mp hc6
      refine rk_iconst (v := nI 1) rfl (by decide) ?_
      refine rk_goto rfl rfl ?_
      refine rk_ireturn rfl (by decide) (Qe_of ?_)
      first
        | (subst hc2; rw [bI_congr gl_1, bI_t (by assumption)]; rfl)
        | (subst hc2; rw [bI_congr gl_1, bI_f (by assumption)]; rfl)
        | (rw [bI_congr (gl_2 hc2), bI_t (by assumption)]; rfl)
        | (rw [bI_congr (gl_2 hc2), bI_f (by assumption)]; rfl)
theorem s234 {X : ai_X} {h : ai_H} {p s : Nat} (hs : s < 16384) (g : Int32) : Mt X am_234 [.ref p, .int (nI s), .int g] h (Qe (bI (gl g s = true)) h) := by
  have hpp := pop_le s 14
  refine rk_iload_n rfl rfl ?_
  refine rk_iconst (v := (-1)) rfl (by decide) ?_
  refine rk_icmp_ne rfl rfl (fun hc2 => ?_) (fun hc2 => ?_)
  · refine rk_iload_n rfl rfl ?_
    refine rk_iload_n rfl rfl ?_
    refine rk_iconst (v := (-1)) rfl (by decide) ?_
    refine rk_ixor rfl rfl ?_
    refine rk_iand rfl rfl ?_
    refine rk_if_ne rfl rfl (fun hc16 => ?_) (fun hc16 => ?_)
    · refine rk_iconst (v := nI 0) rfl (by decide) ?_
      refine rk_ireturn rfl (by decide) (Qe_of ?_)
      first
        | (subst hc2; rw [bI_congr gl_1, bI_t (by assumption)]; rfl)
        | (subst hc2; rw [bI_congr gl_1, bI_f (by assumption)]; rfl)
        | (rw [bI_congr (gl_2 hc2), bI_t (by assumption)]; rfl)
        | (rw [bI_congr (gl_2 hc2), bI_f (by assumption)]; rfl)
    · replace hc16 := Decidable.not_not.mp hc16
      refine rk_iconst (v := nI 1) rfl (by decide) ?_
      refine rk_goto rfl rfl ?_
      refine rk_ireturn rfl (by decide) (Qe_of ?_)
      first
        | (subst hc2; rw [bI_congr gl_1, bI_t (by assumption)]; rfl)
        | (subst hc2; rw [bI_congr gl_1, bI_f (by assumption)]; rfl)
        | (rw [bI_congr (gl_2 hc2), bI_t (by assumption)]; rfl)
        | (rw [bI_congr (gl_2 hc2), bI_f (by assumption)]; rfl)
  · replace hc2 := Decidable.not_not.mp hc2
    refine rk_iload_n rfl rfl ?_
    refine rk_cs1e rfl rfl rfl (Nat.le_of_ble_eq_true rfl) (Nat.le_of_ble_eq_true rfl) (s213 hs) ?_
    refine rk_iconst (v := nI 1) rfl (by decide) ?_
    refine rk_icmp_ne rfl rfl (fun hc6 => ?_) (fun hc6 => ?_)
    · replace hc6 := mt (nI_eq (by omega) (by omega)).mpr hc6
      refine rk_iconst (v := nI 0) rfl (by decide) ?_
      refine rk_goto rfl rfl ?_
      refine rk_ireturn rfl (by decide) (Qe_of ?_)
      first
        | (subst hc2; rw [bI_congr gl_1, bI_t (by assumption)]; rfl)
        | (subst hc2; rw [bI_congr gl_1, bI_f (by assumption)]; rfl)
        | (rw [bI_congr (gl_2 hc2), bI_t (by assumption)]; rfl)
        | (rw [bI_congr (gl_2 hc2), bI_f (by assumption)]; rfl)
    · replace hc6 := Decidable.not_not.mp hc6
      replace hc6 := (nI_eq (by omega) (by omega)).mp hc6
      refine rk_iconst (v := nI 1) rfl (by decide) ?_
      refine rk_goto rfl rfl ?_
      refine rk_ireturn rfl (by decide) (Qe_of ?_)
      first
        | (subst hc2; rw [bI_congr gl_1, bI_t (by assumption)]; rfl)
        | (subst hc2; rw [bI_congr gl_1, bI_f (by assumption)]; rfl)
        | (rw [bI_congr (gl_2 hc2), bI_t (by assumption)]; rfl)
        | (rw [bI_congr (gl_2 hc2), bI_f (by assumption)]; rfl)
/-! WHERE SETS LEAD, BY HALVES -/
def tf (N : Nat → Nat) (may : Bool) (r t : Nat) : Nat := if r < N 0 then (if may = true then mb N r t else 2 ^ pl N r t) else 0
def hmi (tf : Nat → Nat → Nat) (t hh s : Nat) : Nat → Nat
  | 0 => 0
  | j + 1 => if s / 2 ^ j % 2 = 0 then hmi tf t hh s j else hmi tf t hh s j ||| tf (7 * hh + j) t
abbrev hm (tf : Nat → Nat → Nat) (t hh s : Nat) : Nat := hmi tf t hh s 7
theorem bt_hmi {tf : Nat → Nat → Nat} {t hh s i : Nat} : ∀ j, hmi tf t hh s j / 2 ^ i % 2 = 1 ↔ ∃ k, k < j ∧ s / 2 ^ k % 2 = 1 ∧ tf (7 * hh + k) t / 2 ^ i % 2 = 1
  | 0 => ⟨fun h => absurd h (bt_zero i), fun ⟨k, h, _⟩ => absurd h (by omega)⟩
  | j + 1 => by
    have ih := bt_hmi (tf := tf) (t := t) (hh := hh) (s := s) (i := i) j
    rw [hmi]
    by_cases h : s / 2 ^ j % 2 = 0
    · rw [if_pos h, ih]
      constructor
      · rintro ⟨r, a, b, c⟩; exact ⟨r, by omega, b, c⟩
      · rintro ⟨r, a, b, c⟩
        by_cases e : r = j
        · subst e; omega
        · exact ⟨r, by omega, b, c⟩
    · have h1 : s / 2 ^ j % 2 = 1 := by omega
      rw [if_neg h, bt_or, ih]
      constructor
      · rintro (⟨r, a, b, c⟩ | c)
        · exact ⟨r, by omega, b, c⟩
        · exact ⟨j, by omega, h1, c⟩
      · rintro ⟨r, a, b, c⟩
        by_cases e : r = j
        · subst e; exact Or.inr c
        · exact Or.inl ⟨r, by omega, b, c⟩
theorem hm_0 (tf : Nat → Nat → Nat) (t hh : Nat) : hm tf t hh 0 = 0 := bs_ext fun i => ⟨fun h => by
  obtain ⟨k, a, b, c⟩ := (bt_hmi 7).mp h
  exact absurd b (bt_zero k), fun h => absurd h (bt_zero i)⟩
theorem bt_add {j s k : Nat} (hs : s < 2 ^ j) : (2 ^ j + s) / 2 ^ k % 2 = 1 ↔ k = j ∨ s / 2 ^ k % 2 = 1 := by
  have e : 2 ^ j + s = 2 ^ j ||| s := by
    have := Nat.two_pow_add_eq_or_of_lt hs 1
    rwa [Nat.mul_one] at this
  rw [e, bt_or, bt_pow]
  constructor
  · rintro (h | h)
    · exact Or.inl h.symm
    · exact Or.inr h
  · rintro (h | h)
    · exact Or.inl h.symm
    · exact Or.inr h
theorem hm_add {tf : Nat → Nat → Nat} {t hh j s : Nat} (hj : j < 7) (hs : s < 2 ^ j) : hm tf t hh (2 ^ j + s) = hm tf t hh s ||| tf (7 * hh + j) t := by
  apply bs_ext
  intro i
  rw [bt_or, bt_hmi, bt_hmi]
  constructor
  · rintro ⟨k, a, b, c⟩
    rcases (bt_add hs).mp b with z | z
    · subst z; exact Or.inr c
    · exact Or.inl ⟨k, a, z, c⟩
  · rintro (⟨k, a, b, c⟩ | c)
    · exact ⟨k, a, (bt_add hs).mpr (Or.inr b), c⟩
    · exact ⟨j, hj, (bt_add hs).mpr (Or.inl rfl), c⟩
theorem bt_mod {s k : Nat} (hk : k < 7) : s % 128 / 2 ^ k % 2 = 1 ↔ s / 2 ^ k % 2 = 1 := by
  rw [← bt_tb, ← bt_tb, show (128 : Nat) = 2 ^ 7 by rfl, Nat.testBit_mod_two_pow]
  simp [hk]
theorem bt_div {s k : Nat} : s / 128 / 2 ^ k % 2 = 1 ↔ s / 2 ^ (7 + k) % 2 = 1 := by
  rw [Nat.div_div_eq_div_mul, show 128 * 2 ^ k = 2 ^ (7 + k) by rw [Nat.pow_add]]
/-- both halves -/
theorem hm_img {N : Nat → Nat} {may : Bool} {s t : Nat} (hN : HN N) (hs : s < 16384) : hm (tf N may) t 0 (s % 128) ||| hm (tf N may) t 1 (s / 128) = if may = true then img N s t else pimg N s t := by
  have hn := hN.n
  have key : ∀ i, (hm (tf N may) t 0 (s % 128) ||| hm (tf N may) t 1 (s / 128)) / 2 ^ i % 2 = 1 ↔ ∃ r, r < N 0 ∧ s / 2 ^ r % 2 = 1 ∧ (if may = true then mb N r t else 2 ^ pl N r t) / 2 ^ i % 2 = 1 := by
    intro i
    rw [bt_or, bt_hmi, bt_hmi]
    constructor
    · rintro (⟨k, a, b, c⟩ | ⟨k, a, b, c⟩)
      · rw [bt_mod a] at b
        unfold tf at c
        split at c
        · exact ⟨7 * 0 + k, by assumption, by rw [show 7 * 0 + k = k by omega]; exact b, c⟩
        · exact absurd c (bt_zero i)
      · rw [bt_div] at b
        unfold tf at c
        split at c
        · exact ⟨7 * 1 + k, by assumption, b, c⟩
        · exact absurd c (bt_zero i)
    · rintro ⟨r, a, b, c⟩
      by_cases h7 : r < 7
      · refine Or.inl ⟨r, h7, (bt_mod h7).mpr b, ?_⟩
        rw [show 7 * 0 + r = r by omega, tf, if_pos a]
        exact c
      · refine Or.inr ⟨r - 7, by omega, ?_, ?_⟩
        · rw [bt_div, show 7 + (r - 7) = r by omega]; exact b
        · rw [show 7 * 1 + (r - 7) = r by omega, tf, if_pos a]
          exact c
  apply bs_ext
  intro i
  rw [key i]
  cases may
  · rw [if_neg (by decide), pimg, bt_pim]
    constructor
    · rintro ⟨r, a, b, c⟩
      rw [if_neg (by decide), bt_pow] at c
      exact ⟨r, a, b, c⟩
    · rintro ⟨r, a, b, c⟩
      refine ⟨r, a, b, ?_⟩
      rw [if_neg (by decide), bt_pow]
      exact c
  · rw [if_pos rfl, img, bt_mim]
    constructor
    · rintro ⟨r, a, b, c⟩
      rw [if_pos rfl] at c
      exact ⟨r, a, b, c⟩
    · rintro ⟨r, a, b, c⟩
      refine ⟨r, a, b, ?_⟩
      rw [if_pos rfl]
      exact c
theorem tf_lt {N : Nat → Nat} {may : Bool} {r t : Nat} (hN : HN N) (ht : t < N 1) : tf N may r t < 16384 := by
  have hp := hN.p14
  unfold tf
  split
  · rename_i hr
    split
    · exact Nat.lt_of_lt_of_le (mb_lt hN hr ht) hp
    · have h1 := hN.xpl hr ht
      have h2 := hN.n
      exact Nat.lt_of_lt_of_le (Nat.pow_lt_pow_right (by decide) h1) hp
  · decide
theorem hmi_lt {N : Nat → Nat} {may : Bool} {t hh s : Nat} (hN : HN N) (ht : t < N 1) (j : Nat) : hmi (tf N may) t hh s j < 16384 := by
  apply bs_lt (n := 14)
  intro k hk
  obtain ⟨r, a, b, c⟩ := (bt_hmi j).mp hk
  exact bt_lt (n := 14) (tf_lt hN ht) c
abbrev cSt (n1 n2 : Int32) (x y : Value) : ai_C := cSets n1 n2 x y
/-- what is laid so far: T tones whole, of tone T the first 'room' rooms -/
def IMp (f : Nat → Int32) (tf : Nat → Nat → Nat) (t room : Nat) : Prop :=
  (∀ j, j < 12 → f (128 * j) = 0) ∧ (∀ t' hh s, t' < t → hh < 2 → s < 128 → f ((t' * 2 + hh) * 128 + s) = nI (hm tf t' hh s)) ∧ ∀ hh s, t < 6 → hh < 2 → s < 128 → s < 2 ^ (room - 7 * hh) → f ((t * 2 + hh) * 128 + s) = nI (hm tf t hh s)
def IM (h : ai_H) (tf : Nat → Nat → Nat) (T : Nat) : Prop := ∃ f, h[25]? = some (cI 1536 f) ∧ (∀ j, j < 12 → f (128 * j) = 0) ∧ ∀ t hh s, t < T → hh < 2 → s < 128 → f ((t * 2 + hh) * 128 + s) = nI (hm tf t hh s)
theorem IM.fr {h h1 : ai_H} {tf : Nat → Nat → Nat} {T : Nat} (e : h1[25]? = h[25]?) (H : IM h tf T) : IM h1 tf T := by
  obtain ⟨f, a, b⟩ := H
  exact ⟨f, e.trans a, b⟩
theorem pw7 {j : Nat} (h : j < 7) : 2 ^ j ≤ 64 := Nat.pow_le_pow_right (n := 2) (by decide) (show j ≤ 6 by omega)
theorem l104c {X : ai_X} {h : ai_H} {N : Nat → Nat} {n1 n2 : Int32} {xa xb : Value} {may : Bool} (hN : HN N) (C : CH h 3 N) (d24 : h[24]? = some (cSets n1 n2 xa xb)) {t room : Nat} {mi : Int32} (ht : t < N 1) (hr : room < 14) {tv : Nat} (htv : tf N may room t = tv) {P : ai_O → Prop} (z : ∀ g f c7, Fr 25 26 h g → g[25]? = some (cI 1536 f) → IMp f (tf N may) t (room + 1) → Rk X am_104 74 [some (.ref 24), some (.int mi), some (.int (nI t)), some (.int (nI room)), some (.int (nI tv)), some (.int (nI ((t * 2 + room / 7) * 128))), some (.int (nI (2 ^ (room % 7)))), c7] [] g P) : ∀ (d : Nat) (k : Nat) (g : ai_H) (f : Nat → Int32), 2 ^ (room % 7) < k + d → (k ≤ 2 ^ (room % 7)) → (Fr 25 26 h g) → (g[25]? = some (cI 1536 f)) → (IMp f (tf N may) t room) → (∀ s, s < k → f ((t * 2 + room / 7) * 128 + (2 ^ (room % 7) + s)) = nI (hm (tf N may) t (room / 7) (2 ^ (room % 7) + s))) → Rk X am_104 53 [some (.ref 24), some (.int mi), some (.int (nI t)), some (.int (nI room)), some (.int (nI tv)), some (.int (nI ((t * 2 + room / 7) * 128))), some (.int (nI (2 ^ (room % 7)))), some (.int (nI k))] [] g (P) := by
  intro d
  induction d with
  | zero => intro k g f hd hk F c25 I hf; exfalso; omega
  | succ d ih =>
    intro k g f hd hk F c25 I hf
    have e24 := (F.2 24 (by omega)).trans d24
    have h6 := hN.t
    have hp7 := pw7 (j := room % 7) (by omega)
    have hp0 : 0 < 2 ^ (room % 7) := Nat.pow_pos (by decide)
    have htl := tf_lt (may := may) (r := room) hN ht
    rw [htv] at htl
    have hml := hmi_lt (may := may) (hh := room / 7) (s := k) hN ht 7
    have hval : k < 2 ^ (room % 7) → f ((t * 2 + room / 7) * 128 + k) = nI (hm (tf N may) t (room / 7) k) := fun y => I.2.2 (room / 7) k (by omega) (by omega) (by omega) (by rw [show room - 7 * (room / 7) = room % 7 by omega]; exact y)
    refine rk_iload rfl rfl ?_
    refine rk_iload rfl rfl ?_
    refine rk_icmp_ge rfl rfl (fun hc55 => ?_) (fun hc55 => ?_)
    · replace hc55 := (nI_leI (by omega) (by omega)).mp hc55
      have hk2 : k = 2 ^ (room % 7) := by omega
      subst hk2
      refine z g f _ F c25 ⟨I.1, I.2.1, fun hh s x a b c => ?_⟩
      by_cases hh1 : hh = room / 7
      · subst hh1
        rw [show room + 1 - 7 * (room / 7) = room % 7 + 1 by omega, Nat.pow_succ] at c
        by_cases y : s < 2 ^ (room % 7)
        · exact I.2.2 (room / 7) s x a b (by rw [show room - 7 * (room / 7) = room % 7 by omega]; exact y)
        · have := hf (s - 2 ^ (room % 7)) (by omega)
          rwa [show 2 ^ (room % 7) + (s - 2 ^ (room % 7)) = s by omega] at this
      · by_cases h0 : hh = 0
        · subst h0
          refine I.2.2 0 s x a b ?_
          have : 2 ^ 7 ≤ 2 ^ (room - 7 * 0) := Nat.pow_le_pow_right (by decide) (by omega)
          omega
        · have h1 : hh = 1 := by omega
          subst h1
          refine I.2.2 1 s x a b ?_
          rwa [show room + 1 - 7 * 1 = room - 7 * 1 by omega] at c
    · replace hc55 := mt (nI_leI (by omega) (by omega)).mpr hc55
      refine rk_aload_n rfl rfl ?_
      refine rk_get rfl (by assumption) rfl ?_
      refine rk_iload rfl rfl ?_
      refine rk_iload rfl rfl ?_
      refine rk_iadd rfl (nI_add _ _) ?_
      refine rk_iload rfl rfl ?_
      refine rk_iadd rfl (nI_add _ _) ?_
      refine rk_aload_n rfl rfl ?_
      refine rk_get rfl (by assumption) rfl ?_
      refine rk_iload rfl rfl ?_
      refine rk_iload rfl rfl ?_
      refine rk_iadd rfl (nI_add _ _) ?_
      refine rk_iald rfl (by assumption) (rfl) (by omega) (by decide) ?_
      rw [hval (by omega)]
      refine rk_iload rfl rfl ?_
      refine rk_ior rfl (b_orU _ _) ?_
      refine rk_iast rfl c25 (rfl) (by omega) (by decide) ?_
      refine hp_gen c25 (fun h1 g1 hk1 hl1 => ?_)
      replace e24 := (hk1 _ (by omega)).trans e24
      replace c25 := g1
      refine rk_iinc rfl rfl (n_inc _) rfl ?_
      refine rk_goto rfl rfl ?_
      refine ih (k + 1) h1 _ (by omega) (by omega) (F.tr (Fr.mk1 hk1 hl1 (by omega) (by omega))) c25 ⟨fun j hj => ?_, fun t' hh s a b c => ?_, fun hh s x a b c => ?_⟩ (fun s hs => ?_)
      · simp only [upd]
        rw [if_neg (by omega)]
        exact I.1 j hj
      · simp only [upd]
        rw [if_neg (by omega)]
        exact I.2.1 t' hh s a b c
      · simp only [upd]
        rw [if_neg]
        · exact I.2.2 hh s x a b c
        · intro y
          have hh1 : hh = room / 7 := by omega
          subst hh1
          rw [show room - 7 * (room / 7) = room % 7 by omega] at c
          omega
      · simp only [upd]
        by_cases y : s = k
        · subst y
          rw [if_pos (by omega), hm_add (by omega) (by omega), show 7 * (room / 7) + room % 7 = room by omega, htv]
        · rw [if_neg (by omega)]
          exact hf s (by omega)
theorem l104b {X : ai_X} {h : ai_H} {N : Nat → Nat} {n1 n2 : Int32} {xa xb : Value} {may : Bool} (hN : HN N) (C : CH h 3 N) (d24 : h[24]? = some (cSets n1 n2 xa xb)) {t : Nat} {mi : Int32} (hmi : mi = bI (may = true)) (ht : t < N 1) {P : ai_O → Prop} (z : ∀ g f c4 c5 c6 c7, Fr 25 26 h g → g[25]? = some (cI 1536 f) → IMp f (tf N may) t 14 → Rk X am_104 76 [some (.ref 24), some (.int mi), some (.int (nI t)), some (.int (nI 14)), c4, c5, c6, c7] [] g P) : ∀ (d : Nat) (room : Nat) (g : ai_H) (f : Nat → Int32) (c4 c5 c6 c7 : Option Value), 14 < room + d → (room ≤ 14) → (Fr 25 26 h g) → (g[25]? = some (cI 1536 f)) → (IMp f (tf N may) t room) → Rk X am_104 9 [some (.ref 24), some (.int mi), some (.int (nI t)), some (.int (nI room)), c4, c5, c6, c7] [] g (P) := by
  intro d
  induction d with
  | zero => intro room g f c4 c5 c6 c7 hd hr F c25 I; exfalso; omega
  | succ d ih =>
    intro room g f c4 c5 c6 c7 hd hr F c25 I
    have e24 := (F.2 24 (by omega)).trans d24
    have C2 := C.fr2 F (by omega)
    have e3 := C2.1
    have hn := hN.n
    have h6 := hN.t
    subst hmi
    have hpw : 2 ^ (room % 7) ≤ 64 := pw7 (by omega)
    refine rk_iload_n rfl rfl ?_
    refine rk_bipush (v := nI 14) rfl (by decide) ?_
    refine rk_icmp_ge rfl rfl (fun hc11 => ?_) (fun hc11 => ?_)
    · replace hc11 := (nI_leI (by omega) (by omega)).mp hc11
      have hr2 : room = 14 := by omega
      subst hr2
      exact z g f _ _ _ _ F c25 I
    · replace hc11 := mt (nI_leI (by omega) (by omega)).mpr hc11
      refine rk_iconst (v := nI 0) rfl (by decide) ?_
      refine rk_istore rfl (Nat.le_of_ble_eq_true rfl) rfl ?_
      refine rk_iload_n rfl rfl ?_
      refine rk_aload_n rfl rfl ?_
      refine rk_get rfl (by assumption) rfl ?_
      refine rk_get rfl (by assumption) rfl ?_
      refine rk_icmp_ge rfl rfl (fun hc18 => ?_) (fun hc18 => ?_)
      · replace hc18 := (nI_leI (by omega) (by omega)).mp hc18
        have htf : tf N may room t = 0 := by rw [tf, if_neg (by omega)]
        refine rk_iload_n rfl rfl ?_
        refine rk_iconst (v := nI 2) rfl (by decide) ?_
        refine rk_imul rfl (pk_mul _ _) ?_
        refine rk_iload_n rfl rfl ?_
        refine rk_bipush (v := nI 7) rfl (by decide) ?_
        refine rk_idiv rfl (nI_ne0 (by omega) (by omega)) (pk_div (by omega) (by omega) (by omega)) ?_
        refine rk_iadd rfl (nI_add _ _) ?_
        refine rk_sipush (v := nI 128) rfl (by decide) ?_
        refine rk_imul rfl (pk_mul _ _) ?_
        refine rk_istore rfl (Nat.le_of_ble_eq_true rfl) rfl ?_
        refine rk_iconst (v := nI 1) rfl (by decide) ?_
        refine rk_iload_n rfl rfl ?_
        refine rk_bipush (v := nI 7) rfl (by decide) ?_
        refine rk_irem rfl (nI_ne0 (by omega) (by omega)) (pk_rem (by omega) (by omega) (by omega)) ?_
        refine rk_ishl rfl (b_1shlU (by omega)) ?_
        refine rk_istore rfl (Nat.le_of_ble_eq_true rfl) rfl ?_
        refine rk_iconst (v := nI 0) rfl (by decide) ?_
        refine rk_istore rfl (Nat.le_of_ble_eq_true rfl) rfl ?_
        refine l104c (may := may) hN C2 e24 ht (by omega) htf (fun g2 f2 c7 F2 c252 I2 => ?_) (2 ^ (room % 7) + 1) 0 g f (by rw [Nat.zero_add]; exact Nat.lt_succ_self _) (Nat.zero_le _) Fr.rfl' c25 I (fun s hs => absurd hs (by omega))
        refine rk_iinc rfl rfl (n_inc _) rfl ?_
        refine rk_goto rfl rfl ?_
        exact ih (room + 1) g2 f2 _ _ _ _ (by omega) (by omega) (F.tr F2) c252 I2
      · replace hc18 := mt (nI_leI (by omega) (by omega)).mpr hc18
        refine rk_iload_n rfl rfl ?_
        refine rk_if_eq rfl rfl (fun hc20 => ?_) (fun hc20 => ?_)
        · replace hc20 := (bI_0).mp hc20
          have htf : tf N may room t = 2 ^ pl N room t := by rw [tf, if_pos (by omega), if_neg hc20]
          refine rk_iconst (v := nI 1) rfl (by decide) ?_
          refine rk_aload_n rfl rfl ?_
          refine rk_get rfl (by assumption) rfl ?_
          refine rk_iload_n rfl rfl ?_
          refine rk_iload_n rfl rfl ?_
          refine rk_cv2e rfl rfl (by assumption) rfl rfl (Nat.le_of_ble_eq_true rfl) (Nat.le_of_ble_eq_true rfl) (s27N C2 hN (by omega) ht) ?_
          refine rk_ishl rfl (b_1shlU (by have := hN.xpl (r := room) (i := t) (by omega) ht; omega)) ?_
          refine rk_istore rfl (Nat.le_of_ble_eq_true rfl) rfl ?_
          refine rk_iload_n rfl rfl ?_
          refine rk_iconst (v := nI 2) rfl (by decide) ?_
          refine rk_imul rfl (pk_mul _ _) ?_
          refine rk_iload_n rfl rfl ?_
          refine rk_bipush (v := nI 7) rfl (by decide) ?_
          refine rk_idiv rfl (nI_ne0 (by omega) (by omega)) (pk_div (by omega) (by omega) (by omega)) ?_
          refine rk_iadd rfl (nI_add _ _) ?_
          refine rk_sipush (v := nI 128) rfl (by decide) ?_
          refine rk_imul rfl (pk_mul _ _) ?_
          refine rk_istore rfl (Nat.le_of_ble_eq_true rfl) rfl ?_
          refine rk_iconst (v := nI 1) rfl (by decide) ?_
          refine rk_iload_n rfl rfl ?_
          refine rk_bipush (v := nI 7) rfl (by decide) ?_
          refine rk_irem rfl (nI_ne0 (by omega) (by omega)) (pk_rem (by omega) (by omega) (by omega)) ?_
          refine rk_ishl rfl (b_1shlU (by omega)) ?_
          refine rk_istore rfl (Nat.le_of_ble_eq_true rfl) rfl ?_
          refine rk_iconst (v := nI 0) rfl (by decide) ?_
          refine rk_istore rfl (Nat.le_of_ble_eq_true rfl) rfl ?_
          refine l104c (may := may) hN C2 e24 ht (by omega) htf (fun g2 f2 c7 F2 c252 I2 => ?_) (2 ^ (room % 7) + 1) 0 g f (by rw [Nat.zero_add]; exact Nat.lt_succ_self _) (Nat.zero_le _) Fr.rfl' c25 I (fun s hs => absurd hs (by omega))
          refine rk_iinc rfl rfl (n_inc _) rfl ?_
          refine rk_goto rfl rfl ?_
          exact ih (room + 1) g2 f2 _ _ _ _ (by omega) (by omega) (F.tr F2) c252 I2
        · replace hc20 := Decidable.not_not.mp (mt bI_0.mpr hc20)
          have htf : tf N may room t = mb N room t := by rw [tf, if_pos (by omega), if_pos hc20]
          refine rk_aload_n rfl rfl ?_
          refine rk_get rfl (by assumption) rfl ?_
          refine rk_iload_n rfl rfl ?_
          refine rk_iload_n rfl rfl ?_
          refine rk_cv2e rfl rfl (by assumption) rfl rfl (Nat.le_of_ble_eq_true rfl) (Nat.le_of_ble_eq_true rfl) (s37 hN C2 (by omega) ht) ?_
          refine rk_goto rfl rfl ?_
          refine rk_istore rfl (Nat.le_of_ble_eq_true rfl) rfl ?_
          refine rk_iload_n rfl rfl ?_
          refine rk_iconst (v := nI 2) rfl (by decide) ?_
          refine rk_imul rfl (pk_mul _ _) ?_
          refine rk_iload_n rfl rfl ?_
          refine rk_bipush (v := nI 7) rfl (by decide) ?_
          refine rk_idiv rfl (nI_ne0 (by omega) (by omega)) (pk_div (by omega) (by omega) (by omega)) ?_
          refine rk_iadd rfl (nI_add _ _) ?_
          refine rk_sipush (v := nI 128) rfl (by decide) ?_
          refine rk_imul rfl (pk_mul _ _) ?_
          refine rk_istore rfl (Nat.le_of_ble_eq_true rfl) rfl ?_
          refine rk_iconst (v := nI 1) rfl (by decide) ?_
          refine rk_iload_n rfl rfl ?_
          refine rk_bipush (v := nI 7) rfl (by decide) ?_
          refine rk_irem rfl (nI_ne0 (by omega) (by omega)) (pk_rem (by omega) (by omega) (by omega)) ?_
          refine rk_ishl rfl (b_1shlU (by omega)) ?_
          refine rk_istore rfl (Nat.le_of_ble_eq_true rfl) rfl ?_
          refine rk_iconst (v := nI 0) rfl (by decide) ?_
          refine rk_istore rfl (Nat.le_of_ble_eq_true rfl) rfl ?_
          refine l104c (may := may) hN C2 e24 ht (by omega) htf (fun g2 f2 c7 F2 c252 I2 => ?_) (2 ^ (room % 7) + 1) 0 g f (by rw [Nat.zero_add]; exact Nat.lt_succ_self _) (Nat.zero_le _) Fr.rfl' c25 I (fun s hs => absurd hs (by omega))
          refine rk_iinc rfl rfl (n_inc _) rfl ?_
          refine rk_goto rfl rfl ?_
          exact ih (room + 1) g2 f2 _ _ _ _ (by omega) (by omega) (F.tr F2) c252 I2
theorem l104a {X : ai_X} {h : ai_H} {N : Nat → Nat} {n1 n2 : Int32} {xa xb : Value} {may : Bool} (hN : HN N) (C : CH h 3 N) (d24 : h[24]? = some (cSets n1 n2 xa xb)) {mi : Int32} (hmi : mi = bI (may = true)) : ∀ (d : Nat) (t : Nat) (g : ai_H) (f : Nat → Int32) (c3 c4 c5 c6 c7 : Option Value), N 1 < t + d → (t ≤ N 1) → (Fr 25 26 h g) → (g[25]? = some (cI 1536 f)) → (IMp f (tf N may) t 0) → Rk X am_104 2 [some (.ref 24), some (.int mi), some (.int (nI t)), c3, c4, c5, c6, c7] [] g (Qv (fun h1 => Fr 25 26 h h1 ∧ IM h1 (tf N may) (N 1))) := by
  intro d
  induction d with
  | zero => intro t g f c3 c4 c5 c6 c7 hd htt F c25 I; exfalso; omega
  | succ d ih =>
    intro t g f c3 c4 c5 c6 c7 hd htt F c25 I
    have e24 := (F.2 24 (by omega)).trans d24
    have C2 := C.fr2 F (by omega)
    have e3 := C2.1
    have hn := hN.n
    have h6 := hN.t
    refine rk_iload_n rfl rfl ?_
    refine rk_aload_n rfl rfl ?_
    refine rk_get rfl (by assumption) rfl ?_
    refine rk_get rfl (by assumption) rfl ?_
    refine rk_icmp_ge rfl rfl (fun hc6 => ?_) (fun hc6 => ?_)
    · replace hc6 := (nI_leI (by omega) (by omega)).mp hc6
      refine rk_return rfl rfl ⟨_, rfl, F, f, c25, I.1, fun t' hh s a b c => I.2.1 t' hh s (by omega) b c⟩
    · replace hc6 := mt (nI_leI (by omega) (by omega)).mpr hc6
      refine rk_iconst (v := nI 0) rfl (by decide) ?_
      refine rk_istore_n rfl (Nat.le_of_ble_eq_true rfl) rfl ?_
      refine l104b (may := may) hN C2 e24 hmi (by omega) (fun g2 f2 c4 c5 c6 c7 F2 c252 I2 => ?_) 15 0 g f _ _ _ _ (by omega) (by omega) Fr.rfl' c25 I
      refine rk_iinc rfl rfl (n_inc _) rfl ?_
      refine rk_goto rfl rfl ?_
      refine ih (t + 1) g2 f2 _ _ _ _ _ (by omega) (by omega) (F.tr F2) c252 ⟨I2.1, fun t' hh s a b c => ?_, fun hh s x a b c => ?_⟩
      · by_cases y : t' = t
        · subst y
          refine I2.2.2 hh s (by omega) b c ?_
          have : 2 ^ 7 ≤ 2 ^ (14 - 7 * hh) := Nat.pow_le_pow_right (by decide) (by omega)
          omega
        · exact I2.2.1 t' hh s (by omega) b c
      · rw [show 0 - 7 * hh = 0 by omega] at c
        have hs0 : s = 0 := by omega
        subst hs0
        rw [hm_0, show ((t + 1) * 2 + hh) * 128 + 0 = 128 * ((t + 1) * 2 + hh) by omega]
        exact I2.1 _ (by omega)
theorem s104 {X : ai_X} {h : ai_H} {N : Nat → Nat} {n1 n2 : Int32} {xa xb : Value} {may : Bool} (hN : HN N) (C : CH h 3 N) (d24 : h[24]? = some (cSets n1 n2 xa xb)) {f : Nat → Int32} (c25 : h[25]? = some (cI 1536 f)) (hf : ∀ j, j < 12 → f (128 * j) = 0) {mi : Int32} (hmi : mi = bI (may = true)) : Mt X am_104 [.ref 24, .int mi] h (Qv (fun h1 => Fr 25 26 h h1 ∧ IM h1 (tf N may) (N 1))) := by
  refine rk_iconst (v := nI 0) rfl (by decide) ?_
  refine rk_istore_n rfl (Nat.le_of_ble_eq_true rfl) rfl ?_
  refine l104a hN C d24 hmi (N 1 + 1) 0 h f _ _ _ _ _ (by omega) (by omega) Fr.rfl' c25 ⟨hf, fun t' hh s a b c => absurd a (by omega), fun hh s x a b c => ?_⟩
  rw [show 0 - 7 * hh = 0 by omega] at c
  have hs0 : s = 0 := by omega
  subst hs0
  rw [hm_0, show (0 * 2 + hh) * 128 + 0 = 128 * hh by omega]
  exact hf hh (by omega)
theorem s105 {X : ai_X} {h : ai_H} {N : Nat → Nat} {n1 n2 : Int32} {xa xb : Value} {may : Bool} (hN : HN N) (d24 : h[24]? = some (cSets n1 n2 xa xb)) (I : IM h (tf N may) (N 1)) {s t : Nat} (hs : s < 16384) (ht : t < N 1) : Mt X am_105 [.ref 24, .int (nI s), .int (nI t)] h (Qe (nI (if may = true then img N s t else pimg N s t)) h) := by
  obtain ⟨f, c25, -, hf⟩ := I
  have h6 := hN.t
  have e1 : s &&& 127 = s % 128 := Nat.and_two_pow_sub_one_eq_mod s 7
  have e2 : s / 2 ^ 7 &&& 127 = s / 128 := by rw [show s / 2 ^ 7 &&& 127 = s / 2 ^ 7 % 2 ^ 7 from Nat.and_two_pow_sub_one_eq_mod _ 7]; omega
  have v1 := hf t 0 (s % 128) ht (by omega) (by omega)
  have v2 := hf t 1 (s / 128) ht (by omega) (by omega)
  refine rk_iload_n rfl rfl ?_
  refine rk_iconst (v := nI 2) rfl (by decide) ?_
  refine rk_imul rfl (pk_mul _ _) ?_
  refine rk_sipush (v := nI 128) rfl (by decide) ?_
  refine rk_imul rfl (pk_mul _ _) ?_
  refine rk_istore_n rfl (Nat.le_of_ble_eq_true rfl) rfl ?_
  refine rk_aload_n rfl rfl ?_
  refine rk_get rfl (by assumption) rfl ?_
  refine rk_iload_n rfl rfl ?_
  refine rk_iload_n rfl rfl ?_
  refine rk_bipush (v := nI 127) rfl (by decide) ?_
  refine rk_iand rfl (by rw [b_andU, e1]) ?_
  refine rk_iadd rfl (nI_add _ _) ?_
  refine rk_iald rfl (by assumption) (rfl) (by omega) (by decide) ?_
  rw [show t * 2 * 128 + s % 128 = (t * 2 + 0) * 128 + s % 128 by omega, v1]
  refine rk_aload_n rfl rfl ?_
  refine rk_get rfl (by assumption) rfl ?_
  refine rk_iload_n rfl rfl ?_
  refine rk_sipush (v := nI 128) rfl (by decide) ?_
  refine rk_iadd rfl (nI_add _ _) ?_
  refine rk_iload_n rfl rfl ?_
  refine rk_bipush (v := nI 7) rfl (by decide) ?_
  refine rk_iushr rfl (b_ushr (by omega) (by omega)) ?_
  refine rk_bipush (v := nI 127) rfl (by decide) ?_
  refine rk_iand rfl (by rw [b_andU, e2]) ?_
  refine rk_iadd rfl (nI_add _ _) ?_
  refine rk_iald rfl (by assumption) (rfl) (by omega) (by decide) ?_
  rw [show t * 2 * 128 + 128 + s / 128 = (t * 2 + 1) * 128 + s / 128 by omega, v2]
  refine rk_ior rfl (b_orU _ _) ?_
  exact rk_ireturn rfl rfl (Qe_of (by rw [hm_img hN hs]))
