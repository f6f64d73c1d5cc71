/-! TWO OR THREE LED AT ONCE: pure -/
abbrev dgt (x i : Nat) : Nat := x / 14 ^ i % 14
/-- k of n numbers packed, the last first -/
def pkd (y : Nat → Nat) (n : Nat) : Nat → Nat
  | 0 => 0
  | k + 1 => pkd y n k * 14 + y (n - 1 - k)
abbrev pack (y : Nat → Nat) (n : Nat) : Nat := pkd y n n
abbrev N23 (n : Nat) : Prop := n = 2 ∨ n = 3
theorem pack_2 (y : Nat → Nat) : pack y 2 = y 1 * 14 + y 0 := by show (0 * 14 + y 1) * 14 + y 0 = _; omega
theorem pack_3 (y : Nat → Nat) : pack y 3 = y 2 * 196 + y 1 * 14 + y 0 := by show ((0 * 14 + y 2) * 14 + y 1) * 14 + y 0 = _; omega
theorem pkd_lt {y : Nat → Nat} {n : Nat} (hn : N23 n) (hy : ∀ i, i < n → y i < 14) : ∀ k, k ≤ n → pkd y n k < 2744 := by
  intro k hk
  have h0 := hy 0 (by omega)
  have h1 := hy 1 (by omega)
  rcases hn with rfl | rfl
  · rcases (show k = 0 ∨ k = 1 ∨ k = 2 by omega) with rfl | rfl | rfl <;> simp [pkd] <;> omega
  · have h2 := hy 2 (by omega)
    rcases (show k = 0 ∨ k = 1 ∨ k = 2 ∨ k = 3 by omega) with rfl | rfl | rfl | rfl <;> simp [pkd] <;> omega
theorem dgt_pack {y : Nat → Nat} {n : Nat} (hn : N23 n) (hy : ∀ i, i < n → y i < 14) : ∀ i, i < n → dgt (pack y n) i = y i := by
  intro i hi
  have h0 := hy 0 (by omega)
  have h1 := hy 1 (by omega)
  rcases hn with rfl | rfl
  · rw [pack_2]
    rcases (show i = 0 ∨ i = 1 by omega) with rfl | rfl
    · show (y 1 * 14 + y 0) / 1 % 14 = y 0; omega
    · show (y 1 * 14 + y 0) / 14 % 14 = y 1; omega
  · have h2 := hy 2 (by omega)
    rw [pack_3]
    rcases (show i = 0 ∨ i = 1 ∨ i = 2 by omega) with rfl | rfl | rfl
    · show (y 2 * 196 + y 1 * 14 + y 0) / 1 % 14 = y 0; omega
    · show (y 2 * 196 + y 1 * 14 + y 0) / 14 % 14 = y 1; omega
    · show (y 2 * 196 + y 1 * 14 + y 0) / 196 % 14 = y 2; omega
theorem pack_lt {y : Nat → Nat} {n : Nat} (hn : N23 n) (hy : ∀ i, i < n → y i < 14) : pack y n < 14 ^ n := by
  have h0 := hy 0 (by omega)
  have h1 := hy 1 (by omega)
  rcases hn with rfl | rfl
  · rw [pack_2]; show _ < 196; omega
  · have h2 := hy 2 (by omega)
    rw [pack_3]; show _ < 2744; omega
theorem pow14 {n : Nat} (hn : N23 n) : 14 ^ n ≤ 2744 := by rcases hn with rfl | rfl <;> decide
/-- a code as it can be -/
def vL (N : Nat → Nat) (n x : Nat) : Prop := (∀ i, i < n → dgt x i < N 0) ∧ x < 14 ^ n
theorem vL.eq {N : Nat → Nat} {n x y : Nat} (hn : N23 n) (hx : vL N n x) (hy : vL N n y) (e : ∀ i, i < n → dgt x i = dgt y i) : x = y := by
  have e0 : x / 1 % 14 = y / 1 % 14 := e 0 (by omega)
  have e1 : x / 14 % 14 = y / 14 % 14 := e 1 (by omega)
  rcases hn with rfl | rfl
  · have h1 : x < 196 := hx.2
    have h2 : y < 196 := hy.2
    omega
  · have e2 : x / 196 % 14 = y / 196 % 14 := e 2 (by omega)
    have h1 : x < 2744 := hx.2
    have h2 : y < 2744 := hy.2
    omega
def nxL (N : Nat → Nat) (n x t : Nat) : Nat := pack (fun i => pl N (dgt x i) t) n
theorem nxL_v {N : Nat → Nat} {n x t : Nat} (hN : HN N) (hn : N23 n) (hx : vL N n x) (ht : t < N 1) : vL N n (nxL N n x t) := by
  have h14 := hN.n
  have hy : ∀ i, i < n → (fun i => pl N (dgt x i) t) i < 14 := fun i hi => by
    have := hN.xpl (hx.1 i hi) ht
    show pl N (dgt x i) t < 14
    omega
  refine ⟨fun i hi => ?_, pack_lt hn hy⟩
  rw [nxL, dgt_pack hn hy i hi]
  exact hN.xpl (hx.1 i hi) ht
def okL (N : Nat → Nat) (n x : Nat) : Bool := decide (bad N (dgt x) n = 0)
theorem okL_t {N : Nat → Nat} {n x : Nat} : okL N n x = true ↔ bad N (dgt x) n = 0 := decide_eq_true_iff
def glL (n r x : Nat) : Bool := decide (∀ i, i < n → dgt x i = r)
theorem glL_t {n r x : Nat} : glL n r x = true ↔ ∀ i, i < n → dgt x i = r := decide_eq_true_iff
theorem onc_cg {y z : Nat → Nat} : ∀ w, (∀ i, i < w → y i = z i) → onc y w = onc z w
  | 0, _ => rfl
  | w + 1, h => by rw [onc, onc, onc_cg w (fun i hi => h i (by omega)), h w (by omega)]
theorem twi_cg {y z : Nat → Nat} : ∀ w, (∀ i, i < w → y i = z i) → twi y w = twi z w
  | 0, _ => rfl
  | w + 1, h => by rw [twi, twi, twi_cg w (fun i hi => h i (by omega)), onc_cg w (fun i hi => h i (by omega)), h w (by omega)]
theorem bad_cg {N y z : Nat → Nat} {w : Nat} (h : ∀ i, i < w → y i = z i) : bad N y w = bad N z w := by rw [bad, bad, onc_cg w h, twi_cg w h]
theorem lead_bd {N : Nat → Nat} {n x : Nat} {ok : Nat → Bool} {B : Bf} (hN : HN N) (hn : N23 n) (hx : vL N n x) (H : BI (nxL N n) ok (N 1) x B) : (∀ i, i < B.m → vL N n (B.st i)) ∧ B.m ≤ 2744 := by
  have h1 := H.all (P := vL N n) hx (fun y t hy ht _ => nxL_v hN hn hy ht)
  have h2 := pow14 hn
  exact ⟨h1, H.le (fun i hi => by have := (h1 i hi).2; omega)⟩
theorem div14 (x i : Nat) : x / 14 ^ i / 14 = x / 14 ^ (i + 1) := by rw [Nat.div_div_eq_div_mul, Nat.pow_succ]
/-! the class -/
theorem l15 {X : ai_X} {h : ai_H} {n : Nat} {y : Nat → Nat} (hn : N23 n) (d33 : h[33]? = some (cCo (nI n))) (A : AN h 35 3 n y) (hy : ∀ i, i < n → y i < 14) : ∀ (d : Nat) (k : Nat) (i2 : Int32), n < k + d → (k ≤ n) → (i2 = nI (n - k) + Int32.ofInt (-1)) → Rk X am_15 7 [some (.ref 33), some (.int (nI (pkd y n k))), some (.int i2)] [] h (Qe (nI (pack y n)) h) := by
  intro d
  induction d with
  | zero => intro k i2 hd hk hi2; exfalso; omega
  | succ d ih =>
    intro k i2 hd hk hi2
    obtain ⟨f, c35, hf⟩ := id A
    have hpk := pkd_lt hn hy k hk
    by_cases hkn : k = n
    · subst hi2
      rw [show n - k = 0 by omega]
      refine rk_iload_n rfl rfl ?_
      refine rk_if_lt rfl rfl (fun _ => ?_) (fun hc => absurd (by decide) hc)
      refine rk_iload_n rfl rfl ?_
      exact rk_ireturn rfl rfl (Qe_of (by rw [hkn]))
    rw [n_dec (by omega)] at hi2
    subst hi2
    have hyk := hy (n - 1 - k) (by omega)
    refine rk_iload_n rfl rfl ?_
    refine rk_if_lt rfl rfl (fun hc8 => ?_) (fun hc8 => ?_)
    · replace hc8 := (n0_lt (by omega)).mp hc8
      exact hc8.elim
    · replace hc8 := mt (n0_lt (by omega)).mpr hc8
      refine rk_iload_n rfl rfl ?_
      refine rk_bipush (v := nI 14) rfl (by decide) ?_
      refine rk_imul rfl (pk_mul _ _) ?_
      refine rk_aload_n rfl rfl ?_
      refine rk_get rfl (by assumption) rfl ?_
      refine rk_iload_n rfl rfl ?_
      refine rk_iald rfl (by assumption) (rfl) (by omega) (by decide) ?_
      rw [hf (n - k - 1) (by omega), show n - k - 1 = n - 1 - k by omega]
      refine rk_iadd rfl (nI_add _ _) ?_
      refine rk_istore_n rfl (Nat.le_of_ble_eq_true rfl) rfl ?_
      refine rk_iinc rfl rfl rfl rfl ?_
      refine rk_goto rfl rfl ?_
      exact ih (k + 1) _ (by omega) (by omega) (by rw [show n - (k + 1) = n - 1 - k by omega])
theorem s15 {X : ai_X} {h : ai_H} {n : Nat} {y : Nat → Nat} (hn : N23 n) (d33 : h[33]? = some (cCo (nI n))) (A : AN h 35 3 n y) (hy : ∀ i, i < n → y i < 14) : Mt X am_15 [.ref 33] h (Qe (nI (pack y n)) h) := by
  refine rk_iconst (v := nI 0) rfl (by decide) ?_
  refine rk_istore_n rfl (Nat.le_of_ble_eq_true rfl) rfl ?_
  refine rk_aload_n rfl rfl ?_
  refine rk_get rfl (by assumption) rfl ?_
  refine rk_iconst (v := nI 1) rfl (by decide) ?_
  refine rk_isub rfl rfl ?_
  refine rk_istore_n rfl (Nat.le_of_ble_eq_true rfl) rfl ?_
  exact l15 hn d33 A hy (n + 1) 0 _ (by omega) (by omega) (by rw [Nat.sub_zero, Int32.sub_eq_add_neg]; rfl)
theorem l16 {X : ai_X} {h : ai_H} {N : Nat → Nat} {n : Nat} (hn : N23 n) (hN : HN N) (C : CH h 3 N) (d33 : h[33]? = some (cCo (nI n))) {x t : Nat} (hx : vL N n x) (ht : t < N 1) : ∀ (d : Nat) (i : Nat) (g : ai_H), n < i + d → (i ≤ n) → (Fr 35 36 h g) → (AN g 35 3 i (fun j => pl N (dgt x j) t)) → Rk X am_16 4 [some (.ref 33), some (.int (nI x)), some (.int (nI t)), some (.int (nI (x / 14 ^ i))), some (.int (nI i))] [] g (Qv (fun h1 => Fr 35 36 h h1 ∧ AN h1 35 3 n (fun j => pl N (dgt x j) t))) := by
  intro d
  induction d with
  | zero => intro i g hd hi F A; exfalso; omega
  | succ d ih =>
    intro i g hd hi F A
    obtain ⟨f, c35, hf⟩ := id A
    have e33 := (F.2 33 (by omega)).trans d33
    have C2 := C.fr2 F (by omega)
    have e3 := C2.1
    have h14 := hN.n
    have h6 := hN.t
    have hp14 := pow14 hn
    have hxl := hx.2
    have hdl : x / 14 ^ i ≤ x := Nat.div_le_self _ _
    have hdi := hx.1 i
    have hm14 : x / 14 ^ i % 14 < 14 := Nat.mod_lt _ (by omega)
    refine rk_iload rfl rfl ?_
    refine rk_aload_n rfl rfl ?_
    refine rk_get rfl (by assumption) rfl ?_
    refine rk_icmp_ge rfl rfl (fun hc7 => ?_) (fun hc7 => ?_)
    · replace hc7 := (nI_leI (by omega) (by omega)).mp hc7
      have hi2 : i = n := by omega
      subst hi2
      exact rk_return rfl rfl ⟨_, rfl, F, A⟩
    · replace hc7 := mt (nI_leI (by omega) (by omega)).mpr hc7
      refine rk_aload_n rfl rfl ?_
      refine rk_get rfl (by assumption) rfl ?_
      refine rk_iload rfl rfl ?_
      refine rk_aload_n rfl rfl ?_
      refine rk_get rfl (by assumption) rfl ?_
      refine rk_iload_n rfl rfl ?_
      refine rk_bipush (v := nI 14) rfl (by decide) ?_
      refine rk_irem rfl (nI_ne0 (by omega) (by omega)) (pk_rem (by omega) (by omega) (by omega)) ?_
      refine rk_iload_n rfl rfl ?_
      refine rk_cv2e rfl rfl (by assumption) rfl rfl (Nat.le_of_ble_eq_true rfl) (Nat.le_of_ble_eq_true rfl) (s27N C2 hN (hdi (by omega)) ht) ?_
      refine rk_iast rfl c35 (rfl) (by omega) (by decide) ?_
      refine hp_gen c35 (fun h1 g1 hk1 hl1 => ?_)
      replace e33 := (hk1 _ (by omega)).trans e33
      replace c35 := g1
      refine rk_iload_n rfl rfl ?_
      refine rk_bipush (v := nI 14) rfl (by decide) ?_
      refine rk_idiv rfl (nI_ne0 (by omega) (by omega)) (pk_div (by omega) (by omega) (by omega)) ?_
      refine rk_istore_n rfl (Nat.le_of_ble_eq_true rfl) rfl ?_
      refine rk_iinc rfl rfl (n_inc _) rfl ?_
      refine rk_goto rfl rfl ?_
      rw [div14]
      exact ih (i + 1) h1 (by omega) (by omega) (F.tr (Fr.mk1 hk1 hl1 (by omega) (by omega))) (AN.add c35 hf rfl)
theorem s16 {X : ai_X} {h : ai_H} {N : Nat → Nat} {n : Nat} (hn : N23 n) (hN : HN N) (C : CH h 3 N) (d33 : h[33]? = some (cCo (nI n))) (A0 : ShI h 35 3) {x t : Nat} (hx : vL N n x) (ht : t < N 1) : Mt X am_16 [.ref 33, .int (nI x), .int (nI t)] h (Qv (fun h1 => Fr 35 36 h h1 ∧ AN h1 35 3 n (fun j => pl N (dgt x j) t))) := by
  refine rk_iload_n rfl rfl ?_
  refine rk_istore_n rfl (Nat.le_of_ble_eq_true rfl) rfl ?_
  refine rk_iconst (v := nI 0) rfl (by decide) ?_
  refine rk_istore rfl (Nat.le_of_ble_eq_true rfl) rfl ?_
  obtain ⟨f, c35⟩ := A0
  have z := l16 (X := X) hn hN C d33 hx ht (n + 1) 0 h (by omega) (by omega) Fr.rfl' ⟨f, c35, fun k hk => absurd hk (by omega)⟩
  rw [Nat.pow_zero, Nat.div_one] at z
  exact z
theorem s17 {X : ai_X} {h : ai_H} {N : Nat → Nat} {n : Nat} (hn : N23 n) (hN : HN N) (C : CH h 3 N) (d33 : h[33]? = some (cCo (nI n))) {y : Nat → Nat} (A : AN h 35 3 n y) (hy : ∀ i, i < n → y i < N 0) : Mt X am_17 [.ref 33] h (Qe (bI (¬ bad N y n = 0)) h) := by
  have hbl := bad_lt (y := y) (w := n) hN
  have hp := hN.p14
  refine rk_aload_n rfl rfl ?_
  refine rk_aload_n rfl rfl ?_
  refine rk_get rfl (by assumption) rfl ?_
  refine rk_aload_n rfl rfl ?_
  refine rk_get rfl (by assumption) rfl ?_
  refine rk_cv2e rfl rfl (by assumption) rfl rfl (Nat.le_of_ble_eq_true rfl) (Nat.le_of_ble_eq_true rfl) (s11 hN C d33 hy A (by omega) (by omega)) ?_
  refine rk_if_eq rfl rfl (fun hc6 => ?_) (fun hc6 => ?_)
  · replace hc6 := (n0_eq (by omega)).mp hc6
    refine rk_iconst (v := nI 0) rfl (by decide) ?_
    first | exact rk_ireturn rfl (by decide) (Qe_of (by rw [bI_t (by assumption)]; rfl)) | exact rk_ireturn rfl (by decide) (Qe_of (by rw [bI_f (fun z => z (by assumption))]; rfl))
  · replace hc6 := mt (n0_eq (by omega)).mpr hc6
    refine rk_iconst (v := nI 1) rfl (by decide) ?_
    refine rk_goto rfl rfl ?_
    first | exact rk_ireturn rfl (by decide) (Qe_of (by rw [bI_t (by assumption)]; rfl)) | exact rk_ireturn rfl (by decide) (Qe_of (by rw [bI_f (fun z => z (by assumption))]; rfl))
theorem l18 {X : ai_X} {h : ai_H} {N : Nat → Nat} {n : Nat} (hn : N23 n) (hN : HN N) (C : CH h 3 N) (d33 : h[33]? = some (cCo (nI n))) {y : Nat → Nat} (A : AN h 35 3 n y) (hy : ∀ i, i < n → y i < N 0) {r : Nat} (hr : r < 14) : ∀ (d : Nat) (i : Nat), n < i + d → (i ≤ n) → (∀ j, j < i → y j = r) → Rk X am_18 2 [some (.ref 33), some (.int (nI r)), some (.int (nI i))] [] h (Qe (bI (∀ j, j < n → y j = r)) h) := by
  intro d
  induction d with
  | zero => intro i hd hi hq; exfalso; omega
  | succ d ih =>
    intro i hd hi hq
    obtain ⟨f, c35, hf⟩ := id A
    have h14 := hN.n
    have hyi := hy i
    refine rk_iload_n rfl rfl ?_
    refine rk_aload_n rfl rfl ?_
    refine rk_get rfl (by assumption) rfl ?_
    refine rk_icmp_ge rfl rfl (fun hc5 => ?_) (fun hc5 => ?_)
    · replace hc5 := (nI_leI (by omega) (by omega)).mp hc5
      refine rk_iconst (v := nI 1) rfl (by decide) ?_
      exact rk_ireturn rfl (by decide) (Qe_of (by rw [bI_t (fun j hj => hq j (by omega))]; rfl))
    · replace hc5 := mt (nI_leI (by omega) (by omega)).mpr hc5
      refine rk_aload_n rfl rfl ?_
      refine rk_get rfl (by assumption) rfl ?_
      refine rk_iload_n rfl rfl ?_
      refine rk_iald rfl (by assumption) (rfl) (by omega) (by decide) ?_
      rw [hf i (by omega)]
      replace hyi := hyi (by omega)
      refine rk_iload_n rfl rfl ?_
      refine rk_icmp_eq rfl rfl (fun hc11 => ?_) (fun hc11 => ?_)
      · replace hc11 := (nI_eq (by omega) (by omega)).mp hc11
        refine rk_iinc rfl rfl (n_inc _) rfl ?_
        refine rk_goto rfl rfl ?_
        refine ih (i + 1) (by omega) (by omega) (fun j hj => ?_)
        by_cases z : j = i
        · subst z; exact hc11
        · exact hq j (by omega)
      · replace hc11 := mt (nI_eq (by omega) (by omega)).mpr hc11
        refine rk_iconst (v := nI 0) rfl (by decide) ?_
        exact rk_ireturn rfl (by decide) (Qe_of (by rw [bI_f (fun z => hc11 (z i (by omega)))]; rfl))
theorem s18 {X : ai_X} {h : ai_H} {N : Nat → Nat} {n : Nat} (hn : N23 n) (hN : HN N) (C : CH h 3 N) (d33 : h[33]? = some (cCo (nI n))) {y : Nat → Nat} (A : AN h 35 3 n y) (hy : ∀ i, i < n → y i < N 0) {r : Nat} (hr : r < 14) : Mt X am_18 [.ref 33, .int (nI r)] h (Qe (bI (∀ j, j < n → y j = r)) h) := by
  refine rk_iconst (v := nI 0) rfl (by decide) ?_
  refine rk_istore_n rfl (Nat.le_of_ble_eq_true rfl) rfl ?_
  exact l18 hn hN C d33 A hy hr (n + 1) 0 (by omega) (by omega) (fun j hj => absurd hj (by omega))
/-- who is led: of the first w waiters those that u names -/
def gs (N : Nat → Nat) (u : Nat) : Nat → Nat → Nat
  | 0 => fun _ => 0
  | w + 1 => if u / 2 ^ w % 2 = 0 then gs N u w else un (gs N u w) (pop u w) (wt N w)
theorem gs_0 {N : Nat → Nat} {u w : Nat} (h : u / 2 ^ w % 2 = 0) : gs N u (w + 1) = gs N u w := by rw [gs, if_pos h]
theorem gs_1 {N : Nat → Nat} {u w : Nat} (h : ¬ u / 2 ^ w % 2 = 0) : gs N u (w + 1) = un (gs N u w) (pop u w) (wt N w) := by rw [gs, if_neg h]
theorem pop_0 {u w : Nat} (h : u / 2 ^ w % 2 = 0) : pop u (w + 1) = pop u w := by rw [pop, h]; rfl
theorem pop_1 {u w : Nat} (h : ¬ u / 2 ^ w % 2 = 0) : pop u (w + 1) = pop u w + 1 := by rw [pop]; omega
theorem pop_mono {u : Nat} {a : Nat} : ∀ d, pop u a ≤ pop u (a + d)
  | 0 => Nat.le_refl _
  | d + 1 => by have := pop_mono (u := u) (a := a) d; show _ ≤ pop u (a + d) + _; omega
theorem pop_ge {u n : Nat} (h : u < 2 ^ n) : ∀ d, pop u (n + d) = pop u n
  | 0 => rfl
  | d + 1 => by
    have : u / 2 ^ (n + d) % 2 = 0 := by
      have h2 : u < 2 ^ (n + d) := Nat.lt_of_lt_of_le h (Nat.pow_le_pow_right (by decide) (by omega))
      rw [Nat.div_eq_of_lt h2]
    show pop u (n + d) + u / 2 ^ (n + d) % 2 = pop u n
    rw [this, pop_ge h d]
    rfl
theorem gs_lt {N : Nat → Nat} {u : Nat} (hN : HN N) : ∀ w, w ≤ N 271 → ∀ i, i < pop u w → gs N u w i < N 0
  | 0, _, i, hi => absurd hi (by simp [pop])
  | w + 1, hw, i, hi => by
    by_cases h : u / 2 ^ w % 2 = 0
    · rw [gs_0 h]
      rw [pop_0 h] at hi
      exact gs_lt hN w (by omega) i hi
    · rw [gs_1 h]
      rw [pop_1 h] at hi
      unfold un
      split
      · exact hN.xwt (by omega)
      · exact gs_lt hN w (by omega) i (by omega)
theorem l14 {X : ai_X} {h : ai_H} {N : Nat → Nat} {u n33 : Nat} (hN : HN N) (C : CH h 3 N) (d33 : h[33]? = some (cCo (nI n33))) (hu : u < 256) (h3 : pop u (N 271) ≤ 3) : ∀ (d : Nat) (w : Nat) (g : ai_H), N 271 < w + d → (w ≤ N 271) → (Fr 33 36 h g) → (g[34]? = h[34]?) → (g[33]? = some (cCo (nI (pop u w)))) → (AN g 35 3 (pop u w) (gs N u w)) → Rk X am_14 5 [some (.ref 33), some (.int (nI u)), some (.int (nI w))] [] g (Qv (fun h1 => Fr 33 36 h h1 ∧ h1[34]? = h[34]? ∧ h1[33]? = some (cCo (nI (pop u (N 271)))) ∧ AN h1 35 3 (pop u (N 271)) (gs N u (N 271)))) := by
  intro d
  induction d with
  | zero => intro w g hd hw F F34 e33 A; exfalso; omega
  | succ d ih =>
    intro w g hd hw F F34 e33 A
    obtain ⟨f, c35, hf⟩ := id A
    have C2 := C.fr2 F (by omega)
    have e3 := C2.1
    have hw8 := hN.w
    have hn := hN.n
    have hpm := pop_mono (u := u) (a := w) (N 271 - w)
    rw [show w + (N 271 - w) = N 271 by omega] at hpm
    have F0 : Fr 33 36 h g := F
    refine rk_iload_n rfl rfl ?_
    refine rk_aload_n rfl rfl ?_
    refine rk_get rfl (by assumption) rfl ?_
    refine rk_get rfl (by assumption) rfl ?_
    refine rk_icmp_ge rfl rfl (fun hc9 => ?_) (fun hc9 => ?_)
    · replace hc9 := (nI_leI (by omega) (by omega)).mp hc9
      have hw2 : w = N 271 := by omega
      subst hw2
      exact rk_return rfl rfl ⟨_, rfl, F, F34, e33, A⟩
    · replace hc9 := mt (nI_leI (by omega) (by omega)).mpr hc9
      refine rk_iload_n rfl rfl ?_
      refine rk_iload_n rfl rfl ?_
      refine rk_iushr rfl (b_ushr (by omega) (by omega)) ?_
      refine rk_iconst (v := nI 1) rfl (by decide) ?_
      refine rk_iand rfl (b_and1U _) ?_
      refine rk_if_eq rfl rfl (fun hc15 => ?_) (fun hc15 => ?_)
      · replace hc15 := (n0_eq (by omega)).mp hc15
        have F2 := F0
        have E2 := e33
        rw [← pop_0 hc15] at E2
        have A2 := A
        rw [← pop_0 hc15, ← gs_0 hc15] at A2
        refine rk_iinc rfl rfl (n_inc _) rfl ?_
        refine rk_goto rfl rfl ?_
        exact ih (w + 1) _ (by omega) (by omega) F2 F34 E2 A2
      · replace hc15 := mt (n0_eq (by omega)).mpr hc15
        have hp1 := pop_1 hc15
        have hpm2 := pop_mono (u := u) (a := w + 1) (N 271 - (w + 1))
        rw [show w + 1 + (N 271 - (w + 1)) = N 271 by omega] at hpm2
        refine rk_aload_n rfl rfl ?_
        refine rk_get rfl (by assumption) rfl ?_
        refine rk_iconst (v := nI 3) rfl (by decide) ?_
        refine rk_icmp_ge rfl rfl (fun hc19 => ?_) (fun hc19 => ?_)
        · replace hc19 := (nI_leI (by omega) (by omega)).mp hc19
          omega
        · replace hc19 := mt (nI_leI (by omega) (by omega)).mpr hc19
          refine rk_aload_n rfl rfl ?_
          refine rk_get rfl (by assumption) rfl ?_
          refine rk_aload_n rfl rfl ?_
          refine rk_get rfl (by assumption) rfl ?_
          refine rk_aload_n rfl rfl ?_
          refine rk_get rfl (by assumption) rfl ?_
          refine rk_iload_n rfl rfl ?_
          refine rk_cv1e rfl rfl (by assumption) rfl rfl (Nat.le_of_ble_eq_true rfl) (Nat.le_of_ble_eq_true rfl) (s31N C2 (by omega) hN) ?_
          refine rk_iast rfl c35 (rfl) (by omega) (by decide) ?_
          refine hp_gen c35 (fun h1 g1 hk1 hl1 => ?_)
          replace e33 := (hk1 _ (by omega)).trans e33
          replace e3 := (hk1 _ (by omega)).trans e3
          replace F34 := (hk1 34 (by omega)).trans F34
          replace F0 := F0.tr (Fr.mk1 hk1 hl1 (by omega) (by omega))
          replace c35 := g1
          refine rk_aload_n rfl rfl ?_
          refine rk_dup_a rfl ?_
          refine rk_get rfl (by assumption) rfl ?_
          refine rk_iconst (v := nI 1) rfl (by decide) ?_
          refine rk_iadd rfl (nI_add _ _) ?_
          refine rk_put rfl e33 (Nat.le_of_ble_eq_true rfl) ft_1_4 rfl (Or.inl rfl) rfl ?_
          refine hp_gen e33 (fun h1 g1 hk1 hl1 => ?_)
          replace c35 := (hk1 _ (by omega)).trans c35
          replace e3 := (hk1 _ (by omega)).trans e3
          replace F34 := (hk1 34 (by omega)).trans F34
          replace F0 := F0.tr (Fr.mk1 hk1 hl1 (by omega) (by omega))
          replace e33 := g1
          have F2 := F0
          have E2 := e33
          rw [← hp1] at E2
          have A2 : AN h1 35 3 (pop u (w + 1)) (gs N u (w + 1)) := by
            rw [hp1, gs_1 hc15]
            exact AN.add c35 (fun j hj => by rw [un_n (by omega)]; exact hf j hj) (by rw [un_s])
          refine rk_iinc rfl rfl (n_inc _) rfl ?_
          refine rk_goto rfl rfl ?_
          exact ih (w + 1) _ (by omega) (by omega) F2 F34 E2 A2
theorem s14 {X : ai_X} {h : ai_H} {N : Nat → Nat} {u : Nat} {n0 : Int32} (hN : HN N) (C : CH h 3 N) (d33 : h[33]? = some (cCo n0)) (A0 : ShI h 35 3) (hu : u < 256) (h3 : pop u (N 271) ≤ 3) : Mt X am_14 [.ref 33, .int (nI u)] h (Qv (fun h1 => Fr 33 36 h h1 ∧ h1[34]? = h[34]? ∧ h1[33]? = some (cCo (nI (pop u (N 271)))) ∧ AN h1 35 3 (pop u (N 271)) (gs N u (N 271)))) := by
  obtain ⟨f, c35⟩ := A0
  have F34 : h[34]? = h[34]? := rfl
  have F0 : Fr 33 36 h h := Fr.rfl'
  refine rk_aload_n rfl rfl ?_
  refine rk_iconst (v := nI 0) rfl (by decide) ?_
  refine rk_put rfl d33 (Nat.le_of_ble_eq_true rfl) ft_1_4 rfl (Or.inl rfl) rfl ?_
  refine hp_gen d33 (fun h1 g1 hk1 hl1 => ?_)
  replace c35 := (hk1 _ (by omega)).trans c35
  replace F34 := (hk1 34 (by omega)).trans F34
  replace F0 := F0.tr (Fr.mk1 hk1 hl1 (by omega) (by omega))
  replace d33 := g1
  refine rk_iconst (v := nI 0) rfl (by decide) ?_
  refine rk_istore_n rfl (Nat.le_of_ble_eq_true rfl) rfl ?_
  refine (l14 (n33 := 0) hN (C.fr2 F0 (by omega)) d33 hu h3 (N 271 + 1) 0 _ (by omega) (by omega) Fr.rfl' rfl d33 ⟨f, c35, fun k hk => absurd hk (by simp [pop])⟩).mono ?_
  rintro o ⟨h2, rfl, F2, y0, y1, y2⟩
  exact ⟨_, rfl, F0.tr F2, y0.trans F34, y1, y2⟩
