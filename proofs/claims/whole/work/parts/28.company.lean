/-! THE WAITERS TOGETHER: meeting, amiss, night -/
/-- a row of n ints whose first L are the numbers y -/
def AN (h : ai_H) (p n L : Nat) (y : Nat → Nat) : Prop := ∃ f, h[p]? = some (cI n f) ∧ ∀ k, k < L → f k = nI (y k)
theorem AN.fr {h h1 : ai_H} {p n L : Nat} {y : Nat → Nat} (e : h1[p]? = h[p]?) (H : AN h p n L y) : AN h1 p n L y := by
  obtain ⟨f, a, b⟩ := H
  exact ⟨f, e.trans a, b⟩
theorem AN.congr {h : ai_H} {p n L : Nat} {y z : Nat → Nat} (H : AN h p n L y) (e : ∀ k, k < L → y k = z k) : AN h p n L z := by
  obtain ⟨f, a, b⟩ := H
  exact ⟨f, a, fun k hk => by rw [b k hk, e k hk]⟩
theorem AN.add {h : ai_H} {p n k : Nat} {y : Nat → Nat} {f : Nat → Int32} {v : Int32} (a : h[p]? = some (cI n (upd f k v))) (b : ∀ j, j < k → f j = nI (y j)) (hv : v = nI (y k)) : AN h p n (k + 1) y := by
  refine ⟨_, a, fun j hj => ?_⟩
  simp only [upd]
  by_cases e : j = k
  · subst e; rw [if_pos rfl, hv]
  · rw [if_neg e]; exact b j (by omega)
theorem AN.step {h : ai_H} {p n L j : Nat} {y z : Nat → Nat} {f : Nat → Int32} {v : Int32} (a : h[p]? = some (cI n (upd f j v))) (b : ∀ k, k < L → f k = nI (if k < j then y k else z k)) (hv : v = nI (y j)) : AN h p n L (fun k => if k < j + 1 then y k else z k) := by
  refine ⟨_, a, fun k hk => ?_⟩
  simp only [upd]
  by_cases e : k = j
  · subst e; rw [if_pos rfl, if_pos (by omega), hv]
  · rw [if_neg e, b k hk]
    by_cases e2 : k < j
    · rw [if_pos e2, if_pos (by omega)]
    · rw [if_neg e2, if_neg (by omega)]
/-- the first i from which q holds: g i, or -1 -/
noncomputable def fw (q : Nat → Prop) (g : Nat → Int32) : Nat → Nat → Int32
  | 0, _ => -1
  | d + 1, i => haveI := Classical.propDecidable (q i); if q i then g i else fw q g d (i + 1)
theorem fw_0 (q : Nat → Prop) (g : Nat → Int32) (i : Nat) : fw q g 0 i = -1 := rfl
theorem fw_t {q : Nat → Prop} {g : Nat → Int32} {d i : Nat} (h : q i) : fw q g (d + 1) i = g i := by rw [fw]; exact if_pos h
theorem fw_f {q : Nat → Prop} {g : Nat → Int32} {d i : Nat} (h : ¬ q i) : fw q g (d + 1) i = fw q g d (i + 1) := by rw [fw]; exact if_neg h
theorem fw_congr {q q' : Nat → Prop} {g g' : Nat → Int32} : ∀ (d i : Nat), (∀ k, i ≤ k → k < i + d → (q k ↔ q' k) ∧ (q k → g k = g' k)) → fw q g d i = fw q' g' d i := by
  intro d
  induction d with
  | zero => intro i _; rfl
  | succ d ih =>
    intro i h
    have h0 := h i (Nat.le_refl _) (by omega)
    by_cases hv : q i
    · rw [fw_t hv, fw_t (h0.1.mp hv), h0.2 hv]
    · rw [fw_f hv, fw_f (fun z => hv (h0.1.mpr z))]
      exact ih _ (fun k h1 h2 => h k (by omega) (by omega))
/-- the least two of W that are in one room -/
def tgi (y : Nat → Nat) (a : Nat) : Nat → Nat → Option Nat
  | 0, _ => none
  | d + 1, b => if y a = y b then some b else tgi y a d (b + 1)
def tgo (y : Nat → Nat) (W : Nat) : Nat → Nat → Int32
  | 0, _ => -1
  | d + 1, a => match tgi y a (W - (a + 1)) (a + 1) with
    | some b => nI (10 * a + b)
    | none => tgo y W d (a + 1)
theorem tgi_t {y : Nat → Nat} {a d b : Nat} (h : y a = y b) : tgi y a (d + 1) b = some b := by rw [tgi, if_pos h]
theorem tgi_f {y : Nat → Nat} {a d b : Nat} (h : ¬ y a = y b) : tgi y a (d + 1) b = tgi y a d (b + 1) := by rw [tgi, if_neg h]
theorem tgo_s {y : Nat → Nat} {W d a b : Nat} (h : tgi y a (W - (a + 1)) (a + 1) = some b) : tgo y W (d + 1) a = nI (10 * a + b) := by rw [tgo, h]
theorem tgo_n {y : Nat → Nat} {W d a : Nat} (h : tgi y a (W - (a + 1)) (a + 1) = none) : tgo y W (d + 1) a = tgo y W d (a + 1) := by rw [tgo, h]
/-- how many are in a room -/
def cnt (y : Nat → Nat) (r : Nat) : Nat → Nat
  | 0 => 0
  | w + 1 => cnt y r w + if y w = r then 1 else 0
theorem cnt_le (y : Nat → Nat) (r : Nat) : ∀ w, cnt y r w ≤ w
  | 0 => Nat.le_refl _
  | w + 1 => by have := cnt_le y r w; simp only [cnt]; split <;> omega
/-- one of them is amiss in a room -/
def amq (N y : Nat → Nat) (r : Nat) : Prop := (0 < cnt y r (N 271) ∧ N 268 / 2 ^ r % 2 = 1) ∨ (1 < cnt y r (N 271) ∧ N 269 / 2 ^ r % 2 = 1)
def onc (y : Nat → Nat) : Nat → Nat
  | 0 => 0
  | w + 1 => onc y w ||| 2 ^ y w
def twi (y : Nat → Nat) : Nat → Nat
  | 0 => 0
  | w + 1 => twi y w ||| (onc y w &&& 2 ^ y w)
theorem bt_onc {y : Nat → Nat} {r : Nat} : ∀ w, onc y w / 2 ^ r % 2 = 1 ↔ 0 < cnt y r w
  | 0 => ⟨fun h => absurd h (bt_zero r), fun h => absurd h (by simp [cnt])⟩
  | w + 1 => by
    rw [onc, bt_or, bt_onc w, bt_pow, cnt]
    split <;> omega
theorem bt_twi {y : Nat → Nat} {r : Nat} : ∀ w, twi y w / 2 ^ r % 2 = 1 ↔ 1 < cnt y r w
  | 0 => ⟨fun h => absurd h (bt_zero r), fun h => absurd h (by simp [cnt])⟩
  | w + 1 => by
    rw [twi, bt_or, bt_and, bt_twi w, bt_onc w, bt_pow, cnt]
    split <;> omega
theorem onc_lt {y : Nat → Nat} {n : Nat} : ∀ w, (∀ k, k < w → y k < n) → onc y w < 2 ^ n
  | 0, _ => Nat.two_pow_pos n
  | w + 1, h => Nat.or_lt_two_pow (onc_lt w (fun k hk => h k (by omega))) (Nat.pow_lt_pow_right (by decide) (h w (by omega)))
theorem twi_sub (y : Nat → Nat) : ∀ w, sub (twi y w) (onc y w) := fun w k h => (bt_onc w).mpr (by have := (bt_twi w).mp h; omega)
/-- the rooms in which one is amiss -/
def bad (N y : Nat → Nat) (w : Nat) : Nat := onc y w &&& N 268 ||| twi y w &&& N 269
theorem bt_bad {N y : Nat → Nat} {r : Nat} : bad N y (N 271) / 2 ^ r % 2 = 1 ↔ amq N y r := by
  unfold bad amq
  rw [bt_or, bt_and, bt_and, bt_onc, bt_twi]
theorem bad_lt {N y : Nat → Nat} {w : Nat} (hN : HN N) : bad N y w < 2 ^ N 0 := by
  apply bs_lt
  intro k hk
  rcases bt_or.mp hk with z | z
  · exact bt_lt hN.2.2.2.1 (bt_and.mp z).2
  · exact bt_lt hN.2.2.2.2.1 (bt_and.mp z).2
abbrev cCo (n : Int32) : ai_C := .inr (1, [.ref 3, .ref 22, .ref 34, .ref 35, .int n])
theorem SC.co {h h1 h2 : ai_H} (S : SC h h1) (F : Fr 34 35 h1 h2) : SC h h2 := by
  obtain ⟨a, b, ⟨n, f, c⟩, m, d⟩ := S
  exact ⟨F.1.trans a, fun q x y z => (F.2 q (by omega)).trans (b q x y z), ⟨n, f, c.fr (fun q _ _ => F.2 q (by omega))⟩, m, (F.2 33 (by omega)).trans d⟩
theorem l6 {X : ai_X} {h : ai_H} {N : Nat → Nat} {n33 : Int32} (hN : HN N) (C : CH h 3 N) (d33 : h[33]? = some (cCo n33)) : ∀ (d : Nat) (k : Nat) (g : ai_H), N 271 < k + d → (k ≤ N 271) → (Fr 34 35 h g) → (AN g 34 8 k (wt N)) → Rk X am_6 2 [some (.ref 33), some (.int (nI k))] [] g (Qv (fun h1 => Fr 34 35 h h1 ∧ AN h1 34 8 (N 271) (wt N))) := by
  intro d
  induction d with
  | zero => intro k g hd hk F A; exfalso; omega
  | succ d ih =>
    intro k g hd hk F A
    obtain ⟨f, c34, hf⟩ := A
    have e33 := (F.2 33 (by omega)).trans d33
    have C1 := C.fr2 F (by omega)
    have e3 := C1.1
    have hw := hN.w
    have hn := hN.n
    refine rk_iload_n rfl rfl ?_
    refine rk_aload_n rfl rfl ?_
    refine rk_get rfl (by assumption) rfl ?_
    refine rk_get rfl (by assumption) rfl ?_
    refine rk_icmp_ge rfl rfl (fun hc6 => ?_) (fun hc6 => ?_)
    · replace hc6 := (nI_leI (by omega) (by omega)).mp hc6
      exact rk_return rfl rfl ⟨_, rfl, F, f, c34, (show k = N 271 by omega) ▸ hf⟩
    · replace hc6 := mt (nI_leI (by omega) (by omega)).mpr hc6
      refine rk_aload_n rfl rfl ?_
      refine rk_get rfl (by assumption) rfl ?_
      refine rk_iload_n rfl rfl ?_
      refine rk_aload_n rfl rfl ?_
      refine rk_get rfl (by assumption) rfl ?_
      refine rk_iload_n rfl rfl ?_
      refine rk_cv1e rfl rfl (by assumption) rfl rfl (Nat.le_of_ble_eq_true rfl) (Nat.le_of_ble_eq_true rfl) (s31N C1 (by omega) hN) ?_
      refine rk_iast rfl c34 (rfl) (by omega) (by decide) ?_
      refine hp_gen c34 (fun h1 g1 hk1 hl1 => ?_)
      replace c34 := g1
      refine rk_iinc rfl rfl (n_inc _) rfl ?_
      refine rk_goto rfl rfl ?_
      exact ih (k + 1) h1 (by omega) (by omega) (F.tr (Fr.mk1 hk1 hl1 (by omega) (by omega))) (AN.add c34 hf rfl)
theorem s6 {X : ai_X} {h : ai_H} {N : Nat → Nat} {n33 : Int32} (hN : HN N) (C : CH h 3 N) (d33 : h[33]? = some (cCo n33)) (A : ShI h 34 8) : Mt X am_6 [.ref 33] h (Qv (fun h1 => Fr 34 35 h h1 ∧ AN h1 34 8 (N 271) (wt N))) := by
  obtain ⟨f0, c34⟩ := A
  refine rk_iconst (v := nI 0) rfl (by decide) ?_
  refine rk_istore_n rfl (Nat.le_of_ble_eq_true rfl) rfl ?_
  exact l6 hN C d33 (N 271 + 1) 0 h (by omega) (by omega) Fr.rfl' ⟨f0, c34, fun k hk => absurd hk (by omega)⟩
theorem l8 {X : ai_X} {h : ai_H} {N : Nat → Nat} {n33 : Int32} (hN : HN N) (C : CH h 3 N) (d33 : h[33]? = some (cCo n33)) {t : Nat} {y : Nat → Nat} (ht : t < N 1) (hy : ∀ k, k < N 271 → y k < N 0) : ∀ (d : Nat) (k : Nat) (g : ai_H), N 271 < k + d → (k ≤ N 271) → (Fr 34 35 h g) → (AN g 34 8 (N 271) (fun j => if j < k then pl N (y j) t else y j)) → Rk X am_8 2 [some (.ref 33), some (.int (nI t)), some (.int (nI k))] [] g (Qv (fun h1 => Fr 34 35 h h1 ∧ AN h1 34 8 (N 271) (fun j => pl N (y j) t))) := by
  intro d
  induction d with
  | zero => intro k g hd hk F A; exfalso; omega
  | succ d ih =>
    intro k g hd hk F A
    obtain ⟨f, c34, hf⟩ := A
    replace hf : ∀ j, j < N 271 → f j = nI (if j < k then pl N (y j) t else y j) := hf
    have e33 := (F.2 33 (by omega)).trans d33
    have C1 := C.fr2 F (by omega)
    have e3 := C1.1
    have hw := hN.w
    have hn := hN.n
    refine rk_iload_n rfl rfl ?_
    refine rk_aload_n rfl rfl ?_
    refine rk_get rfl (by assumption) rfl ?_
    refine rk_get rfl (by assumption) rfl ?_
    refine rk_icmp_ge rfl rfl (fun hc6 => ?_) (fun hc6 => ?_)
    · replace hc6 := (nI_leI (by omega) (by omega)).mp hc6
      exact rk_return rfl rfl ⟨_, rfl, F, f, c34, fun j hj => by rw [hf j hj, if_pos (by omega)]⟩
    · replace hc6 := mt (nI_leI (by omega) (by omega)).mpr hc6
      refine rk_aload_n rfl rfl ?_
      refine rk_get rfl (by assumption) rfl ?_
      refine rk_iload_n rfl rfl ?_
      refine rk_aload_n rfl rfl ?_
      refine rk_get rfl (by assumption) rfl ?_
      refine rk_aload_n rfl rfl ?_
      refine rk_get rfl (by assumption) rfl ?_
      refine rk_iload_n rfl rfl ?_
      refine rk_iald rfl (by assumption) (rfl) (by omega) (by decide) ?_
      rw [hf k (by omega), if_neg (by omega)]
      refine rk_iload_n rfl rfl ?_
      refine rk_cv2e rfl rfl (by assumption) rfl rfl (Nat.le_of_ble_eq_true rfl) (Nat.le_of_ble_eq_true rfl) (s27N C1 hN (hy k (by omega)) ht) ?_
      refine rk_iast rfl c34 (rfl) (by omega) (by decide) ?_
      refine hp_gen c34 (fun h1 g1 hk1 hl1 => ?_)
      replace c34 := g1
      refine rk_iinc rfl rfl (n_inc _) rfl ?_
      refine rk_goto rfl rfl ?_
      exact ih (k + 1) h1 (by omega) (by omega) (F.tr (Fr.mk1 hk1 hl1 (by omega) (by omega))) (AN.step c34 hf rfl)
theorem s8 {X : ai_X} {h : ai_H} {N : Nat → Nat} {n33 : Int32} (hN : HN N) (C : CH h 3 N) (d33 : h[33]? = some (cCo n33)) {t : Nat} {y : Nat → Nat} (ht : t < N 1) (hy : ∀ k, k < N 271 → y k < N 0) (A : AN h 34 8 (N 271) y) : Mt X am_8 [.ref 33, .int (nI t)] h (Qv (fun h1 => Fr 34 35 h h1 ∧ AN h1 34 8 (N 271) (fun j => pl N (y j) t))) := by
  refine rk_iconst (v := nI 0) rfl (by decide) ?_
  refine rk_istore_n rfl (Nat.le_of_ble_eq_true rfl) rfl ?_
  exact l8 hN C d33 ht hy (N 271 + 1) 0 h (by omega) (by omega) Fr.rfl' (A.congr (fun k _ => (if_neg (by omega)).symm))
theorem s7 {X : ai_X} {h : ai_H} {n33 : Int32} {W k : Nat} {y : Nat → Nat} (d33 : h[33]? = some (cCo n33)) (A : AN h 34 8 W y) (hk : k < W) (hW : W ≤ 8) : Mt X am_7 [.ref 33, .int (nI k)] h (Qe (nI (y k)) h) := by
  obtain ⟨f, c34, hf⟩ := A
  refine rk_aload_n rfl rfl ?_
  refine rk_get rfl (by assumption) rfl ?_
  refine rk_iload_n rfl rfl ?_
  refine rk_iald rfl (by assumption) (rfl) (by omega) (by decide) ?_
  rw [hf k hk]
  exact rk_ireturn rfl rfl Qe_mk
theorem l10i {X : ai_X} {h : ai_H} {N : Nat → Nat} {n33 : Int32} (hN : HN N) (C : CH h 3 N) (d33 : h[33]? = some (cCo n33)) {y : Nat → Nat} (hy : ∀ k, k < N 271 → y k < N 0) (A : AN h 34 8 (N 271) y) {P : ai_O → Prop} {a : Nat} (ha : a < N 271) (z : tgi y a (N 271 - (a + 1)) (a + 1) = none → Rk X am_10 33 [some (.ref 33), some (.int (nI a)), some (.int (nI (N 271)))] [] h P) (z2 : ∀ b, tgi y a (N 271 - (a + 1)) (a + 1) = some b → P (some (.int (nI (10 * a + b))), h, 0, 0)) : ∀ (d : Nat) (b : Nat), N 271 < b + d → (b ≤ N 271) → (tgi y a (N 271 - (a + 1)) (a + 1) = tgi y a (N 271 - b) b) → Rk X am_10 11 [some (.ref 33), some (.int (nI a)), some (.int (nI b))] [] h (P) := by
  intro d
  induction d with
  | zero => intro b hd hb hT; exfalso; omega
  | succ d ih =>
    intro b hd hb hT
    obtain ⟨f, c34, hf⟩ := id A
    have d3 := C.1
    have hw := hN.w
    have hn := hN.n
    have y1 := hy a ha
    refine rk_iload_n rfl rfl ?_
    refine rk_aload_n rfl rfl ?_
    refine rk_get rfl (by assumption) rfl ?_
    refine rk_get rfl (by assumption) rfl ?_
    refine rk_icmp_ge rfl rfl (fun hc15 => ?_) (fun hc15 => ?_)
    · replace hc15 := (nI_leI (by omega) (by omega)).mp hc15
      have hb2 : b = N 271 := by omega
      subst hb2
      exact z (by rw [hT, Nat.sub_self]; rfl)
    · replace hc15 := mt (nI_leI (by omega) (by omega)).mpr hc15
      refine rk_aload_n rfl rfl ?_
      refine rk_get rfl (by assumption) rfl ?_
      refine rk_iload_n rfl rfl ?_
      refine rk_iald rfl (by assumption) (rfl) (by omega) (by decide) ?_
      rw [hf a ha]
      refine rk_aload_n rfl rfl ?_
      refine rk_get rfl (by assumption) rfl ?_
      refine rk_iload_n rfl rfl ?_
      refine rk_iald rfl (by assumption) (rfl) (by omega) (by decide) ?_
      rw [hf b (by omega)]
      have y2 := hy b (by omega)
      refine rk_icmp_ne rfl rfl (fun hc24 => ?_) (fun hc24 => ?_)
      · replace hc24 := mt (nI_eq (by omega) (by omega)).mpr hc24
        have hm : tgi y a (N 271 - b) b = tgi y a (N 271 - (b + 1)) (b + 1) := by rw [show N 271 - b = N 271 - (b + 1) + 1 by omega, tgi_f hc24]
        refine rk_iinc rfl rfl (n_inc _) rfl ?_
        refine rk_goto rfl rfl ?_
        exact ih (b + 1) (by omega) (by omega) (hT.trans hm)
      · replace hc24 := Decidable.not_not.mp hc24
        replace hc24 := (nI_eq (by omega) (by omega)).mp hc24
        have hm : tgi y a (N 271 - b) b = some b := by rw [show N 271 - b = N 271 - (b + 1) + 1 by omega, tgi_t hc24]
        refine rk_bipush (v := nI 10) rfl (by decide) ?_
        refine rk_iload_n rfl rfl ?_
        refine rk_imul rfl (pk_mul _ _) ?_
        refine rk_iload_n rfl rfl ?_
        refine rk_iadd rfl (nI_add _ _) ?_
        exact rk_ireturn rfl rfl (z2 b (hT.trans hm))
theorem l10 {X : ai_X} {h : ai_H} {N : Nat → Nat} {n33 : Int32} (hN : HN N) (C : CH h 3 N) (d33 : h[33]? = some (cCo n33)) {y : Nat → Nat} (hy : ∀ k, k < N 271 → y k < N 0) (A : AN h 34 8 (N 271) y) : ∀ (d : Nat) (a : Nat) (c2 : Option Value), N 271 < a + d → (a ≤ N 271) → Rk X am_10 2 [some (.ref 33), some (.int (nI a)), c2] [] h (Qe (tgo y (N 271) (N 271 - a) a) h) := by
  intro d
  induction d with
  | zero => intro a c2 hd ha; exfalso; omega
  | succ d ih =>
    intro a c2 hd ha
    obtain ⟨f, c34, hf⟩ := id A
    have d3 := C.1
    have hw := hN.w
    have hn := hN.n
    refine rk_iload_n rfl rfl ?_
    refine rk_aload_n rfl rfl ?_
    refine rk_get rfl (by assumption) rfl ?_
    refine rk_get rfl (by assumption) rfl ?_
    refine rk_icmp_ge rfl rfl (fun hc6 => ?_) (fun hc6 => ?_)
    · replace hc6 := (nI_leI (by omega) (by omega)).mp hc6
      refine rk_iconst (v := (-1)) rfl (by decide) ?_
      exact rk_ireturn rfl rfl (Qe_of (by rw [show N 271 - a = 0 by omega]; rfl))
    · replace hc6 := mt (nI_leI (by omega) (by omega)).mpr hc6
      refine rk_iload_n rfl rfl ?_
      refine rk_iconst (v := nI 1) rfl (by decide) ?_
      refine rk_iadd rfl (nI_add _ _) ?_
      refine rk_istore_n rfl (Nat.le_of_ble_eq_true rfl) rfl ?_
      refine l10i hN C d33 hy A (by omega) ?_ ?_ (N 271 + 1) (a + 1) (by omega) (by omega) rfl
      · intro hT
        refine rk_iinc rfl rfl (n_inc _) rfl ?_
        refine rk_goto rfl rfl ?_
        rw [show N 271 - a = N 271 - (a + 1) + 1 by omega, tgo_n hT]
        exact ih (a + 1) _ (by omega) (by omega)
      · intro b hT
        rw [show N 271 - a = N 271 - (a + 1) + 1 by omega, tgo_s hT]
        exact Qe_mk
theorem s10 {X : ai_X} {h : ai_H} {N : Nat → Nat} {n33 : Int32} (hN : HN N) (C : CH h 3 N) (d33 : h[33]? = some (cCo n33)) {y : Nat → Nat} (hy : ∀ k, k < N 271 → y k < N 0) (A : AN h 34 8 (N 271) y) : Mt X am_10 [.ref 33] h (Qe (tgo y (N 271) (N 271) 0) h) := by
  refine rk_iconst (v := nI 0) rfl (by decide) ?_
  refine rk_istore_n rfl (Nat.le_of_ble_eq_true rfl) rfl ?_
  exact l10 hN C d33 hy A (N 271 + 1) 0 _ (by omega) (by omega)
theorem l11 {X : ai_X} {h : ai_H} {N : Nat → Nat} {n33 : Int32} {p n W : Nat} {y : Nat → Nat} (hN : HN N) (C : CH h 3 N) (d33 : h[33]? = some (cCo n33)) (hy : ∀ k, k < W → y k < N 0) (A : AN h p n W y) (hW : W ≤ n) (hn : n ≤ 8) : ∀ (d : Nat) (k : Nat), W < k + d → (k ≤ W) → Rk X am_11 6 [some (.ref 33), some (.ref p), some (.int (nI W)), some (.int (nI (onc y k))), some (.int (nI (twi y k))), some (.int (nI k))] [] h (Qe (nI (bad N y W)) h) := by
  intro d
  induction d with
  | zero => intro k hd hk; exfalso; omega
  | succ d ih =>
    intro k hd hk
    obtain ⟨f, c34, hf⟩ := id A
    have d3 := C.1
    have h14 := hN.n
    refine rk_iload rfl rfl ?_
    refine rk_iload_n rfl rfl ?_
    refine rk_icmp_ge rfl rfl (fun hc8 => ?_) (fun hc8 => ?_)
    · replace hc8 := (nI_leI (by omega) (by omega)).mp hc8
      refine rk_iload_n rfl rfl ?_
      refine rk_aload_n rfl rfl ?_
      refine rk_get rfl (by assumption) rfl ?_
      refine rk_get rfl (by assumption) rfl ?_
      refine rk_iand rfl (b_andU _ _) ?_
      refine rk_iload rfl rfl ?_
      refine rk_aload_n rfl rfl ?_
      refine rk_get rfl (by assumption) rfl ?_
      refine rk_get rfl (by assumption) rfl ?_
      refine rk_iand rfl (b_andU _ _) ?_
      refine rk_ior rfl (b_orU _ _) ?_
      exact rk_ireturn rfl rfl (Qe_of (by rw [show k = W by omega]; rfl))
    · replace hc8 := mt (nI_leI (by omega) (by omega)).mpr hc8
      refine rk_iload rfl rfl ?_
      refine rk_aload_n rfl rfl ?_
      refine rk_alen (w := nI n) rfl c34 (Nat.le_of_ble_eq_true rfl) rfl ?_
      refine rk_icmp_ge rfl rfl (fun hc12 => ?_) (fun hc12 => ?_)
      · replace hc12 := (nI_leI (by omega) (by omega)).mp hc12
        omega
      · replace hc12 := mt (nI_leI (by omega) (by omega)).mpr hc12
        refine rk_iload rfl rfl ?_
        refine rk_iload_n rfl rfl ?_
        refine rk_iconst (v := nI 1) rfl (by decide) ?_
        refine rk_aload_n rfl rfl ?_
        refine rk_iload rfl rfl ?_
        refine rk_iald rfl (by assumption) (rfl) (by omega) (by omega) ?_
        rw [hf k (by omega)]
        have y1 := hy k (by omega)
        refine rk_ishl rfl (b_1shlU (by omega)) ?_
        refine rk_iand rfl (b_andU _ _) ?_
        refine rk_ior rfl (b_orU _ _) ?_
        refine rk_istore rfl (Nat.le_of_ble_eq_true rfl) rfl ?_
        refine rk_iload_n rfl rfl ?_
        refine rk_iconst (v := nI 1) rfl (by decide) ?_
        refine rk_aload_n rfl rfl ?_
        refine rk_iload rfl rfl ?_
        refine rk_iald rfl (by assumption) (rfl) (by omega) (by omega) ?_
        rw [hf k (by omega)]
        refine rk_ishl rfl (b_1shlU (by omega)) ?_
        refine rk_ior rfl (b_orU _ _) ?_
        refine rk_istore_n rfl (Nat.le_of_ble_eq_true rfl) rfl ?_
        refine rk_iinc rfl rfl (n_inc _) rfl ?_
        refine rk_goto rfl rfl ?_
        exact ih (k + 1) (by omega) (by omega)
theorem s11 {X : ai_X} {h : ai_H} {N : Nat → Nat} {n33 : Int32} {p n W : Nat} {y : Nat → Nat} (hN : HN N) (C : CH h 3 N) (d33 : h[33]? = some (cCo n33)) (hy : ∀ k, k < W → y k < N 0) (A : AN h p n W y) (hW : W ≤ n) (hn : n ≤ 8) : Mt X am_11 [.ref 33, .ref p, .int (nI W)] h (Qe (nI (bad N y W)) h) := by
  refine rk_iconst (v := nI 0) rfl (by decide) ?_
  refine rk_istore_n rfl (Nat.le_of_ble_eq_true rfl) rfl ?_
  refine rk_iconst (v := nI 0) rfl (by decide) ?_
  refine rk_istore rfl (Nat.le_of_ble_eq_true rfl) rfl ?_
  refine rk_iconst (v := nI 0) rfl (by decide) ?_
  refine rk_istore rfl (Nat.le_of_ble_eq_true rfl) rfl ?_
  exact l11 hN C d33 hy A hW hn (W + 1) 0 (by omega) (by omega)
theorem l12 {X : ai_X} {h : ai_H} {N : Nat → Nat} {n33 : Int32} (hN : HN N) (C : CH h 3 N) (d33 : h[33]? = some (cCo n33)) {y : Nat → Nat} (hy : ∀ k, k < N 271 → y k < N 0) (A : AN h 34 8 (N 271) y) : ∀ (d : Nat) (r : Nat), N 0 < r + d → (r ≤ N 0) → Rk X am_12 10 [some (.ref 33), some (.int (nI (bad N y (N 271)))), some (.int (nI r))] [] h (Qe (fw (amq N y) nI (N 0 - r) r) h) := by
  intro d
  induction d with
  | zero => intro r hd hr; exfalso; omega
  | succ d ih =>
    intro r hd hr
    obtain ⟨f, c34, hf⟩ := id A
    have d3 := C.1
    have hw := hN.w
    have hn := hN.n
    have hb := bad_lt (y := y) (w := N 271) hN
    have hp := hN.p14
    refine rk_iload_n rfl rfl ?_
    refine rk_aload_n rfl rfl ?_
    refine rk_get rfl (by assumption) rfl ?_
    refine rk_get rfl (by assumption) rfl ?_
    refine rk_icmp_ge rfl rfl (fun hc14 => ?_) (fun hc14 => ?_)
    · replace hc14 := (nI_leI (by omega) (by omega)).mp hc14
      refine rk_iconst (v := (-1)) rfl (by decide) ?_
      exact rk_ireturn rfl rfl (Qe_of (by rw [show N 0 - r = 0 by omega]; rfl))
    · replace hc14 := mt (nI_leI (by omega) (by omega)).mpr hc14
      refine rk_iload_n rfl rfl ?_
      refine rk_iload_n rfl rfl ?_
      refine rk_iushr rfl (b_ushr (by omega) (by omega)) ?_
      refine rk_iconst (v := nI 1) rfl (by decide) ?_
      refine rk_iand rfl (b_and1U _) ?_
      refine rk_if_eq rfl rfl (fun hc20 => ?_) (fun hc20 => ?_)
      · replace hc20 := (n0_eq (by omega)).mp hc20
        have hm : fw (amq N y) nI (N 0 - r) r = fw (amq N y) nI (N 0 - (r + 1)) (r + 1) := by rw [show N 0 - r = N 0 - (r + 1) + 1 by omega, fw_f (fun z => by have := bt_bad.mpr z; omega)]
        refine rk_iinc rfl rfl (n_inc _) rfl ?_
        refine rk_goto rfl rfl ?_
        rw [hm]
        exact ih (r + 1) (by omega) (by omega)
      · replace hc20 := mt (n0_eq (by omega)).mpr hc20
        have hm : fw (amq N y) nI (N 0 - r) r = nI r := by rw [show N 0 - r = N 0 - (r + 1) + 1 by omega, fw_t (bt_bad.mp (by omega))]
        refine rk_iload_n rfl rfl ?_
        exact rk_ireturn rfl rfl (Qe_of hm.symm)
theorem s12 {X : ai_X} {h : ai_H} {N : Nat → Nat} {n33 : Int32} (hN : HN N) (C : CH h 3 N) (d33 : h[33]? = some (cCo n33)) {y : Nat → Nat} (hy : ∀ k, k < N 271 → y k < N 0) (A : AN h 34 8 (N 271) y) : Mt X am_12 [.ref 33] h (Qe (fw (amq N y) nI (N 0) 0) h) := by
  obtain ⟨f, c34, hf⟩ := id A
  have d3 := C.1
  have hw := hN.w
  have hn := hN.n
  refine rk_aload_n rfl rfl ?_
  refine rk_aload_n rfl rfl ?_
  refine rk_get rfl (by assumption) rfl ?_
  refine rk_aload_n rfl rfl ?_
  refine rk_get rfl (by assumption) rfl ?_
  refine rk_get rfl (by assumption) rfl ?_
  refine rk_cv2e rfl rfl (by assumption) rfl rfl (Nat.le_of_ble_eq_true rfl) (Nat.le_of_ble_eq_true rfl) (s11 hN C d33 hy A hw (by omega)) ?_
  refine rk_istore_n rfl (Nat.le_of_ble_eq_true rfl) rfl ?_
  refine rk_iconst (v := nI 0) rfl (by decide) ?_
  refine rk_istore_n rfl (Nat.le_of_ble_eq_true rfl) rfl ?_
  exact l12 hN C d33 hy A (N 0 + 1) 0 (by omega) (by omega)
theorem l225i {X : ai_X} {h : ai_H} {v A : Nat → Int32} {nu : Nat → Int64} {i L m : Nat} {N x : Nat → Nat} (c0 : h[52]? = some (cMdl v)) (c1 : h[53]? = some (cI 2346 A)) (c4 : h[79]? = some (cJ 160 nu)) (hN : HN N) (M : MH A N) (hi : i < 4) (hx : ∀ k, k < L → x k < N 1 ∧ nu (40 * i + k) = (nI (x k)).toInt64) (hm : m ≤ L) (hL : L ≤ 40) {P : ai_O → Prop} {a : Nat} (ha : a < N 271) (z : tgi (fun w => bh N x (wt N w) m) a (N 271 - (a + 1)) (a + 1) = none → Rk X am_225 47 [some (.ref 52), some (.int (nI i)), some (.int (nI m)), some (.int (nI a)), some (.int (nI (N 271)))] [] h P) (z2 : ∀ b, tgi (fun w => bh N x (wt N w) m) a (N 271 - (a + 1)) (a + 1) = some b → P (some (.int (nI (10 * a + b))), h, 0, 0)) : ∀ (d : Nat) (b : Nat), N 271 < b + d → (b ≤ N 271) → (tgi (fun w => bh N x (wt N w) m) a (N 271 - (a + 1)) (a + 1) = tgi (fun w => bh N x (wt N w) m) a (N 271 - b) b) → Rk X am_225 12 [some (.ref 52), some (.int (nI i)), some (.int (nI m)), some (.int (nI a)), some (.int (nI b))] [] h (P) := by
  intro d
  induction d with
  | zero => intro b hd hb hT; exfalso; omega
  | succ d ih =>
    intro b hd hb hT
    obtain ⟨a0, a1, a268, a269, a270, a271, apl, apc, aot, asg, awt⟩ := id M
    have hw := hN.w
    have hn := hN.n
    have hy : ∀ w, w < N 271 → bh N x (wt N w) m < N 0 := fun w hw => bh_lt hN (hN.xwt hw) m (fun j hj => (hx j (by omega)).1)
    have y1 := hy a ha
    refine rk_iload rfl rfl ?_
    refine rk_aload_n rfl rfl ?_
    refine rk_get rfl (by assumption) rfl ?_
    refine rk_sipush (v := nI 271) rfl (by decide) ?_
    refine rk_iald rfl (by assumption) (rfl) (by omega) (by decide) ?_
    rw [a271]
    refine rk_icmp_ge rfl rfl (fun hc17 => ?_) (fun hc17 => ?_)
    · replace hc17 := (nI_leI (by omega) (by omega)).mp hc17
      have hb2 : b = N 271 := by omega
      subst hb2
      exact z (by rw [hT, Nat.sub_self]; rfl)
    · replace hc17 := mt (nI_leI (by omega) (by omega)).mpr hc17
      refine rk_aload_n rfl rfl ?_
      refine rk_iload_n rfl rfl ?_
      refine rk_aload_n rfl rfl ?_
      refine rk_get rfl (by assumption) rfl ?_
      refine rk_sipush (v := nI 272) rfl (by decide) ?_
      refine rk_iload_n rfl rfl ?_
      refine rk_iadd rfl (nI_add _ _) ?_
      refine rk_iald rfl (by assumption) (rfl) (by omega) (by decide) ?_
      rw [awt a ha]
      refine rk_iload_n rfl rfl ?_
      refine rk_cv3e rfl rfl (by assumption) rfl rfl (Nat.le_of_ble_eq_true rfl) (Nat.le_of_ble_eq_true rfl) (s223 c0 c1 c4 hN M hi hx hm hL (hN.xwt (by omega))) ?_
      refine rk_aload_n rfl rfl ?_
      refine rk_iload_n rfl rfl ?_
      refine rk_aload_n rfl rfl ?_
      refine rk_get rfl (by assumption) rfl ?_
      refine rk_sipush (v := nI 272) rfl (by decide) ?_
      refine rk_iload rfl rfl ?_
      refine rk_iadd rfl (nI_add _ _) ?_
      refine rk_iald rfl (by assumption) (rfl) (by omega) (by decide) ?_
      rw [awt b (by omega)]
      have y2 := hy b (by omega)
      refine rk_iload_n rfl rfl ?_
      refine rk_cv3e rfl rfl (by assumption) rfl rfl (Nat.le_of_ble_eq_true rfl) (Nat.le_of_ble_eq_true rfl) (s223 c0 c1 c4 hN M hi hx hm hL (hN.xwt (by omega))) ?_
      refine rk_icmp_ne rfl rfl (fun hc38 => ?_) (fun hc38 => ?_)
      · replace hc38 := mt (nI_eq (by omega) (by omega)).mpr hc38
        have hm2 : tgi (fun w => bh N x (wt N w) m) a (N 271 - b) b = tgi (fun w => bh N x (wt N w) m) a (N 271 - (b + 1)) (b + 1) := by rw [show N 271 - b = N 271 - (b + 1) + 1 by omega, tgi_f (y := (fun w => bh N x (wt N w) m)) hc38]
        refine rk_iinc rfl rfl (n_inc _) rfl ?_
        refine rk_goto rfl rfl ?_
        exact ih (b + 1) (by omega) (by omega) (hT.trans hm2)
      · replace hc38 := Decidable.not_not.mp hc38
        replace hc38 := (nI_eq (by omega) (by omega)).mp hc38
        have hm2 : tgi (fun w => bh N x (wt N w) m) a (N 271 - b) b = some b := by rw [show N 271 - b = N 271 - (b + 1) + 1 by omega, tgi_t (y := (fun w => bh N x (wt N w) m)) hc38]
        refine rk_bipush (v := nI 10) rfl (by decide) ?_
        refine rk_iload_n rfl rfl ?_
        refine rk_imul rfl (pk_mul _ _) ?_
        refine rk_iload rfl rfl ?_
        refine rk_iadd rfl (nI_add _ _) ?_
        exact rk_ireturn rfl rfl (z2 b (hT.trans hm2))
theorem l225 {X : ai_X} {h : ai_H} {v A : Nat → Int32} {nu : Nat → Int64} {i L m : Nat} {N x : Nat → Nat} (c0 : h[52]? = some (cMdl v)) (c1 : h[53]? = some (cI 2346 A)) (c4 : h[79]? = some (cJ 160 nu)) (hN : HN N) (M : MH A N) (hi : i < 4) (hx : ∀ k, k < L → x k < N 1 ∧ nu (40 * i + k) = (nI (x k)).toInt64) (hm : m ≤ L) (hL : L ≤ 40) : ∀ (d : Nat) (a : Nat) (c2 : Option Value), N 271 < a + d → (a ≤ N 271) → Rk X am_225 2 [some (.ref 52), some (.int (nI i)), some (.int (nI m)), some (.int (nI a)), c2] [] h (Qe (tgo (fun w => bh N x (wt N w) m) (N 271) (N 271 - a) a) h) := by
  intro d
  induction d with
  | zero => intro a c2 hd ha; exfalso; omega
  | succ d ih =>
    intro a c2 hd ha
    obtain ⟨a0, a1, a268, a269, a270, a271, apl, apc, aot, asg, awt⟩ := id M
    have hw := hN.w
    have hn := hN.n
    have hy : ∀ w, w < N 271 → bh N x (wt N w) m < N 0 := fun w hw => bh_lt hN (hN.xwt hw) m (fun j hj => (hx j (by omega)).1)
    refine rk_iload_n rfl rfl ?_
    refine rk_aload_n rfl rfl ?_
    refine rk_get rfl (by assumption) rfl ?_
    refine rk_sipush (v := nI 271) rfl (by decide) ?_
    refine rk_iald rfl (by assumption) (rfl) (by omega) (by decide) ?_
    rw [a271]
    refine rk_icmp_ge rfl rfl (fun hc7 => ?_) (fun hc7 => ?_)
    · replace hc7 := (nI_leI (by omega) (by omega)).mp hc7
      refine rk_iconst (v := (-1)) rfl (by decide) ?_
      exact rk_ireturn rfl rfl (Qe_of (by rw [show N 271 - a = 0 by omega]; rfl))
    · replace hc7 := mt (nI_leI (by omega) (by omega)).mpr hc7
      refine rk_iload_n rfl rfl ?_
      refine rk_iconst (v := nI 1) rfl (by decide) ?_
      refine rk_iadd rfl (nI_add _ _) ?_
      refine rk_istore rfl (Nat.le_of_ble_eq_true rfl) rfl ?_
      refine l225i c0 c1 c4 hN M hi hx hm hL (by omega) ?_ ?_ (N 271 + 1) (a + 1) (by omega) (by omega) rfl
      · intro hT
        refine rk_iinc rfl rfl (n_inc _) rfl ?_
        refine rk_goto rfl rfl ?_
        rw [show N 271 - a = N 271 - (a + 1) + 1 by omega, tgo_n hT]
        exact ih (a + 1) _ (by omega) (by omega)
      · intro b hT
        rw [show N 271 - a = N 271 - (a + 1) + 1 by omega, tgo_s hT]
        exact Qe_mk
theorem s225 {X : ai_X} {h : ai_H} {v A : Nat → Int32} {nu : Nat → Int64} {i L m : Nat} {N x : Nat → Nat} (c0 : h[52]? = some (cMdl v)) (c1 : h[53]? = some (cI 2346 A)) (c4 : h[79]? = some (cJ 160 nu)) (hN : HN N) (M : MH A N) (hi : i < 4) (hx : ∀ k, k < L → x k < N 1 ∧ nu (40 * i + k) = (nI (x k)).toInt64) (hm : m ≤ L) (hL : L ≤ 40) : Mt X am_225 [.ref 52, .int (nI i), .int (nI m)] h (Qe (tgo (fun w => bh N x (wt N w) m) (N 271) (N 271) 0) h) := by
  refine rk_iconst (v := nI 0) rfl (by decide) ?_
  refine rk_istore_n rfl (Nat.le_of_ble_eq_true rfl) rfl ?_
  exact l225 c0 c1 c4 hN M hi hx hm hL (N 271 + 1) 0 _ (by omega) (by omega)
theorem l227i {X : ai_X} {h : ai_H} {v A : Nat → Int32} {nu : Nat → Int64} {i L m : Nat} {N x : Nat → Nat} (c0 : h[52]? = some (cMdl v)) (c1 : h[53]? = some (cI 2346 A)) (c4 : h[79]? = some (cJ 160 nu)) (hN : HN N) (M : MH A N) (hi : i < 4) (hx : ∀ k, k < L → x k < N 1 ∧ nu (40 * i + k) = (nI (x k)).toInt64) (hm : m ≤ L) (hL : L ≤ 40) {P : ai_O → Prop} {r : Nat} (hr : r < N 0) (z : Rk X am_227 38 [some (.ref 52), some (.int (nI i)), some (.int (nI m)), some (.int (nI r)), some (.int (nI (cnt (fun w => bh N x (wt N w) m) r (N 271)))), some (.int (nI (N 271)))] [] h P) : ∀ (d : Nat) (w : Nat), N 271 < w + d → (w ≤ N 271) → Rk X am_227 12 [some (.ref 52), some (.int (nI i)), some (.int (nI m)), some (.int (nI r)), some (.int (nI (cnt (fun w => bh N x (wt N w) m) r w))), some (.int (nI w))] [] h (P) := by
  intro d
  induction d with
  | zero => intro w hd hwk; exfalso; omega
  | succ d ih =>
    intro w hd hwk
    obtain ⟨a0, a1, a268, a269, a270, a271, apl, apc, aot, asg, awt⟩ := id M
    have hw := hN.w
    have hn := hN.n
    have hy : ∀ w, w < N 271 → bh N x (wt N w) m < N 0 := fun w hw => bh_lt hN (hN.xwt hw) m (fun j hj => (hx j (by omega)).1)
    refine rk_iload rfl rfl ?_
    refine rk_aload_n rfl rfl ?_
    refine rk_get rfl (by assumption) rfl ?_
    refine rk_sipush (v := nI 271) rfl (by decide) ?_
    refine rk_iald rfl (by assumption) (rfl) (by omega) (by decide) ?_
    rw [a271]
    refine rk_icmp_ge rfl rfl (fun hc17 => ?_) (fun hc17 => ?_)
    · replace hc17 := (nI_leI (by omega) (by omega)).mp hc17
      rw [show w = N 271 by omega]
      exact z
    · replace hc17 := mt (nI_leI (by omega) (by omega)).mpr hc17
      refine rk_iload rfl rfl ?_
      refine rk_aload_n rfl rfl ?_
      refine rk_iload_n rfl rfl ?_
      refine rk_aload_n rfl rfl ?_
      refine rk_get rfl (by assumption) rfl ?_
      refine rk_sipush (v := nI 272) rfl (by decide) ?_
      refine rk_iload rfl rfl ?_
      refine rk_iadd rfl (nI_add _ _) ?_
      refine rk_iald rfl (by assumption) (rfl) (by omega) (by decide) ?_
      rw [awt w (by omega)]
      have y1 := hy w (by omega)
      refine rk_iload_n rfl rfl ?_
      refine rk_cv3e rfl rfl (by assumption) rfl rfl (Nat.le_of_ble_eq_true rfl) (Nat.le_of_ble_eq_true rfl) (s223 c0 c1 c4 hN M hi hx hm hL (hN.xwt (by omega))) ?_
      refine rk_iload_n rfl rfl ?_
      refine rk_icmp_ne rfl rfl (fun hc30 => ?_) (fun hc30 => ?_)
      · replace hc30 := mt (nI_eq (by omega) (by omega)).mpr hc30
        have hm2 : cnt (fun w => bh N x (wt N w) m) r (w + 1) = cnt (fun w => bh N x (wt N w) m) r w + 0 := by rw [cnt, if_neg hc30]
        refine rk_iconst (v := nI 0) rfl (by decide) ?_
        refine rk_iadd rfl (nI_add _ _) ?_
        refine rk_istore rfl (Nat.le_of_ble_eq_true rfl) rfl ?_
        refine rk_iinc rfl rfl (n_inc _) rfl ?_
        refine rk_goto rfl rfl ?_
        have z := ih (w + 1) (by omega) (by omega)
        rw [hm2] at z
        exact z
      · replace hc30 := Decidable.not_not.mp hc30
        replace hc30 := (nI_eq (by omega) (by omega)).mp hc30
        have hm2 : cnt (fun w => bh N x (wt N w) m) r (w + 1) = cnt (fun w => bh N x (wt N w) m) r w + 1 := by rw [cnt, if_pos hc30]
        refine rk_iconst (v := nI 1) rfl (by decide) ?_
        refine rk_goto rfl rfl ?_
        refine rk_iadd rfl (nI_add _ _) ?_
        refine rk_istore rfl (Nat.le_of_ble_eq_true rfl) rfl ?_
        refine rk_iinc rfl rfl (n_inc _) rfl ?_
        refine rk_goto rfl rfl ?_
        have z := ih (w + 1) (by omega) (by omega)
        rw [hm2] at z
        exact z
theorem l227 {X : ai_X} {h : ai_H} {v A : Nat → Int32} {nu : Nat → Int64} {i L m : Nat} {N x : Nat → Nat} (c0 : h[52]? = some (cMdl v)) (c1 : h[53]? = some (cI 2346 A)) (c4 : h[79]? = some (cJ 160 nu)) (hN : HN N) (M : MH A N) (hi : i < 4) (hx : ∀ k, k < L → x k < N 1 ∧ nu (40 * i + k) = (nI (x k)).toInt64) (hm : m ≤ L) (hL : L ≤ 40) : ∀ (d : Nat) (r : Nat) (q4 q5 : Option Value), N 0 < r + d → (r ≤ N 0) → Rk X am_227 2 [some (.ref 52), some (.int (nI i)), some (.int (nI m)), some (.int (nI r)), q4, q5] [] h (Qe (fw (amq N (fun w => bh N x (wt N w) m)) nI (N 0 - r) r) h) := by
  intro d
  induction d with
  | zero => intro r q4 q5 hd hr; exfalso; omega
  | succ d ih =>
    intro r q4 q5 hd hr
    obtain ⟨a0, a1, a268, a269, a270, a271, apl, apc, aot, asg, awt⟩ := id M
    have hw := hN.w
    have hn := hN.n
    have hy : ∀ w, w < N 271 → bh N x (wt N w) m < N 0 := fun w hw => bh_lt hN (hN.xwt hw) m (fun j hj => (hx j (by omega)).1)
    have h1 := hN.bar
    have h2 := hN.two
    have h3 := cnt_le (fun w => bh N x (wt N w) m) r (N 271)
    refine rk_iload_n rfl rfl ?_
    refine rk_aload_n rfl rfl ?_
    refine rk_get rfl (by assumption) rfl ?_
    refine rk_iconst (v := nI 0) rfl (by decide) ?_
    refine rk_iald rfl (by assumption) (rfl) (by omega) (by decide) ?_
    rw [a0]
    refine rk_icmp_ge rfl rfl (fun hc7 => ?_) (fun hc7 => ?_)
    · replace hc7 := (nI_leI (by omega) (by omega)).mp hc7
      refine rk_iconst (v := (-1)) rfl (by decide) ?_
      exact rk_ireturn rfl rfl (Qe_of (by rw [show N 0 - r = 0 by omega]; rfl))
    · replace hc7 := mt (nI_leI (by omega) (by omega)).mpr hc7
      refine rk_iconst (v := nI 0) rfl (by decide) ?_
      refine rk_istore rfl (Nat.le_of_ble_eq_true rfl) rfl ?_
      refine rk_iconst (v := nI 0) rfl (by decide) ?_
      refine rk_istore rfl (Nat.le_of_ble_eq_true rfl) rfl ?_
      refine l227i c0 c1 c4 hN M hi hx hm hL (by omega) ?_ (N 271 + 1) 0 (by omega) (by omega)
      refine rk_iload rfl rfl ?_
      refine rk_if_le rfl rfl (fun hc39 => ?_) (fun hc39 => ?_)
      · replace hc39 := (n0_le (by omega)).mp hc39
        refine rk_iload rfl rfl ?_
        refine rk_iconst (v := nI 1) rfl (by decide) ?_
        refine rk_icmp_le rfl rfl (fun hc52 => ?_) (fun hc52 => ?_)
        · replace hc52 := (nI_leI (by omega) (by omega)).mp hc52
          have hm2 : fw (amq N (fun w => bh N x (wt N w) m)) nI (N 0 - r) r = fw (amq N (fun w => bh N x (wt N w) m)) nI (N 0 - (r + 1)) (r + 1) := by rw [show N 0 - r = N 0 - (r + 1) + 1 by omega, fw_f (q := amq N (fun w => bh N x (wt N w) m)) (fun z => by unfold amq at z; omega)]
          refine rk_iinc rfl rfl (n_inc _) rfl ?_
          refine rk_goto rfl rfl ?_
          rw [hm2]
          exact ih (r + 1) _ _ (by omega) (by omega)
        · replace hc52 := mt (nI_leI (by omega) (by omega)).mpr hc52
          refine rk_aload_n rfl rfl ?_
          refine rk_get rfl (by assumption) rfl ?_
          refine rk_sipush (v := nI 269) rfl (by decide) ?_
          refine rk_iald rfl (by assumption) (rfl) (by omega) (by decide) ?_
          rw [a269]
          refine rk_iload_n rfl rfl ?_
          refine rk_ishr rfl (b_shr (by omega) (by omega)) ?_
          refine rk_iconst (v := nI 1) rfl (by decide) ?_
          refine rk_iand rfl (b_and1U _) ?_
          refine rk_iconst (v := nI 1) rfl (by decide) ?_
          refine rk_icmp_ne rfl rfl (fun hc62 => ?_) (fun hc62 => ?_)
          · replace hc62 := mt (nI_eq (by omega) (by omega)).mpr hc62
            have hm2 : fw (amq N (fun w => bh N x (wt N w) m)) nI (N 0 - r) r = fw (amq N (fun w => bh N x (wt N w) m)) nI (N 0 - (r + 1)) (r + 1) := by rw [show N 0 - r = N 0 - (r + 1) + 1 by omega, fw_f (q := amq N (fun w => bh N x (wt N w) m)) (fun z => by unfold amq at z; omega)]
            refine rk_iinc rfl rfl (n_inc _) rfl ?_
            refine rk_goto rfl rfl ?_
            rw [hm2]
            exact ih (r + 1) _ _ (by omega) (by omega)
          · replace hc62 := Decidable.not_not.mp hc62
            replace hc62 := (nI_eq (by omega) (by omega)).mp hc62
            have hm2 : fw (amq N (fun w => bh N x (wt N w) m)) nI (N 0 - r) r = nI r := by rw [show N 0 - r = N 0 - (r + 1) + 1 by omega, fw_t (q := amq N (fun w => bh N x (wt N w) m)) (by unfold amq; omega)]
            refine rk_iload_n rfl rfl ?_
            exact rk_ireturn rfl rfl (Qe_of hm2.symm)
      · replace hc39 := mt (n0_le (by omega)).mpr hc39
        refine rk_aload_n rfl rfl ?_
        refine rk_get rfl (by assumption) rfl ?_
        refine rk_sipush (v := nI 268) rfl (by decide) ?_
        refine rk_iald rfl (by assumption) (rfl) (by omega) (by decide) ?_
        rw [a268]
        refine rk_iload_n rfl rfl ?_
        refine rk_ishr rfl (b_shr (by omega) (by omega)) ?_
        refine rk_iconst (v := nI 1) rfl (by decide) ?_
        refine rk_iand rfl (b_and1U _) ?_
        refine rk_iconst (v := nI 1) rfl (by decide) ?_
        refine rk_icmp_eq rfl rfl (fun hc49 => ?_) (fun hc49 => ?_)
        · replace hc49 := (nI_eq (by omega) (by omega)).mp hc49
          have hm2 : fw (amq N (fun w => bh N x (wt N w) m)) nI (N 0 - r) r = nI r := by rw [show N 0 - r = N 0 - (r + 1) + 1 by omega, fw_t (q := amq N (fun w => bh N x (wt N w) m)) (by unfold amq; omega)]
          refine rk_iload_n rfl rfl ?_
          exact rk_ireturn rfl rfl (Qe_of hm2.symm)
        · replace hc49 := mt (nI_eq (by omega) (by omega)).mpr hc49
          refine rk_iload rfl rfl ?_
          refine rk_iconst (v := nI 1) rfl (by decide) ?_
          refine rk_icmp_le rfl rfl (fun hc52 => ?_) (fun hc52 => ?_)
          · replace hc52 := (nI_leI (by omega) (by omega)).mp hc52
            have hm2 : fw (amq N (fun w => bh N x (wt N w) m)) nI (N 0 - r) r = fw (amq N (fun w => bh N x (wt N w) m)) nI (N 0 - (r + 1)) (r + 1) := by rw [show N 0 - r = N 0 - (r + 1) + 1 by omega, fw_f (q := amq N (fun w => bh N x (wt N w) m)) (fun z => by unfold amq at z; omega)]
            refine rk_iinc rfl rfl (n_inc _) rfl ?_
            refine rk_goto rfl rfl ?_
            rw [hm2]
            exact ih (r + 1) _ _ (by omega) (by omega)
          · replace hc52 := mt (nI_leI (by omega) (by omega)).mpr hc52
            refine rk_aload_n rfl rfl ?_
            refine rk_get rfl (by assumption) rfl ?_
            refine rk_sipush (v := nI 269) rfl (by decide) ?_
            refine rk_iald rfl (by assumption) (rfl) (by omega) (by decide) ?_
            rw [a269]
            refine rk_iload_n rfl rfl ?_
            refine rk_ishr rfl (b_shr (by omega) (by omega)) ?_
            refine rk_iconst (v := nI 1) rfl (by decide) ?_
            refine rk_iand rfl (b_and1U _) ?_
            refine rk_iconst (v := nI 1) rfl (by decide) ?_
            refine rk_icmp_ne rfl rfl (fun hc62 => ?_) (fun hc62 => ?_)
            · replace hc62 := mt (nI_eq (by omega) (by omega)).mpr hc62
              have hm2 : fw (amq N (fun w => bh N x (wt N w) m)) nI (N 0 - r) r = fw (amq N (fun w => bh N x (wt N w) m)) nI (N 0 - (r + 1)) (r + 1) := by rw [show N 0 - r = N 0 - (r + 1) + 1 by omega, fw_f (q := amq N (fun w => bh N x (wt N w) m)) (fun z => by unfold amq at z; omega)]
              refine rk_iinc rfl rfl (n_inc _) rfl ?_
              refine rk_goto rfl rfl ?_
              rw [hm2]
              exact ih (r + 1) _ _ (by omega) (by omega)
            · replace hc62 := Decidable.not_not.mp hc62
              replace hc62 := (nI_eq (by omega) (by omega)).mp hc62
              have hm2 : fw (amq N (fun w => bh N x (wt N w) m)) nI (N 0 - r) r = nI r := by rw [show N 0 - r = N 0 - (r + 1) + 1 by omega, fw_t (q := amq N (fun w => bh N x (wt N w) m)) (by unfold amq; omega)]
              refine rk_iload_n rfl rfl ?_
              exact rk_ireturn rfl rfl (Qe_of hm2.symm)
theorem s227 {X : ai_X} {h : ai_H} {v A : Nat → Int32} {nu : Nat → Int64} {i L m : Nat} {N x : Nat → Nat} (c0 : h[52]? = some (cMdl v)) (c1 : h[53]? = some (cI 2346 A)) (c4 : h[79]? = some (cJ 160 nu)) (hN : HN N) (M : MH A N) (hi : i < 4) (hx : ∀ k, k < L → x k < N 1 ∧ nu (40 * i + k) = (nI (x k)).toInt64) (hm : m ≤ L) (hL : L ≤ 40) : Mt X am_227 [.ref 52, .int (nI i), .int (nI m)] h (Qe (fw (amq N (fun w => bh N x (wt N w) m)) nI (N 0) 0) h) := by
  refine rk_iconst (v := nI 0) rfl (by decide) ?_
  refine rk_istore_n rfl (Nat.le_of_ble_eq_true rfl) rfl ?_
  exact l227 c0 c1 c4 hN M hi hx hm hL (N 0 + 1) 0 _ _ (by omega) (by omega)
