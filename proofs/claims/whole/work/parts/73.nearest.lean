/-! PAIRED: the nearest pair of a set -/
theorem and_m2 {x y : Nat} : (x &&& y) % 2 = 1 ↔ x % 2 = 1 ∧ y % 2 = 1 := by
  have e : (x &&& y) % 2 = (x % 2) &&& (y % 2) := Nat.and_mod_two_pow (n := 1)
  rw [e]
  rcases Nat.mod_two_eq_zero_or_one x with p | p <;> rcases Nat.mod_two_eq_zero_or_one y with q | q <;> rw [p, q] <;> decide
abbrev eM (N : Nat → Nat) (p : Nat) : Int32 := ev N gM 196 p
abbrev nOk (N : Nat → Nat) (S st a b : Nat) : Prop := (S / 2 ^ a % 2 = 1 ∧ S / 2 ^ b % 2 = 1) ∧ ¬ eM N (a * 14 + b) = -1 ∧ (st = 0 ∨ eM N (a * 14 + b) < eM N (st - 1))
def nst (N : Nat → Nat) (S st a b : Nat) : Nat := if nOk N S st a b then a * 14 + b + 1 else st
def nrow (N : Nat → Nat) (S st a : Nat) : Nat → Nat
  | 0 => st
  | k + 1 => nst N S (nrow N S st a k) a (a + 1 + k)
def nall (N : Nat → Nat) (S : Nat) : Nat → Nat
  | 0 => 0
  | a + 1 => nrow N S (nall N S a) a (N 0 - (a + 1))
/-- none, or a pair of rooms -/
abbrev nV (N : Nat → Nat) (st : Nat) : Prop := st = 0 ∨ ((st - 1) / 14 < N 0 ∧ (st - 1) % 14 < N 0 ∧ 0 < st)
theorem nst_v {N : Nat → Nat} {S st a b : Nat} (hn : N 0 ≤ 14) (ha : a < N 0) (hb : b < N 0) (H : nV N st) : nV N (nst N S st a b) := by
  unfold nst
  split
  · exact Or.inr ⟨by omega, by omega, by omega⟩
  · exact H
theorem nrow_v {N : Nat → Nat} {S st a : Nat} (hn : N 0 ≤ 14) (ha : a < N 0) (H : nV N st) : ∀ k, a + 1 + k ≤ N 0 → nV N (nrow N S st a k)
  | 0, _ => H
  | k + 1, h => nst_v hn ha (by omega) (nrow_v hn ha H k (by omega))
theorem nall_v {N : Nat → Nat} {S : Nat} (hn : N 0 ≤ 14) : ∀ a, a ≤ N 0 → nV N (nall N S a)
  | 0, _ => Or.inl rfl
  | a + 1, h => nrow_v hn (by omega) (nall_v hn a (by omega)) _ (by omega)
theorem l58b {X : ai_X} {h : ai_H} {N : Nat → Nat} {S : Nat} {f : Nat → Int32} (hN : HN N) (d27 : h[27]? = some cPa) (c28 : h[28]? = some (cI 196 f)) (hf : ∀ x y, x < N 0 → y < N 0 → f (x * 14 + y) = ev N gM 196 (x * 14 + y)) (hS : S < 16384) {a : Nat} (ha : a < N 0) {P : ai_O → Prop} (z : ∀ c5 c6, Rk X am_58 55 [some (.ref 27), some (.int (nI (N 0))), some (.int (nI S)), some (.int (vlB (nall N S (a + 1)))), some (.int (nI a)), c5, c6] [] h P) : ∀ (d : Nat) (k : Nat) (c6 : Option Value), N 0 < a + 1 + k + d → (a + 1 + k ≤ N 0) → Rk X am_58 11 [some (.ref 27), some (.int (nI (N 0))), some (.int (nI S)), some (.int (vlB (nrow N S (nall N S a) a k))), some (.int (nI a)), some (.int (nI (a + 1 + k))), c6] [] h (P) := by
  intro d
  induction d with
  | zero => intro k c6 hd hk; exfalso; omega
  | succ d ih =>
    intro k c6 hd hk
    have hn := hN.n
    have hv : nV N (nrow N S (nall N S a) a k) := nrow_v hn ha (nall_v hn a (by omega)) k (by omega)
    have hb2 := and_m2 (x := S / 2 ^ a) (y := S / 2 ^ (a + 1 + k))
    refine rk_iload rfl rfl ?_
    refine rk_iload_n rfl rfl ?_
    refine rk_icmp_ge rfl rfl (fun hc13 => ?_) (fun hc13 => ?_)
    · replace hc13 := (nI_leI (by omega) (by omega)).mp hc13
      have hk2 : k = N 0 - (a + 1) := by omega
      subst hk2
      exact z _ _
    · replace hc13 := mt (nI_leI (by omega) (by omega)).mpr hc13
      refine rk_iload_n rfl rfl ?_
      refine rk_iload rfl rfl ?_
      refine rk_iushr rfl (b_ushr (by omega) (by omega)) ?_
      refine rk_iload_n rfl rfl ?_
      refine rk_iload rfl rfl ?_
      refine rk_iushr rfl (b_ushr (by omega) (by omega)) ?_
      refine rk_iand rfl (b_andU _ _) ?_
      refine rk_iconst (v := nI 1) rfl (by decide) ?_
      refine rk_iand rfl (b_and1U _) ?_
      refine rk_if_eq rfl rfl (fun hc23 => ?_) (fun hc23 => ?_)
      · replace hc23 := (n0_eq (by omega)).mp hc23
        have hbits : ¬ (S / 2 ^ a % 2 = 1 ∧ S / 2 ^ (a + 1 + k) % 2 = 1) := fun y => by have := hb2.mpr y; omega
        refine rk_iconst (v := nI 0) rfl (by decide) ?_
        refine rk_istore rfl (Nat.le_of_ble_eq_true rfl) rfl ?_
        refine rk_iload rfl rfl ?_
        refine rk_if_eq rfl rfl (fun hc29 => ?_) (fun hc29 => ?_)
        · replace hc29 := (n0_eq (by omega)).mp hc29
          refine rk_iinc rfl rfl (n_inc _) rfl ?_
          refine rk_goto rfl rfl ?_
          first
            | (have hs2 : nrow N S (nall N S a) a (k + 1) = a * 14 + (a + 1 + k) + 1 := if_pos ⟨hbits, hc35', hbest⟩
               rw [show nI (a * 14 + (a + 1 + k)) = vlB (nrow N S (nall N S a) a (k + 1)) by rw [hs2, vlB_s]]
               exact ih (k + 1) _ (by omega) (by omega))
            | (have hs2 : nrow N S (nall N S a) a (k + 1) = nrow N S (nall N S a) a k := if_neg (by first | exact fun y => hbits y.1 | exact fun y => y.2.1 hcE | exact fun y => hbest y.2.2)
               rw [← hs2]
               exact ih (k + 1) _ (by omega) (by omega))
        · replace hc29 := mt (n0_eq (by omega)).mpr hc29
          omega
      · replace hc23 := mt (n0_eq (by omega)).mpr hc23
        have hbits : S / 2 ^ a % 2 = 1 ∧ S / 2 ^ (a + 1 + k) % 2 = 1 := hb2.mp (by omega)
        refine rk_iconst (v := nI 1) rfl (by decide) ?_
        refine rk_goto rfl rfl ?_
        refine rk_istore rfl (Nat.le_of_ble_eq_true rfl) rfl ?_
        refine rk_iload rfl rfl ?_
        refine rk_if_eq rfl rfl (fun hc29 => ?_) (fun hc29 => ?_)
        · replace hc29 := (n0_eq (by omega)).mp hc29
          omega
        · replace hc29 := mt (n0_eq (by omega)).mpr hc29
          refine rk_aload_n rfl rfl ?_
          refine rk_iload rfl rfl ?_
          refine rk_iload rfl rfl ?_
          refine rk_cv2e rfl rfl (by assumption) rfl rfl (Nat.le_of_ble_eq_true rfl) (Nat.le_of_ble_eq_true rfl) (s51 d27 c28 (by omega) (by omega)) ?_
          rw [hf a (a + 1 + k) ha (by omega)]
          refine rk_iconst (v := (-1)) rfl (by decide) ?_
          refine rk_icmp_eq rfl rfl (fun hc35 => ?_) (fun hc35 => ?_)
          · have hcE : eM N (a * 14 + (a + 1 + k)) = -1 := hc35
            refine rk_iinc rfl rfl (n_inc _) rfl ?_
            refine rk_goto rfl rfl ?_
            first
              | (have hs2 : nrow N S (nall N S a) a (k + 1) = a * 14 + (a + 1 + k) + 1 := if_pos ⟨hbits, hc35', hbest⟩
                 rw [show nI (a * 14 + (a + 1 + k)) = vlB (nrow N S (nall N S a) a (k + 1)) by rw [hs2, vlB_s]]
                 exact ih (k + 1) _ (by omega) (by omega))
              | (have hs2 : nrow N S (nall N S a) a (k + 1) = nrow N S (nall N S a) a k := if_neg (by first | exact fun y => hbits y.1 | exact fun y => y.2.1 hcE | exact fun y => hbest y.2.2)
                 rw [← hs2]
                 exact ih (k + 1) _ (by omega) (by omega))
          · have hc35' : ¬ eM N (a * 14 + (a + 1 + k)) = -1 := hc35
            refine rk_iload_n rfl rfl ?_
            refine rk_iconst (v := (-1)) rfl (by decide) ?_
            refine rk_icmp_eq rfl rfl (fun hc38 => ?_) (fun hc38 => ?_)
            · have hbest : nrow N S (nall N S a) a k = 0 ∨ eM N (a * 14 + (a + 1 + k)) < eM N (nrow N S (nall N S a) a k - 1) := Or.inl ((vlB_m1 (by omega)).mp hc38)
              refine rk_aload_n rfl rfl ?_
              refine rk_iload rfl rfl ?_
              refine rk_iload rfl rfl ?_
              refine rk_cv2e rfl rfl (by assumption) rfl rfl (Nat.le_of_ble_eq_true rfl) (Nat.le_of_ble_eq_true rfl) (s50n) ?_
              refine rk_istore_n rfl (Nat.le_of_ble_eq_true rfl) rfl ?_
              refine rk_iinc rfl rfl (n_inc _) rfl ?_
              refine rk_goto rfl rfl ?_
              first
                | (have hs2 : nrow N S (nall N S a) a (k + 1) = a * 14 + (a + 1 + k) + 1 := if_pos ⟨hbits, hc35', hbest⟩
                   rw [show nI (a * 14 + (a + 1 + k)) = vlB (nrow N S (nall N S a) a (k + 1)) by rw [hs2, vlB_s]]
                   exact ih (k + 1) _ (by omega) (by omega))
                | (have hs2 : nrow N S (nall N S a) a (k + 1) = nrow N S (nall N S a) a k := if_neg (by first | exact fun y => hbits y.1 | exact fun y => y.2.1 hcE | exact fun y => hbest y.2.2)
                   rw [← hs2]
                   exact ih (k + 1) _ (by omega) (by omega))
            · have h0 : ¬ nrow N S (nall N S a) a k = 0 := fun y => hc38 ((vlB_m1 (by omega)).mpr y)
              have hvl : vlB (nrow N S (nall N S a) a k) = nI (nrow N S (nall N S a) a k - 1) := if_neg h0
              have hfe : f (nrow N S (nall N S a) a k - 1) = eM N (nrow N S (nall N S a) a k - 1) := by
                have := hf ((nrow N S (nall N S a) a k - 1) / 14) ((nrow N S (nall N S a) a k - 1) % 14) (by omega) (by omega)
                rw [show (nrow N S (nall N S a) a k - 1) / 14 * 14 + (nrow N S (nall N S a) a k - 1) % 14 = nrow N S (nall N S a) a k - 1 by omega] at this
                exact this
              refine rk_aload_n rfl rfl ?_
              refine rk_iload rfl rfl ?_
              refine rk_iload rfl rfl ?_
              refine rk_cv2e rfl rfl (by assumption) rfl rfl (Nat.le_of_ble_eq_true rfl) (Nat.le_of_ble_eq_true rfl) (s51 d27 c28 (by omega) (by omega)) ?_
              rw [hf a (a + 1 + k) ha (by omega)]
              refine rk_aload_n rfl rfl ?_
              refine rk_get rfl (by assumption) rfl ?_
              refine rk_iload_n rfl rfl ?_
              refine rk_iald rfl c28 hvl (by omega) (by decide) ?_
              rw [hfe]
              refine rk_icmp_ge rfl rfl (fun hc47 => ?_) (fun hc47 => ?_)
              · have hbest : ¬ (nrow N S (nall N S a) a k = 0 ∨ eM N (a * 14 + (a + 1 + k)) < eM N (nrow N S (nall N S a) a k - 1)) := fun y => by
                  rcases y with y | y
                  · exact h0 y
                  · exact i32_le.mp hc47 y
                refine rk_iinc rfl rfl (n_inc _) rfl ?_
                refine rk_goto rfl rfl ?_
                first
                  | (have hs2 : nrow N S (nall N S a) a (k + 1) = a * 14 + (a + 1 + k) + 1 := if_pos ⟨hbits, hc35', hbest⟩
                     rw [show nI (a * 14 + (a + 1 + k)) = vlB (nrow N S (nall N S a) a (k + 1)) by rw [hs2, vlB_s]]
                     exact ih (k + 1) _ (by omega) (by omega))
                  | (have hs2 : nrow N S (nall N S a) a (k + 1) = nrow N S (nall N S a) a k := if_neg (by first | exact fun y => hbits y.1 | exact fun y => y.2.1 hcE | exact fun y => hbest y.2.2)
                     rw [← hs2]
                     exact ih (k + 1) _ (by omega) (by omega))
              · have hbest : nrow N S (nall N S a) a k = 0 ∨ eM N (a * 14 + (a + 1 + k)) < eM N (nrow N S (nall N S a) a k - 1) := Or.inr (Decidable.not_not.mp (mt i32_le.mpr hc47))
                refine rk_aload_n rfl rfl ?_
                refine rk_iload rfl rfl ?_
                refine rk_iload rfl rfl ?_
                refine rk_cv2e rfl rfl (by assumption) rfl rfl (Nat.le_of_ble_eq_true rfl) (Nat.le_of_ble_eq_true rfl) (s50n) ?_
                refine rk_istore_n rfl (Nat.le_of_ble_eq_true rfl) rfl ?_
                refine rk_iinc rfl rfl (n_inc _) rfl ?_
                refine rk_goto rfl rfl ?_
                first
                  | (have hs2 : nrow N S (nall N S a) a (k + 1) = a * 14 + (a + 1 + k) + 1 := if_pos ⟨hbits, hc35', hbest⟩
                     rw [show nI (a * 14 + (a + 1 + k)) = vlB (nrow N S (nall N S a) a (k + 1)) by rw [hs2, vlB_s]]
                     exact ih (k + 1) _ (by omega) (by omega))
                  | (have hs2 : nrow N S (nall N S a) a (k + 1) = nrow N S (nall N S a) a k := if_neg (by first | exact fun y => hbits y.1 | exact fun y => y.2.1 hcE | exact fun y => hbest y.2.2)
                     rw [← hs2]
                     exact ih (k + 1) _ (by omega) (by omega))
theorem l58 {X : ai_X} {h : ai_H} {N : Nat → Nat} {S : Nat} {f : Nat → Int32} (hN : HN N) (d27 : h[27]? = some cPa) (c28 : h[28]? = some (cI 196 f)) (hf : ∀ x y, x < N 0 → y < N 0 → f (x * 14 + y) = ev N gM 196 (x * 14 + y)) (hS : S < 16384) : ∀ (d : Nat) (a : Nat) (c5 c6 : Option Value), N 0 < a + d → (a ≤ N 0) → Rk X am_58 4 [some (.ref 27), some (.int (nI (N 0))), some (.int (nI S)), some (.int (vlB (nall N S a))), some (.int (nI a)), c5, c6] [] h (Qe (vlB (nall N S (N 0))) h) := by
  intro d
  induction d with
  | zero => intro a c5 c6 hd ha; exfalso; omega
  | succ d ih =>
    intro a c5 c6 hd ha
    have hn := hN.n
    refine rk_iload rfl rfl ?_
    refine rk_iload_n rfl rfl ?_
    refine rk_icmp_ge rfl rfl (fun hc6 => ?_) (fun hc6 => ?_)
    · replace hc6 := (nI_leI (by omega) (by omega)).mp hc6
      refine rk_iload_n rfl rfl ?_
      have ha2 : a = N 0 := by omega
      subst ha2
      exact rk_ireturn rfl rfl Qe_mk
    · replace hc6 := mt (nI_leI (by omega) (by omega)).mpr hc6
      refine rk_iload rfl rfl ?_
      refine rk_iconst (v := nI 1) rfl (by decide) ?_
      refine rk_iadd rfl (nI_add _ _) ?_
      refine rk_istore rfl (Nat.le_of_ble_eq_true rfl) rfl ?_
      refine l58b hN d27 c28 hf hS (a := a) (by omega) (fun c5 c6 => ?_) (N 0 + 1) 0 _ (by omega) (by omega)
      refine rk_iinc rfl rfl (n_inc _) rfl ?_
      refine rk_goto rfl rfl ?_
      exact ih (a + 1) _ _ (by omega) (by omega)
theorem s58 {X : ai_X} {h : ai_H} {N : Nat → Nat} {S : Nat} {f : Nat → Int32} (hN : HN N) (d27 : h[27]? = some cPa) (c28 : h[28]? = some (cI 196 f)) (hf : ∀ x y, x < N 0 → y < N 0 → f (x * 14 + y) = ev N gM 196 (x * 14 + y)) (hS : S < 16384) : Mt X am_58 [.ref 27, .int (nI (N 0)), .int (nI S)] h (Qe (vlB (nall N S (N 0))) h) := by
  refine rk_iconst (v := (-1)) rfl (by decide) ?_
  refine rk_istore_n rfl (Nat.le_of_ble_eq_true rfl) rfl ?_
  refine rk_iconst (v := nI 0) rfl (by decide) ?_
  refine rk_istore rfl (Nat.le_of_ble_eq_true rfl) rfl ?_
  exact l58 hN d27 c28 hf hS (N 0 + 1) 0 _ _ (by omega) (Nat.zero_le _)
