/-! TWO WAITERS, THE SECOND DEAF TO SOME TONES -/
theorem s232C {X : ai_X} {h : ai_H} {w : Nat → Int32} {mk x k t a b : Nat} {r1 r2 : Nat → Nat} {B : Bf} (S : MB h w mk r1 r2 B) (h0 : 0 < B.m) (ha : r1 x = a) (hb : r2 x = b) (hx1 : a < 2 ^ 31) (hx2 : b < 2 ^ 31) (hinj : ∀ i, i < B.m → r1 (B.st i) = r1 x → r2 (B.st i) = r2 x → B.st i = x) (hm : B.m ≤ 30000) : Mt X am_232 [.ref 52, .int (nI a), .int (nI b), .int (nI k), .int (nI t)] h (Qi (fun y h1 => y = bI (¬ mem B.st x B.m = true) ∧ FrM h h1 ∧ MB h1 w mk r1 r2 (bfA B x k t))) := by
  subst ha hb
  exact s232B S h0 hx1 hx2 hinj hm
theorem s232RC {X : ai_X} {h : ai_H} {w : Nat → Int32} {mk x a b : Nat} {r1 r2 : Nat → Nat} (S : ME h w mk) (ha : r1 x = a) (hb : r2 x = b) (hx1 : a < 2 ^ 31) (hx2 : b < 2 ^ 31) : Mt X am_232 [.ref 52, .int (nI a), .int (nI b), .int (-1), .int (-1)] h (Qi (fun y h1 => y = 1 ∧ FrM h h1 ∧ MB h1 w mk r1 r2 (bf0 x))) := by
  subst ha hb
  exact s232R S hx1 hx2
def nxD (N : Nat → Nat) (u x t : Nat) : Nat := pl N (x / 14) t * 14 + (if u / 2 ^ t % 2 = 0 then pl N (x % 14) t else x % 14)
theorem nxD_0 {N : Nat → Nat} {u x t : Nat} (h : u / 2 ^ t % 2 = 0) : nxD N u x t = pl N (x / 14) t * 14 + pl N (x % 14) t := by rw [nxD, if_pos h]
theorem nxD_1 {N : Nat → Nat} {u x t : Nat} (h : ¬ u / 2 ^ t % 2 = 0) : nxD N u x t = pl N (x / 14) t * 14 + x % 14 := by rw [nxD, if_neg h]
def glD (N : Nat → Nat) (x : Nat) : Bool := decide (x = N 270 * 14 + N 270)
theorem glD_t {N : Nat → Nat} {x : Nat} : glD N x = true ↔ x = N 270 * 14 + N 270 := decide_eq_true_iff
abbrev vD (N : Nat → Nat) (x : Nat) : Prop := x / 14 < N 0 ∧ x % 14 < N 0
theorem nxD_v {N : Nat → Nat} {u x t : Nat} (hN : HN N) (hx : vD N x) (ht : t < N 1) : vD N (nxD N u x t) := by
  have h1 := hN.xpl hx.1 ht
  have h2 := hN.xpl hx.2 ht
  have hn := hN.n
  unfold vD nxD
  split <;> omega
theorem deaf_bd {N : Nat → Nat} {u x : Nat} {ok : Nat → Bool} {B : Bf} (hN : HN N) (hx : vD N x) (H : BI (nxD N u) ok (N 1) x B) : (∀ i, i < B.m → vD N (B.st i)) ∧ B.m ≤ 196 := by
  have h1 := H.all (P := vD N) hx (fun y t hy ht _ => nxD_v hN hy ht)
  have hn := hN.n
  exact ⟨h1, H.le (fun i hi => by have := h1 i hi; unfold vD at this; omega)⟩
theorem l19i {X : ai_X} {h : ai_H} {N : Nat → Nat} {n33 n0 : Int32} {f0 : Nat → Int32} {p x u : Nat} (hN : HN N) (C : CH h 3 N) (d33 : h[33]? = some (cCo n33)) (R : RouteAt h 15 n0 f0) (hp : 80 ≤ p) (hx : vD N x) (hu : u < 64) {k : Nat} {B : Bf} (hB : BI (nxD N u) okA (N 1) x B) (hk : k < B.m) {P : ai_O → Prop} (z1 : ∀ g c10 c11, FrS 22 p h g → SB g 22 p 16384 16384 (bfT (nxD N u) okA B k (N 1)) → (∀ i, i < (bfT (nxD N u) okA B k (N 1)).m → ¬ glD N ((bfT (nxD N u) okA B k (N 1)).st i) = true) → Rk X am_19 108 [some (.ref 33), some (.int (nI (x / 14))), some (.int (nI (x % 14))), some (.int (nI u)), some (.ref 15), some (.int (nI (N 270 * 14 + N 270))), some (.int (nI k)), some (.int (nI (B.st k / 14))), some (.int (nI (B.st k % 14))), some (.int (nI (N 1))), c10, c11] [] g P) (z2 : ∀ B1 w h1, Pre B1 (bfT (nxD N u) okA B k (N 1)) → BI (nxD N u) okA (N 1) x B1 → glD N (B1.st (B1.m - 1)) = true → (∀ i, i < B1.m - 1 → ¬ glD N (B1.st i) = true) → FrQ 22 p h h1 → SrchAt h1 22 16384 16384 (some p) → w = nI (dep B1.pa (B1.m - 1)) → ((500 < dep B1.pa (B1.m - 1) ∧ h1[15]? = h[15]? ∧ h1[16]? = h[16]?) ∨ (dep B1.pa (B1.m - 1) ≤ 500 ∧ RtAt h1 15 (dep B1.pa (B1.m - 1)) (rowTo B1 (B1.m - 1)))) → P (some (.int w), h1, 0, 0)) : ∀ (d : Nat) (t : Nat) (g : ai_H) (c10 c11 : Option Value), N 1 < t + d → (t ≤ N 1) → (FrS 22 p h g) → (SB g 22 p 16384 16384 (bfT (nxD N u) okA B k t)) → ((∀ i, i < (bfT (nxD N u) okA B k t).m → ¬ glD N ((bfT (nxD N u) okA B k t).st i) = true)) → Rk X am_19 62 [some (.ref 33), some (.int (nI (x / 14))), some (.int (nI (x % 14))), some (.int (nI u)), some (.ref 15), some (.int (nI (N 270 * 14 + N 270))), some (.int (nI k)), some (.int (nI (B.st k / 14))), some (.int (nI (B.st k % 14))), some (.int (nI t)), c10, c11] [] g (P) := by
  intro d
  induction d with
  | zero => intro t g c10 c11 hd ht F S G; exfalso; omega
  | succ d ih =>
    intro t g c10 c11 hd ht F S G
    have C2 : CH g 3 N := C.fr (fun q _ _ => F.2 q (by omega) (by omega))
    have e3 := C2.1
    have e33 := (F.2 33 (by omega) (by omega)).trans d33
    obtain ⟨base, e22⟩ := S.obj
    have h6 := hN.t
    have hn := hN.n
    have hpan := hN.pan
    have hBt := hB.tones hk t ht
    have hkt : k < (bfT (nxD N u) okA B k t).m := Nat.lt_of_lt_of_le hk (bfT_pre _ _ B k t).1
    obtain ⟨hst, hm16⟩ := deaf_bd hN hx hBt
    have hse : (bfT (nxD N u) okA B k t).st k = B.st k := ((bfT_pre (nxD N u) okA B k t).2 k hk).1
    obtain ⟨hv1, hv2⟩ := hst k hkt
    rw [hse] at hv1 hv2
    have hT1 := bfT_ok (nx := nxD N u) (ok := okA) (B := B) (k := k) (t := t) rfl
    rw [hse] at hT1
    have hut := bt_01 u t
    refine rk_iload rfl rfl ?_
    refine rk_aload_n rfl rfl ?_
    refine rk_get rfl (by first | assumption | exact S1.obj.choose_spec | exact (F1.2 33 (by omega) (by omega)).trans e33) rfl ?_
    refine rk_get rfl (by first | assumption | exact S1.obj.choose_spec | exact (F1.2 33 (by omega) (by omega)).trans e33) rfl ?_
    refine rk_icmp_ge rfl rfl (fun hc66 => ?_) (fun hc66 => ?_)
    · replace hc66 := (nI_leI (by omega) (by omega)).mp hc66
      have ht2 : t = N 1 := by omega
      subst ht2
      exact z1 g _ _ F S G
    · replace hc66 := mt (nI_leI (by omega) (by omega)).mpr hc66
      refine rk_iload_n rfl rfl ?_
      refine rk_iload rfl rfl ?_
      refine rk_iushr rfl (b_ushr (by omega) (by omega)) ?_
      refine rk_iconst (v := nI 1) rfl (by decide) ?_
      refine rk_iand rfl (b_and1U _) ?_
      refine rk_if_eq rfl rfl (fun hc72 => ?_) (fun hc72 => ?_)
      · replace hc72 := (n0_eq (by omega)).mp hc72
        have hnx := nxD_0 (N := N) (x := B.st k) hc72
        refine rk_aload_n rfl rfl ?_
        refine rk_get rfl (by first | assumption | exact S1.obj.choose_spec | exact (F1.2 33 (by omega) (by omega)).trans e33) rfl ?_
        refine rk_iload rfl rfl ?_
        refine rk_iload rfl rfl ?_
        refine rk_cv2e rfl rfl (by first | assumption | exact S1.obj.choose_spec | exact (F1.2 33 (by omega) (by omega)).trans e33) rfl rfl (Nat.le_of_ble_eq_true rfl) (Nat.le_of_ble_eq_true rfl) (s27N C2 hN hv2 (by omega)) ?_
        have hp2 := hN.xpl hv2 (i := t) (by omega)
        refine rk_istore rfl (Nat.le_of_ble_eq_true rfl) rfl ?_
        refine rk_aload_n rfl rfl ?_
        refine rk_get rfl (by first | assumption | exact S1.obj.choose_spec | exact (F1.2 33 (by omega) (by omega)).trans e33) rfl ?_
        refine rk_iload rfl rfl ?_
        refine rk_iload rfl rfl ?_
        refine rk_cv2e rfl rfl (by first | assumption | exact S1.obj.choose_spec | exact (F1.2 33 (by omega) (by omega)).trans e33) rfl rfl (Nat.le_of_ble_eq_true rfl) (Nat.le_of_ble_eq_true rfl) (s27N C2 hN hv1 (by omega)) ?_
        have hp1 := hN.xpl hv1 (i := t) (by omega)
        refine rk_bipush (v := nI 14) rfl (by decide) ?_
        refine rk_imul rfl (pk_mul _ _) ?_
        refine rk_iload rfl rfl ?_
        refine rk_iadd rfl (nI_add _ _) ?_
        refine rk_istore rfl (Nat.le_of_ble_eq_true rfl) rfl ?_
        refine rk_aload_n rfl rfl ?_
        refine rk_get rfl (by first | assumption | exact S1.obj.choose_spec | exact (F1.2 33 (by omega) (by omega)).trans e33) rfl ?_
        refine rk_iload rfl rfl ?_
        refine rk_iload rfl rfl ?_
        refine rk_iload rfl rfl ?_
        refine rk_cv3i rfl rfl (by first | assumption | exact S1.obj.choose_spec | exact (F1.2 33 (by omega) (by omega)).trans e33) rfl rfl (Nat.le_of_ble_eq_true rfl) (Nat.le_of_ble_eq_true rfl) (s101B S hBt.1 (by omega) (by omega) (by omega) (by omega)) (fun w h1 hF => ?_)
        obtain ⟨rfl, F1, S1⟩ := hF
        rw [← hnx] at S1
        have F2 := F.tr F1
        refine rk_if_eq rfl rfl (fun hc97 => ?_) (fun hc97 => ?_)
        · replace hc97 := (bI_0).mp hc97
          rw [← hnx] at hc97
          have S2 := S1
          have G2 := bfA_all (x := nxD N u (B.st k) t) (k := k) (t := t) (P := fun y => ¬ glD N y = true) G (fun z => absurd z hc97)
          rw [← hT1] at S2 G2
          refine rk_iinc rfl rfl (n_inc _) rfl ?_
          refine rk_goto rfl rfl ?_
          exact ih (t + 1) _ _ _ (by omega) (by omega) F2 S2 G2
        · replace hc97 := Decidable.not_not.mp (mt bI_0.mpr hc97)
          rw [← hnx] at hc97
          have hI1 : BI (nxD N u) okA (N 1) x (bfA (bfT (nxD N u) okA B k t) (nxD N u (B.st k) t) k t) := by
            have := hBt.step (t := t) hkt (by omega)
            rwa [bfS, if_pos (show okA _ = true from rfl), hse] at this
          refine rk_iload rfl rfl ?_
          refine rk_iload rfl rfl ?_
          refine rk_icmp_ne rfl rfl (fun hc100 => ?_) (fun hc100 => ?_)
          · replace hc100 := mt (nI_eq (by omega) (by omega)).mpr hc100
            have S2 := S1
            have G2 := bfA_all (x := nxD N u (B.st k) t) (k := k) (t := t) (P := fun y => ¬ glD N y = true) G (fun _ z => hc100 (by rw [← hnx]; exact glD_t.mp z))
            rw [← hT1] at S2 G2
            refine rk_iinc rfl rfl (n_inc _) rfl ?_
            refine rk_goto rfl rfl ?_
            exact ih (t + 1) _ _ _ (by omega) (by omega) F2 S2 G2
          · replace hc100 := Decidable.not_not.mp hc100
            replace hc100 := (nI_eq (by omega) (by omega)).mp hc100
            refine rk_aload_n rfl rfl ?_
            refine rk_get rfl (by first | assumption | exact S1.obj.choose_spec | exact (F1.2 33 (by omega) (by omega)).trans e33) rfl ?_
            refine rk_aload rfl rfl ?_
            refine rk_cv1i rfl rfl (by first | assumption | exact S1.obj.choose_spec | exact (F1.2 33 (by omega) (by omega)).trans e33) rfl rfl (Nat.le_of_ble_eq_true rfl) (Nat.le_of_ble_eq_true rfl) (s102F S1 hI1 (by omega) (by omega) (by omega) (F.tr F1) R) (fun w h1 hF => ?_)
            obtain ⟨rfl, F3, S3, z3⟩ := hF
            obtain ⟨y1, y2, y3⟩ := bfA_new (k := k) (t := t) hc97
            refine rk_ireturn rfl rfl (z2 _ _ _ ?_ hI1 ?_ ?_ F3 S3 rfl z3)
            · rw [← hT1]
              have := bfT_mono (nxD N u) okA B k (t + 1) (N 1 - (t + 1))
              rwa [show t + 1 + (N 1 - (t + 1)) = N 1 by omega] at this
            · rw [y1, Nat.add_sub_cancel, y2]
              exact glD_t.mpr (hnx.trans hc100)
            · intro i hi
              rw [y1, Nat.add_sub_cancel] at hi
              rw [y3 i hi]
              exact G i hi
      · replace hc72 := mt (n0_eq (by omega)).mpr hc72
        have hnx := nxD_1 (N := N) (x := B.st k) hc72
        refine rk_iload rfl rfl ?_
        refine rk_goto rfl rfl ?_
        refine rk_istore rfl (Nat.le_of_ble_eq_true rfl) rfl ?_
        refine rk_aload_n rfl rfl ?_
        refine rk_get rfl (by first | assumption | exact S1.obj.choose_spec | exact (F1.2 33 (by omega) (by omega)).trans e33) rfl ?_
        refine rk_iload rfl rfl ?_
        refine rk_iload rfl rfl ?_
        refine rk_cv2e rfl rfl (by first | assumption | exact S1.obj.choose_spec | exact (F1.2 33 (by omega) (by omega)).trans e33) rfl rfl (Nat.le_of_ble_eq_true rfl) (Nat.le_of_ble_eq_true rfl) (s27N C2 hN hv1 (by omega)) ?_
        have hp1 := hN.xpl hv1 (i := t) (by omega)
        refine rk_bipush (v := nI 14) rfl (by decide) ?_
        refine rk_imul rfl (pk_mul _ _) ?_
        refine rk_iload rfl rfl ?_
        refine rk_iadd rfl (nI_add _ _) ?_
        refine rk_istore rfl (Nat.le_of_ble_eq_true rfl) rfl ?_
        refine rk_aload_n rfl rfl ?_
        refine rk_get rfl (by first | assumption | exact S1.obj.choose_spec | exact (F1.2 33 (by omega) (by omega)).trans e33) rfl ?_
        refine rk_iload rfl rfl ?_
        refine rk_iload rfl rfl ?_
        refine rk_iload rfl rfl ?_
        refine rk_cv3i rfl rfl (by first | assumption | exact S1.obj.choose_spec | exact (F1.2 33 (by omega) (by omega)).trans e33) rfl rfl (Nat.le_of_ble_eq_true rfl) (Nat.le_of_ble_eq_true rfl) (s101B S hBt.1 (by omega) (by omega) (by omega) (by omega)) (fun w h1 hF => ?_)
        obtain ⟨rfl, F1, S1⟩ := hF
        rw [← hnx] at S1
        have F2 := F.tr F1
        refine rk_if_eq rfl rfl (fun hc97 => ?_) (fun hc97 => ?_)
        · replace hc97 := (bI_0).mp hc97
          rw [← hnx] at hc97
          have S2 := S1
          have G2 := bfA_all (x := nxD N u (B.st k) t) (k := k) (t := t) (P := fun y => ¬ glD N y = true) G (fun z => absurd z hc97)
          rw [← hT1] at S2 G2
          refine rk_iinc rfl rfl (n_inc _) rfl ?_
          refine rk_goto rfl rfl ?_
          exact ih (t + 1) _ _ _ (by omega) (by omega) F2 S2 G2
        · replace hc97 := Decidable.not_not.mp (mt bI_0.mpr hc97)
          rw [← hnx] at hc97
          have hI1 : BI (nxD N u) okA (N 1) x (bfA (bfT (nxD N u) okA B k t) (nxD N u (B.st k) t) k t) := by
            have := hBt.step (t := t) hkt (by omega)
            rwa [bfS, if_pos (show okA _ = true from rfl), hse] at this
          refine rk_iload rfl rfl ?_
          refine rk_iload rfl rfl ?_
          refine rk_icmp_ne rfl rfl (fun hc100 => ?_) (fun hc100 => ?_)
          · replace hc100 := mt (nI_eq (by omega) (by omega)).mpr hc100
            have S2 := S1
            have G2 := bfA_all (x := nxD N u (B.st k) t) (k := k) (t := t) (P := fun y => ¬ glD N y = true) G (fun _ z => hc100 (by rw [← hnx]; exact glD_t.mp z))
            rw [← hT1] at S2 G2
            refine rk_iinc rfl rfl (n_inc _) rfl ?_
            refine rk_goto rfl rfl ?_
            exact ih (t + 1) _ _ _ (by omega) (by omega) F2 S2 G2
          · replace hc100 := Decidable.not_not.mp hc100
            replace hc100 := (nI_eq (by omega) (by omega)).mp hc100
            refine rk_aload_n rfl rfl ?_
            refine rk_get rfl (by first | assumption | exact S1.obj.choose_spec | exact (F1.2 33 (by omega) (by omega)).trans e33) rfl ?_
            refine rk_aload rfl rfl ?_
            refine rk_cv1i rfl rfl (by first | assumption | exact S1.obj.choose_spec | exact (F1.2 33 (by omega) (by omega)).trans e33) rfl rfl (Nat.le_of_ble_eq_true rfl) (Nat.le_of_ble_eq_true rfl) (s102F S1 hI1 (by omega) (by omega) (by omega) (F.tr F1) R) (fun w h1 hF => ?_)
            obtain ⟨rfl, F3, S3, z3⟩ := hF
            obtain ⟨y1, y2, y3⟩ := bfA_new (k := k) (t := t) hc97
            refine rk_ireturn rfl rfl (z2 _ _ _ ?_ hI1 ?_ ?_ F3 S3 rfl z3)
            · rw [← hT1]
              have := bfT_mono (nxD N u) okA B k (t + 1) (N 1 - (t + 1))
              rwa [show t + 1 + (N 1 - (t + 1)) = N 1 by omega] at this
            · rw [y1, Nat.add_sub_cancel, y2]
              exact glD_t.mpr (hnx.trans hc100)
            · intro i hi
              rw [y1, Nat.add_sub_cancel] at hi
              rw [y3 i hi]
              exact G i hi
theorem l19 {X : ai_X} {h : ai_H} {N : Nat → Nat} {n33 n0 : Int32} {f0 : Nat → Int32} {p x u : Nat} (hN : HN N) (C : CH h 3 N) (d33 : h[33]? = some (cCo n33)) (R : RouteAt h 15 n0 f0) (hp : 80 ≤ p) (hx : vD N x) (hu : u < 64) : ∀ (d : Nat) (k : Nat) (g : ai_H) (c7 c8 c9 c10 c11 : Option Value), 196 < k + d → (k ≤ (bfK (nxD N u) okA (N 1) x k).m) → (k ≤ 196) → (FrS 22 p h g) → (SB g 22 p 16384 16384 (bfK (nxD N u) okA (N 1) x k)) → ((∀ i, i < (bfK (nxD N u) okA (N 1) x k).m → ¬ glD N ((bfK (nxD N u) okA (N 1) x k).st i) = true)) → Rk X am_19 38 [some (.ref 33), some (.int (nI (x / 14))), some (.int (nI (x % 14))), some (.int (nI u)), some (.ref 15), some (.int (nI (N 270 * 14 + N 270))), some (.int (nI k)), c7, c8, c9, c10, c11] [] g (Qi (fun w h1 => FrQ 22 p h h1 ∧ SrchAt h1 22 16384 16384 (some p) ∧ CF h h1 w (bfK (nxD N u) okA (N 1) x 196) (glD N))) := by
  intro d
  induction d with
  | zero => intro k g c7 c8 c9 c10 c11 hd hk hk2 F S G; exfalso; omega
  | succ d ih =>
    intro k g c7 c8 c9 c10 c11 hd hk hk2 F S G
    have C2 : CH g 3 N := C.fr (fun q _ _ => F.2 q (by omega) (by omega))
    have e3 := C2.1
    have e33 := (F.2 33 (by omega) (by omega)).trans d33
    obtain ⟨base, e22⟩ := S.obj
    have h6 := hN.t
    have hn := hN.n
    have hpan := hN.pan
    have hBk := BI.heads (nx := nxD N u) (ok := okA) (T := N 1) (x := x) k
    obtain ⟨hst, hm16⟩ := deaf_bd hN hx hBk
    refine rk_iload rfl rfl ?_
    refine rk_sipush (v := nI 196) rfl (by decide) ?_
    refine rk_icmp_ge rfl rfl (fun hc40 => ?_) (fun hc40 => ?_)
    · replace hc40 := (nI_leI (by omega) (by omega)).mp hc40
      refine rk_iconst (v := (-1)) rfl (by decide) ?_
      refine rk_ireturn rfl rfl ⟨_, _, rfl, F.q, S.at', ?_⟩
      rw [bfK_end (k := k) (W := 196) (by omega) (by omega)]
      exact CF.none G (F.2 15 (by omega) (by omega)) (F.2 16 (by omega) (by omega))
    · replace hc40 := mt (nI_leI (by omega) (by omega)).mpr hc40
      refine rk_iload rfl rfl ?_
      refine rk_aload_n rfl rfl ?_
      refine rk_get rfl (by assumption) rfl ?_
      refine rk_cv0e rfl rfl (by assumption) rfl rfl (Nat.le_of_ble_eq_true rfl) (Nat.le_of_ble_eq_true rfl) (s97B S) ?_
      refine rk_icmp_ge rfl rfl (fun hc45 => ?_) (fun hc45 => ?_)
      · replace hc45 := (nI_leI (by omega) (by omega)).mp hc45
        refine rk_iconst (v := (-1)) rfl (by decide) ?_
        refine rk_ireturn rfl rfl ⟨_, _, rfl, F.q, S.at', ?_⟩
        rw [bfK_end (k := k) (W := 196) (by omega) (by omega)]
        exact CF.none G (F.2 15 (by omega) (by omega)) (F.2 16 (by omega) (by omega))
      · replace hc45 := mt (nI_leI (by omega) (by omega)).mpr hc45
        refine rk_aload_n rfl rfl ?_
        refine rk_get rfl (by assumption) rfl ?_
        refine rk_iload rfl rfl ?_
        refine rk_cv1e rfl rfl (by assumption) rfl rfl (Nat.le_of_ble_eq_true rfl) (Nat.le_of_ble_eq_true rfl) (s98B S (by omega)) ?_
        obtain ⟨hv1, hv2⟩ := hst k (by omega)
        refine rk_bipush (v := nI 14) rfl (by decide) ?_
        refine rk_idiv rfl (nI_ne0 (by omega) (by omega)) (pk_div (by omega) (by omega) (by omega)) ?_
        refine rk_istore rfl (Nat.le_of_ble_eq_true rfl) rfl ?_
        refine rk_aload_n rfl rfl ?_
        refine rk_get rfl (by assumption) rfl ?_
        refine rk_iload rfl rfl ?_
        refine rk_cv1e rfl rfl (by assumption) rfl rfl (Nat.le_of_ble_eq_true rfl) (Nat.le_of_ble_eq_true rfl) (s98B S (by omega)) ?_
        obtain ⟨hv1, hv2⟩ := hst k (by omega)
        refine rk_bipush (v := nI 14) rfl (by decide) ?_
        refine rk_irem rfl (nI_ne0 (by omega) (by omega)) (pk_rem (by omega) (by omega) (by omega)) ?_
        refine rk_istore rfl (Nat.le_of_ble_eq_true rfl) rfl ?_
        refine rk_iconst (v := nI 0) rfl (by decide) ?_
        refine rk_istore rfl (Nat.le_of_ble_eq_true rfl) rfl ?_
        refine l19i (B := (bfK (nxD N u) okA (N 1) x k)) hN C d33 R hp hx hu hBk (by omega) ?_ ?_ (N 1 + 1) 0 g _ _ (by omega) (by omega) F S G
        · intro g2 c10 c11 F2 S2 G2
          rw [← bfK_s (by omega)] at S2 G2
          refine rk_iinc rfl rfl (n_inc _) rfl ?_
          refine rk_goto rfl rfl ?_
          exact ih (k + 1) g2 _ _ _ _ _ (by omega) (by have := (bfK_1 (nxD N u) okA (N 1) x k).1; omega) (by omega) F2 S2 G2
        · intro B1 w h1 P1 H1 g1 g2 F3 S3 hw z3
          rw [← bfK_s (by omega)] at P1
          exact ⟨_, _, rfl, F3, S3, CF.found (P1.tr (bfK_pre (by omega))) H1 (by have := H1.1; omega) g1 g2 hw z3⟩
theorem r19 {X : ai_X} {h : ai_H} {N : Nat → Nat} {n33 n0 : Int32} {f0 : Nat → Int32} {p x u : Nat} (hN : HN N) (C : CH h 3 N) (d33 : h[33]? = some (cCo n33)) (R : RouteAt h 15 n0 f0) (hp : 80 ≤ p) (hx : vD N x) (hu : u < 64) (E : SE h 22 p 16384 16384) : Rk X am_19 13 [some (.ref 33), some (.int (nI (x / 14))), some (.int (nI (x % 14))), some (.int (nI u)), some (.ref 15), some (.int (nI (N 270 * 14 + N 270))), none, none, none, none, none, none] [] h (Qi (fun w h1 => FrQ 22 p h h1 ∧ SrchAt h1 22 16384 16384 (some p) ∧ CF h h1 w (bfK (nxD N u) okA (N 1) x 196) (glD N))) := by
  obtain ⟨base, e22⟩ := E.obj
  have hn := hN.n
  have h6 := hN.t
  have hpan := hN.pan
  obtain ⟨hv1, hv2⟩ := id hx
  have hxx : x / 14 * 14 + x % 14 = x := by omega
  have hx196 : x < 196 := by omega
  refine rk_aload_n rfl rfl ?_
  refine rk_get rfl (by first | assumption | exact S1.obj.choose_spec) rfl ?_
  refine rk_iload_n rfl rfl ?_
  refine rk_bipush (v := nI 14) rfl (by decide) ?_
  refine rk_imul rfl (pk_mul _ _) ?_
  refine rk_iload_n rfl rfl ?_
  refine rk_iadd rfl (nI_add _ _) ?_
  rw [hxx]
  refine rk_iconst (v := (-1)) rfl (by decide) ?_
  refine rk_iconst (v := nI 0) rfl (by decide) ?_
  refine rk_cv3i rfl rfl (by first | assumption | exact S1.obj.choose_spec) rfl rfl (Nat.le_of_ble_eq_true rfl) (Nat.le_of_ble_eq_true rfl) (s101R E (by omega) (by omega)) (fun w h1 hF => ?_)
  obtain ⟨rfl, F1, S1⟩ := hF
  have e33 := (F1.2 33 (by omega) (by omega)).trans d33
  have hB0 := BI.zero (nx := nxD N u) (ok := okA) (T := N 1) (x := x)
  refine rk_pop rfl ?_
  refine rk_iload_n rfl rfl ?_
  refine rk_bipush (v := nI 14) rfl (by decide) ?_
  refine rk_imul rfl (pk_mul _ _) ?_
  refine rk_iload_n rfl rfl ?_
  refine rk_iadd rfl (nI_add _ _) ?_
  rw [hxx]
  refine rk_iload rfl rfl ?_
  refine rk_icmp_ne rfl rfl (fun hc30 => ?_) (fun hc30 => ?_)
  · replace hc30 := mt (nI_eq (by omega) (by omega)).mpr hc30
    refine rk_iconst (v := nI 0) rfl (by decide) ?_
    refine rk_istore rfl (Nat.le_of_ble_eq_true rfl) rfl ?_
    refine (l19 hN C d33 R hp hx hu 197 0 _ none none none none none (by omega) (by omega) (by omega) F1 S1 (fun i hi => ?_))
    have hi' : i < 1 := hi
    exact fun z => hc30 (glD_t.mp z)
  · replace hc30 := Decidable.not_not.mp hc30
    replace hc30 := (nI_eq (by omega) (by omega)).mp hc30
    refine rk_aload_n rfl rfl ?_
    refine rk_get rfl (by first | assumption | exact S1.obj.choose_spec) rfl ?_
    refine rk_aload rfl rfl ?_
    refine rk_cv1i rfl rfl (by first | assumption | exact S1.obj.choose_spec) rfl rfl (Nat.le_of_ble_eq_true rfl) (Nat.le_of_ble_eq_true rfl) (s102F S1 hB0 (by omega) (by omega) (by omega) F1 R) (fun w h1 hF => ?_)
    obtain ⟨rfl, F3, S3, z3⟩ := hF
    exact rk_ireturn rfl rfl ⟨_, _, rfl, F3, S3, CF.found (k := 0) (bfK_pre (k := 0) (by omega)) hB0 (by show 0 < 1; omega) (glD_t.mpr hc30) (fun i hi => absurd hi (by omega)) rfl z3⟩
theorem srch_obj {h : ai_H} {o cap n : Nat} {b : Option Nat} (S : SrchAt h o cap n b) : ∃ fs, h[o]? = some (.inr (7, fs)) := by
  rcases S with ⟨-, z⟩ | ⟨p, base, many, sl, s1, s2, -, z, -⟩
  · exact ⟨_, z⟩
  · exact ⟨_, z⟩
/-- behind 'begin' the other cells are as they were -/
theorem begin_CE {h h2 h3 : ai_H} {b : Option Nat} {w W : Int32} {B : Bf} {g : Nat → Bool} (hl : 80 ≤ h.length) (hp80 : 80 ≤ np b h.length) (F2 : FrN 22 (np b h.length) (nc b) h h2) (F3 : FrQ 22 (np b h.length) h2 h3) (S3 : SrchAt h3 22 16384 16384 (some (np b h.length))) (z3 : CF h2 h3 w B g) (hw : w = W) (c25 : ∃ f, h[25]? = some (cI 1536 f) ∧ ∀ j, j < 12 → f (128 * j) = 0) (O33 : ∃ n, h[33]? = some (.inr (1, [.ref 3, .ref 22, .ref 34, .ref 35, .int n]))) : CE h h3 b W B g := by
  subst hw
  have k3 : ∀ q : Nat, q < h.length → q ≠ 22 → ¬ (np b h.length ≤ q ∧ q < np b h.length + 3) → q ≠ 15 → q ≠ 16 → h3[q]? = h[q]? := fun q a1 a2 a3 a4 a5 => (F3.2 q a4 a5 a2 a3).trans (F2.2 q a1 a2 a3)
  obtain ⟨f, g1, g2⟩ := c25
  obtain ⟨n, o⟩ := O33
  refine ⟨F3.1.trans F2.1, fun q a1 a2 a3 a4 _ _ _ a8 => k3 q a1 a4 a8 a2 a3, ⟨f, (k3 25 (by omega) (by omega) (by omega) (by omega) (by omega)).trans g1, g2⟩, ⟨n, (k3 33 (by omega) (by omega) (by omega) (by omega) (by omega)).trans o⟩, S3, ?_⟩
  have e15 : h2[15]? = h[15]? := F2.2 15 (by omega) (by omega) (by omega)
  have e16 : h2[16]? = h[16]? := F2.2 16 (by omega) (by omega) (by omega)
  unfold CF at z3 ⊢
  rw [e15, e16] at z3
  exact z3
theorem s19 {X : ai_X} {h : ai_H} {N : Nat → Nat} {n33 n0 : Int32} {f0 : Nat → Int32} {b : Option Nat} {x u : Nat} (hN : HN N) (C : CH h 3 N) (d33 : h[33]? = some (cCo n33)) (R : RouteAt h 15 n0 f0) (S : SrchAt h 22 16384 16384 b) (hb : ∀ p, b = some p → 80 ≤ p) (hl : 80 ≤ h.length) (c25 : ∃ f, h[25]? = some (cI 1536 f) ∧ ∀ j, j < 12 → f (128 * j) = 0) (hx : vD N x) (hu : u < 64) : Mt X am_19 [.ref 33, .int (nI (x / 14)), .int (nI (x % 14)), .int (nI u), .ref 15] h (Qn (nc b) (ns b 49152) (Qi (fun w h1 => w = ans (bfK (nxD N u) okA (N 1) x 196) (glD N) ∧ CE h h1 b (ans (bfK (nxD N u) okA (N 1) x 196) (glD N)) (bfK (nxD N u) okA (N 1) x 196) (glD N)))) := by
  have e3 := C.1
  have hpan := hN.pan
  have hp80 := np_80 hb hl
  obtain ⟨fs22, e22⟩ := srch_obj S
  have E1 := s96b (X := X) S (fun p e => by have := hb p e; omega) (Or.inl rfl) (by omega) (by omega)
  refine rk_aload_n rfl rfl ?_
  refine rk_get rfl (by assumption) rfl ?_
  refine rk_get rfl (by assumption) rfl ?_
  refine rk_bipush (v := nI 14) rfl (by decide) ?_
  refine rk_imul rfl (pk_mul _ _) ?_
  refine rk_aload_n rfl rfl ?_
  refine rk_get rfl (by assumption) rfl ?_
  refine rk_get rfl (by assumption) rfl ?_
  refine rk_iadd rfl (nI_add _ _) ?_
  refine rk_istore rfl (Nat.le_of_ble_eq_true rfl) rfl ?_
  refine rk_aload_n rfl rfl ?_
  refine rk_get rfl (by assumption) rfl ?_
  refine rk_cq0v rfl rfl e22 rfl rfl (Nat.le_of_ble_eq_true rfl) (Nat.le_of_ble_eq_true rfl) E1 (fun h2 hF => ?_)
  obtain ⟨F2, E2⟩ := hF
  have k2 : ∀ q : Nat, q < 80 → q ≠ 22 → h2[q]? = h[q]? := fun q hq h22 => F2.2 q (by omega) h22 (by omega)
  refine (r19 hN (C.fr (fun q _ _ => k2 q (by omega) (by omega))) ((k2 33 (by omega) (by omega)).trans d33) (R.fr (fun q _ _ => k2 q (by omega) (by omega))) hp80 hx hu E2).mono ?_
  rintro o ⟨w, h3, rfl, F3, S3, z3⟩
  exact ⟨_, _, rfl, z3.w, begin_CE hl hp80 F2 F3 S3 z3 z3.w c25 ⟨_, d33⟩⟩
theorem s165 {X : ai_X} {h : ai_H} {tp : Int32} {N : Nat → Nat} (d0 : h[0]? = some (cOne tp)) (hN : HN N) (C : CH h 3 N) (a b : Int32) : Mt X am_165 [.ref 0, .int a, .int b] h (Qe (bI ((¬ a < 0 ∧ ¬ nI (N 271) ≤ a) ∧ (¬ b < 0 ∧ ¬ nI (N 271) ≤ b) ∧ ¬ a = b)) h) := by
  have e3 := C.1
  refine rk_aload_n rfl rfl ?_
  refine rk_get rfl (by assumption) rfl ?_
  refine rk_iload_n rfl rfl ?_
  refine rk_cv1e rfl rfl (by assumption) rfl rfl (Nat.le_of_ble_eq_true rfl) (Nat.le_of_ble_eq_true rfl) (s25N C _) ?_
  refine rk_if_eq rfl rfl (fun hc4 => ?_) (fun hc4 => ?_)
  · replace hc4 := (bI_0).mp hc4
    refine rk_iconst (v := nI 0) rfl (by decide) ?_
    first | exact rk_ireturn rfl (by decide) (Qe_of (by rw [bI_t ⟨by assumption, by assumption, by assumption⟩]; rfl)) | exact rk_ireturn rfl (by decide) (Qe_of (by rw [bI_f (fun z => absurd z.1 (by assumption))]; rfl)) | exact rk_ireturn rfl (by decide) (Qe_of (by rw [bI_f (fun z => absurd z.2.1 (by assumption))]; rfl)) | exact rk_ireturn rfl (by decide) (Qe_of (by rw [bI_f (fun z => absurd (by assumption) z.2.2)]; rfl))
  · replace hc4 := Decidable.not_not.mp (mt bI_0.mpr hc4)
    refine rk_aload_n rfl rfl ?_
    refine rk_get rfl (by assumption) rfl ?_
    refine rk_iload_n rfl rfl ?_
    refine rk_cv1e rfl rfl (by assumption) rfl rfl (Nat.le_of_ble_eq_true rfl) (Nat.le_of_ble_eq_true rfl) (s25N C _) ?_
    refine rk_if_eq rfl rfl (fun hc9 => ?_) (fun hc9 => ?_)
    · replace hc9 := (bI_0).mp hc9
      refine rk_iconst (v := nI 0) rfl (by decide) ?_
      first | exact rk_ireturn rfl (by decide) (Qe_of (by rw [bI_t ⟨by assumption, by assumption, by assumption⟩]; rfl)) | exact rk_ireturn rfl (by decide) (Qe_of (by rw [bI_f (fun z => absurd z.1 (by assumption))]; rfl)) | exact rk_ireturn rfl (by decide) (Qe_of (by rw [bI_f (fun z => absurd z.2.1 (by assumption))]; rfl)) | exact rk_ireturn rfl (by decide) (Qe_of (by rw [bI_f (fun z => absurd (by assumption) z.2.2)]; rfl))
    · replace hc9 := Decidable.not_not.mp (mt bI_0.mpr hc9)
      refine rk_iload_n rfl rfl ?_
      refine rk_iload_n rfl rfl ?_
      refine rk_icmp_eq rfl rfl (fun hc12 => ?_) (fun hc12 => ?_)
      · refine rk_iconst (v := nI 0) rfl (by decide) ?_
        first | exact rk_ireturn rfl (by decide) (Qe_of (by rw [bI_t ⟨by assumption, by assumption, by assumption⟩]; rfl)) | exact rk_ireturn rfl (by decide) (Qe_of (by rw [bI_f (fun z => absurd z.1 (by assumption))]; rfl)) | exact rk_ireturn rfl (by decide) (Qe_of (by rw [bI_f (fun z => absurd z.2.1 (by assumption))]; rfl)) | exact rk_ireturn rfl (by decide) (Qe_of (by rw [bI_f (fun z => absurd (by assumption) z.2.2)]; rfl))
      · refine rk_iconst (v := nI 1) rfl (by decide) ?_
        refine rk_goto rfl rfl ?_
        first | exact rk_ireturn rfl (by decide) (Qe_of (by rw [bI_t ⟨by assumption, by assumption, by assumption⟩]; rfl)) | exact rk_ireturn rfl (by decide) (Qe_of (by rw [bI_f (fun z => absurd z.1 (by assumption))]; rfl)) | exact rk_ireturn rfl (by decide) (Qe_of (by rw [bI_f (fun z => absurd z.2.1 (by assumption))]; rfl)) | exact rk_ireturn rfl (by decide) (Qe_of (by rw [bI_f (fun z => absurd (by assumption) z.2.2)]; rfl))
theorem c162_x {X : ai_X} {h : ai_H} {tp : Int32} {N : Nat → Nat} (d0 : h[0]? = some (cOne tp)) (hN : HN N) (C : CH h 3 N) {a b c : Int32} (hx : ¬ ((¬ a < 0 ∧ ¬ nI (N 271) ≤ a) ∧ (¬ b < 0 ∧ ¬ nI (N 271) ≤ b) ∧ ¬ a = b)) : Mt X am_162 [.ref 0, .int a, .int b, .int c] h (Qe (-2) h) := by
  have e3 := C.1
  refine rk_aload_n rfl rfl ?_
  refine rk_iload_n rfl rfl ?_
  refine rk_iload_n rfl rfl ?_
  refine rk_cv2e rfl rfl (by assumption) rfl rfl (Nat.le_of_ble_eq_true rfl) (Nat.le_of_ble_eq_true rfl) (s165 d0 hN C a b) ?_
  refine rk_if_ne rfl rfl (fun hc4 => ?_) (fun hc4 => ?_)
  · replace hc4 := Decidable.not_not.mp (mt bI_0.mpr hc4)
    exact absurd hc4 hx
  · replace hc4 := Decidable.not_not.mp hc4
    replace hc4 := (bI_0).mp hc4
    refine rk_bipush (v := (-2)) rfl (by decide) ?_
    exact rk_ireturn rfl rfl Qe_mk
theorem c162_y {X : ai_X} {h : ai_H} {tp : Int32} {N : Nat → Nat} (d0 : h[0]? = some (cOne tp)) (hN : HN N) (C : CH h 3 N) {a b c : Int32} (hx : ((¬ a < 0 ∧ ¬ nI (N 271) ≤ a) ∧ (¬ b < 0 ∧ ¬ nI (N 271) ≤ b) ∧ ¬ a = b)) (hy : ¬ (¬ c < 0 ∧ ¬ nI (2 ^ N 1) ≤ c)) : Mt X am_162 [.ref 0, .int a, .int b, .int c] h (Qe (-3) h) := by
  have e3 := C.1
  have h6 := hN.t
  refine rk_aload_n rfl rfl ?_
  refine rk_iload_n rfl rfl ?_
  refine rk_iload_n rfl rfl ?_
  refine rk_cv2e rfl rfl (by assumption) rfl rfl (Nat.le_of_ble_eq_true rfl) (Nat.le_of_ble_eq_true rfl) (s165 d0 hN C a b) ?_
  refine rk_if_ne rfl rfl (fun hc4 => ?_) (fun hc4 => ?_)
  · replace hc4 := Decidable.not_not.mp (mt bI_0.mpr hc4)
    refine rk_iload_n rfl rfl ?_
    refine rk_if_lt rfl rfl (fun hc8 => ?_) (fun hc8 => ?_)
    · refine rk_bipush (v := (-3)) rfl (by decide) ?_
      exact rk_ireturn rfl rfl Qe_mk
    · refine rk_iload_n rfl rfl ?_
      refine rk_iconst (v := nI 1) rfl (by decide) ?_
      refine rk_aload_n rfl rfl ?_
      refine rk_get rfl (by assumption) rfl ?_
      refine rk_get rfl (by assumption) rfl ?_
      refine rk_ishl rfl (b_1shlU (by omega)) ?_
      refine rk_icmp_lt rfl rfl (fun hc15 => ?_) (fun hc15 => ?_)
      · exact absurd ⟨hc8, fun z => i32_le.mp z hc15⟩ hy
      · refine rk_bipush (v := (-3)) rfl (by decide) ?_
        exact rk_ireturn rfl rfl Qe_mk
  · replace hc4 := Decidable.not_not.mp hc4
    replace hc4 := (bI_0).mp hc4
    exact absurd hx hc4
theorem pw6 {n : Nat} (h : n ≤ 6) : 2 ^ n ≤ 64 := Nat.pow_le_pow_right (n := 2) (by decide) h
theorem c162_v {X : ai_X} {h : ai_H} {tp : Int32} {N : Nat → Nat} {n33 n0 : Int32} {f0 : Nat → Int32} {b : Option Nat} {a c u : Nat} (d0 : h[0]? = some (cOne tp)) (hN : HN N) (C : CH h 3 N) (d33 : h[33]? = some (cCo n33)) (R : RouteAt h 15 n0 f0) (S : SrchAt h 22 16384 16384 b) (hb : ∀ p, b = some p → 80 ≤ p) (hl : 80 ≤ h.length) (c25 : ∃ f, h[25]? = some (cI 1536 f) ∧ ∀ j, j < 12 → f (128 * j) = 0) (ha : a < N 271) (hc : c < N 271) (hac : ¬ a = c) (hu : u < 2 ^ N 1) : Mt X am_162 [.ref 0, .int (nI a), .int (nI c), .int (nI u)] h (Qn (nc b) (ns b 49152) (Qi (fun w h1 => w = ans (bfK (nxD N u) okA (N 1) (wt N a * 14 + wt N c) 196) (glD N) ∧ CE h h1 b (ans (bfK (nxD N u) okA (N 1) (wt N a * 14 + wt N c) 196) (glD N)) (bfK (nxD N u) okA (N 1) (wt N a * 14 + wt N c) 196) (glD N)))) := by
  have e3 := C.1
  have h6 := hN.t
  have hn := hN.n
  have hw8 := hN.w
  have h64 := pw6 h6
  have hwa := hN.xwt ha
  have hwc := hN.xwt hc
  have hx1 : (wt N a * 14 + wt N c) / 14 = wt N a := by omega
  have hx2 : (wt N a * 14 + wt N c) % 14 = wt N c := by omega
  have hvx : vD N (wt N a * 14 + wt N c) := ⟨by omega, by omega⟩
  have hne : ¬ nI a = nI c := fun z => hac ((nI_eq (by omega) (by omega)).mp z)
  refine rk_aload_n rfl rfl ?_
  refine rk_iload_n rfl rfl ?_
  refine rk_iload_n rfl rfl ?_
  refine rk_cv2e rfl rfl (by assumption) rfl rfl (Nat.le_of_ble_eq_true rfl) (Nat.le_of_ble_eq_true rfl) (s165 d0 hN C _ _) ?_
  refine rk_if_ne rfl rfl (fun hc4 => ?_) (fun hc4 => ?_)
  · replace hc4 := Decidable.not_not.mp (mt bI_0.mpr hc4)
    refine rk_iload_n rfl rfl ?_
    refine rk_if_lt rfl rfl (fun hc8 => ?_) (fun hc8 => ?_)
    · replace hc8 := (n0_lt (by omega)).mp hc8
      exact hc8.elim
    · replace hc8 := mt (n0_lt (by omega)).mpr hc8
      refine rk_iload_n rfl rfl ?_
      refine rk_iconst (v := nI 1) rfl (by decide) ?_
      refine rk_aload_n rfl rfl ?_
      refine rk_get rfl (by assumption) rfl ?_
      refine rk_get rfl (by assumption) rfl ?_
      refine rk_ishl rfl (b_1shlU (by omega)) ?_
      refine rk_icmp_lt rfl rfl (fun hc15 => ?_) (fun hc15 => ?_)
      · replace hc15 := (nI_ltI (by omega) (by omega)).mp hc15
        refine rk_aload_n rfl rfl ?_
        refine rk_get rfl (by assumption) rfl ?_
        refine rk_aload_n rfl rfl ?_
        refine rk_get rfl (by assumption) rfl ?_
        refine rk_iload_n rfl rfl ?_
        refine rk_cv1e rfl rfl (by assumption) rfl rfl (Nat.le_of_ble_eq_true rfl) (Nat.le_of_ble_eq_true rfl) (s31N C ha hN) ?_
        refine rk_aload_n rfl rfl ?_
        refine rk_get rfl (by assumption) rfl ?_
        refine rk_iload_n rfl rfl ?_
        refine rk_cv1e rfl rfl (by assumption) rfl rfl (Nat.le_of_ble_eq_true rfl) (Nat.le_of_ble_eq_true rfl) (s31N C hc hN) ?_
        refine rk_iload_n rfl rfl ?_
        refine rk_aload_n rfl rfl ?_
        refine rk_get rfl (by assumption) rfl ?_
        have z := s19 (X := X) (x := (wt N a * 14 + wt N c)) (u := u) hN C d33 R S hb hl c25 hvx (by omega)
        rw [hx1, hx2] at z
        refine rk_cq4i rfl rfl d33 rfl rfl (Nat.le_of_ble_eq_true rfl) (Nat.le_of_ble_eq_true rfl) z (fun w h1 hF => ?_)
        exact rk_ireturn rfl rfl ⟨_, _, rfl, hF⟩
      · replace hc15 := mt (nI_ltI (by omega) (by omega)).mpr hc15
        omega
  · replace hc4 := Decidable.not_not.mp hc4
    replace hc4 := (bI_0).mp hc4
    exact absurd ⟨in_mk (by omega) ha, in_mk (by omega) hc, hne⟩ hc4
theorem l269i {X : ai_X} {h : ai_H} {w A : Nat → Int32} {N : Nat → Nat} {mk a1 a2 x u : Nat} (c53 : h[53]? = some (cI 2346 A)) (hN : HN N) (M : MH A N) (hx : vD N x) (hu : u < 64) {k : Nat} {B : Bf} (hB : BI (nxD N u) okA (N 1) x B) (hk : k < B.m) {P : ai_O → Prop} (z1 : ∀ g, FrM h g → MB g w mk (fun x => x / 14) (fun x => x % 14) (bfT (nxD N u) okA B k (N 1)) → Rk X am_269 120 [some (.ref 52), some (.int (nI a1)), some (.int (nI a2)), some (.int (nI u)), some (.int (nI k)), some (.int (nI (N 1)))] [] g P) : ∀ (d : Nat) (t : Nat) (g : ai_H), N 1 < t + d → (t ≤ N 1) → (FrM h g) → (MB g w mk (fun x => x / 14) (fun x => x % 14) (bfT (nxD N u) okA B k t)) → Rk X am_269 81 [some (.ref 52), some (.int (nI a1)), some (.int (nI a2)), some (.int (nI u)), some (.int (nI k)), some (.int (nI t))] [] g (P) := by
  intro d
  induction d with
  | zero => intro t g hd ht F S; exfalso; omega
  | succ d ih =>
    intro t g hd ht F S
    obtain ⟨a0, a1', a268, a269, a270, a271, apl, apc, aot, asg, awt⟩ := id M
    have a1 := a1'
    obtain ⟨v, e52, hv21, hv22, -⟩ := S.obj
    obtain ⟨f57, f58, e57, e58, hsts⟩ := S.sts
    have hst1 : ∀ i, i < (bfT (nxD N u) okA B k t).m → f57 i = nI ((bfT (nxD N u) okA B k t).st i / 14) := fun i hi => (hsts i hi).1
    have hst2 : ∀ i, i < (bfT (nxD N u) okA B k t).m → f58 i = nI ((bfT (nxD N u) okA B k t).st i % 14) := fun i hi => (hsts i hi).2
    have e53 := (F.2 53 (by omega) (by omega)).trans c53
    have h6 := hN.t
    have hn := hN.n
    have hpan := hN.pan
    have hBt := hB.tones hk t ht
    have hkt : k < (bfT (nxD N u) okA B k t).m := Nat.lt_of_lt_of_le hk (bfT_pre _ _ B k t).1
    obtain ⟨hst, hm16⟩ := deaf_bd hN hx hBt
    obtain ⟨hv1, hv2⟩ := hst k hkt
    have hut := bt_01 u t
    have hT1 := bfT_ok (nx := nxD N u) (ok := okA) (B := B) (k := k) (t := t) rfl
    refine rk_iload rfl rfl ?_
    refine rk_aload_n rfl rfl ?_
    refine rk_get rfl (by assumption) rfl ?_
    refine rk_iconst (v := nI 1) rfl (by decide) ?_
    refine rk_iald rfl (by assumption) (rfl) (by omega) (by decide) ?_
    rw [a1]
    refine rk_icmp_ge rfl rfl (fun hc86 => ?_) (fun hc86 => ?_)
    · replace hc86 := (nI_leI (by omega) (by omega)).mp hc86
      have ht2 : t = N 1 := by omega
      subst ht2
      exact z1 g F S
    · replace hc86 := mt (nI_leI (by omega) (by omega)).mpr hc86
      refine rk_aload_n rfl rfl ?_
      refine rk_aload_n rfl rfl ?_
      refine rk_aload_n rfl rfl ?_
      refine rk_get rfl (by assumption) rfl ?_
      refine rk_iload rfl rfl ?_
      refine rk_iald rfl (by assumption) (rfl) (by omega) (by decide) ?_
      rw [hst1 k hkt]
      refine rk_iload rfl rfl ?_
      refine rk_cv2e rfl rfl (by assumption) rfl rfl (Nat.le_of_ble_eq_true rfl) (Nat.le_of_ble_eq_true rfl) (s210N e52 e53 M hN hv1 (by omega)) ?_
      have hp1 := hN.xpl hv1 (i := t) (by omega)
      refine rk_iload_n rfl rfl ?_
      refine rk_iload rfl rfl ?_
      refine rk_ishr rfl (b_shr (by omega) (by omega)) ?_
      refine rk_iconst (v := nI 1) rfl (by decide) ?_
      refine rk_iand rfl (b_and1U _) ?_
      refine rk_iconst (v := nI 1) rfl (by decide) ?_
      refine rk_icmp_ne rfl rfl (fun hc101 => ?_) (fun hc101 => ?_)
      · replace hc101 := mt (nI_eq (by omega) (by omega)).mpr hc101
        have hnx := nxD_0 (N := N) (x := (bfT (nxD N u) okA B k t).st k) (u := u) (t := t) (by omega)
        refine rk_aload_n rfl rfl ?_
        refine rk_aload_n rfl rfl ?_
        refine rk_get rfl (by assumption) rfl ?_
        refine rk_iload rfl rfl ?_
        refine rk_iald rfl (by assumption) (rfl) (by omega) (by decide) ?_
        rw [hst2 k hkt]
        refine rk_iload rfl rfl ?_
        refine rk_cv2e rfl rfl (by assumption) rfl rfl (Nat.le_of_ble_eq_true rfl) (Nat.le_of_ble_eq_true rfl) (s210N e52 e53 M hN hv2 (by omega)) ?_
        have hp2 := hN.xpl hv2 (i := t) (by omega)
        refine rk_iload rfl rfl ?_
        refine rk_iload rfl rfl ?_
        refine rk_cv4i rfl rfl (by assumption) rfl rfl (Nat.le_of_ble_eq_true rfl) (Nat.le_of_ble_eq_true rfl) (s232C (r1 := fun x => x / 14) (r2 := fun x => x % 14) (x := nxD N u ((bfT (nxD N u) okA B k t).st k) t) S hBt.1 (by rw [hnx]; omega) (by rw [hnx]; omega) (by omega) (by omega) (fun i _ z1 z2 => by omega) (by omega)) (fun w h1 hF => ?_)
        obtain ⟨rfl, F1, S1⟩ := hF
        rw [← hT1] at S1
        refine rk_pop rfl ?_
        refine rk_iinc rfl rfl (n_inc _) rfl ?_
        refine rk_goto rfl rfl ?_
        exact ih (t + 1) _ (by omega) (by omega) (F.tr F1) S1
      · replace hc101 := Decidable.not_not.mp hc101
        replace hc101 := (nI_eq (by omega) (by omega)).mp hc101
        have hnx := nxD_1 (N := N) (x := (bfT (nxD N u) okA B k t).st k) (u := u) (t := t) (by omega)
        refine rk_aload_n rfl rfl ?_
        refine rk_get rfl (by assumption) rfl ?_
        refine rk_iload rfl rfl ?_
        refine rk_iald rfl (by assumption) (rfl) (by omega) (by decide) ?_
        rw [hst2 k hkt]
        refine rk_goto rfl rfl ?_
        refine rk_iload rfl rfl ?_
        refine rk_iload rfl rfl ?_
        refine rk_cv4i rfl rfl (by assumption) rfl rfl (Nat.le_of_ble_eq_true rfl) (Nat.le_of_ble_eq_true rfl) (s232C (r1 := fun x => x / 14) (r2 := fun x => x % 14) (x := nxD N u ((bfT (nxD N u) okA B k t).st k) t) S hBt.1 (by rw [hnx]; omega) (by rw [hnx]; omega) (by omega) (by omega) (fun i _ z1 z2 => by omega) (by omega)) (fun w h1 hF => ?_)
        obtain ⟨rfl, F1, S1⟩ := hF
        rw [← hT1] at S1
        refine rk_pop rfl ?_
        refine rk_iinc rfl rfl (n_inc _) rfl ?_
        refine rk_goto rfl rfl ?_
        exact ih (t + 1) _ (by omega) (by omega) (F.tr F1) S1
theorem l269 {X : ai_X} {h : ai_H} {w A : Nat → Int32} {N : Nat → Nat} {mk a1 a2 x u : Nat} (c53 : h[53]? = some (cI 2346 A)) (hN : HN N) (M : MH A N) (hx : vD N x) (hu : u < 64) : ∀ (d : Nat) (k : Nat) (g : ai_H) (c5 : Option Value), 196 < k + d → (k ≤ (bfK (nxD N u) okA (N 1) x k).m) → (k ≤ 196) → (FrM h g) → (MB g w mk (fun x => x / 14) (fun x => x % 14) (bfK (nxD N u) okA (N 1) x k)) → ((∀ i, i < k → ¬ glD N ((bfK (nxD N u) okA (N 1) x k).st i) = true)) → Rk X am_269 53 [some (.ref 52), some (.int (nI a1)), some (.int (nI a2)), some (.int (nI u)), some (.int (nI k)), c5] [] g (Qi (fun y h1 => y = ans (bfK (nxD N u) okA (N 1) x 196) (glD N) ∧ FrF h h1 ∧ MW h1 w mk ∧ ∃ A1, h1[53]? = some (cI 2346 A1) ∧ MF A A1 y (bfK (nxD N u) okA (N 1) x 196) (glD N))) := by
  intro d
  induction d with
  | zero => intro k g c5 hd hk hk2 F S G; exfalso; omega
  | succ d ih =>
    intro k g c5 hd hk hk2 F S G
    obtain ⟨a0, a1', a268, a269, a270, a271, apl, apc, aot, asg, awt⟩ := id M
    have a1 := a1'
    obtain ⟨v, e52, hv21, hv22, -⟩ := S.obj
    obtain ⟨f57, f58, e57, e58, hsts⟩ := S.sts
    have hst1 : ∀ i, i < (bfK (nxD N u) okA (N 1) x k).m → f57 i = nI ((bfK (nxD N u) okA (N 1) x k).st i / 14) := fun i hi => (hsts i hi).1
    have hst2 : ∀ i, i < (bfK (nxD N u) okA (N 1) x k).m → f58 i = nI ((bfK (nxD N u) okA (N 1) x k).st i % 14) := fun i hi => (hsts i hi).2
    have e53 := (F.2 53 (by omega) (by omega)).trans c53
    have h6 := hN.t
    have hn := hN.n
    have hpan := hN.pan
    have hBk := BI.heads (nx := nxD N u) (ok := okA) (T := N 1) (x := x) k
    obtain ⟨hst, hm16⟩ := deaf_bd hN hx hBk
    refine rk_iload rfl rfl ?_
    refine rk_aload_n rfl rfl ?_
    refine rk_get rfl (by assumption) rfl ?_
    rw [hv21]
    refine rk_icmp_ge rfl rfl (fun hc56 => ?_) (fun hc56 => ?_)
    · replace hc56 := (nI_leI (by omega) (by omega)).mp hc56
      refine rk_iconst (v := (-1)) rfl (by decide) ?_
      have hend := bfK_end (nx := nxD N u) (ok := okA) (T := N 1) (x := x) (k := k) (W := 196) (by omega) (by omega)
      have mf : MF A A (-1) (bfK (nxD N u) okA (N 1) x 196) (glD N) := MF.none (by rw [hend]; exact fun i hi => G i (by omega))
      refine rk_ireturn rfl rfl ⟨_, _, rfl, mf.w, F.f, S.mw, A, e53, mf⟩
    · replace hc56 := mt (nI_leI (by omega) (by omega)).mpr hc56
      refine rk_aload_n rfl rfl ?_
      refine rk_get rfl (by assumption) rfl ?_
      refine rk_iload rfl rfl ?_
      refine rk_iald rfl (by assumption) (rfl) (by omega) (by decide) ?_
      rw [hst1 k (by omega)]
      obtain ⟨hv1, hv2⟩ := hst k (by omega)
      refine rk_aload_n rfl rfl ?_
      refine rk_get rfl (by assumption) rfl ?_
      refine rk_sipush (v := nI 270) rfl (by decide) ?_
      refine rk_iald rfl (by assumption) (rfl) (by omega) (by decide) ?_
      rw [a270]
      refine rk_icmp_ne rfl rfl (fun hc65 => ?_) (fun hc65 => ?_)
      · replace hc65 := mt (nI_eq (by omega) (by omega)).mpr hc65
        have hng : ¬ glD N ((bfK (nxD N u) okA (N 1) x k).st k) = true := fun z => hc65 (by have := glD_t.mp z; omega)
        refine rk_iconst (v := nI 0) rfl (by decide) ?_
        refine rk_istore rfl (Nat.le_of_ble_eq_true rfl) rfl ?_
        refine l269i (B := (bfK (nxD N u) okA (N 1) x k)) c53 hN M hx hu hBk (by omega) ?_ (N 1 + 1) 0 g (by omega) (by omega) F S
        intro g2 F2 S2
        rw [← bfK_s (by omega)] at S2
        refine rk_iinc rfl rfl (n_inc _) rfl ?_
        refine rk_goto rfl rfl ?_
        have hpk := bfK_1 (nxD N u) okA (N 1) x k
        have hp1 := hpk.1
        refine ih (k + 1) g2 _ (by omega) (by omega) (by omega) F2 S2 (fun i hi => ?_)
        rw [(hpk.2 i (by omega)).1]
        by_cases z : i = k
        · subst z; exact hng
        · exact G i (by omega)
      · replace hc65 := Decidable.not_not.mp hc65
        replace hc65 := (nI_eq (by omega) (by omega)).mp hc65
        refine rk_aload_n rfl rfl ?_
        refine rk_get rfl (by assumption) rfl ?_
        refine rk_iload rfl rfl ?_
        refine rk_iald rfl (by assumption) (rfl) (by omega) (by decide) ?_
        rw [hst2 k (by omega)]
        refine rk_aload_n rfl rfl ?_
        refine rk_get rfl (by assumption) rfl ?_
        refine rk_sipush (v := nI 270) rfl (by decide) ?_
        refine rk_iald rfl (by assumption) (rfl) (by omega) (by decide) ?_
        rw [a270]
        refine rk_icmp_ne rfl rfl (fun hc74 => ?_) (fun hc74 => ?_)
        · replace hc74 := mt (nI_eq (by omega) (by omega)).mpr hc74
          have hng : ¬ glD N ((bfK (nxD N u) okA (N 1) x k).st k) = true := fun z => hc74 (by have := glD_t.mp z; omega)
          refine rk_iconst (v := nI 0) rfl (by decide) ?_
          refine rk_istore rfl (Nat.le_of_ble_eq_true rfl) rfl ?_
          refine l269i (B := (bfK (nxD N u) okA (N 1) x k)) c53 hN M hx hu hBk (by omega) ?_ (N 1 + 1) 0 g (by omega) (by omega) F S
          intro g2 F2 S2
          rw [← bfK_s (by omega)] at S2
          refine rk_iinc rfl rfl (n_inc _) rfl ?_
          refine rk_goto rfl rfl ?_
          have hpk := bfK_1 (nxD N u) okA (N 1) x k
          have hp1 := hpk.1
          refine ih (k + 1) g2 _ (by omega) (by omega) (by omega) F2 S2 (fun i hi => ?_)
          rw [(hpk.2 i (by omega)).1]
          by_cases z : i = k
          · subst z; exact hng
          · exact G i (by omega)
        · replace hc74 := Decidable.not_not.mp hc74
          replace hc74 := (nI_eq (by omega) (by omega)).mp hc74
          have hgo : glD N ((bfK (nxD N u) okA (N 1) x k).st k) = true := glD_t.mpr (by omega)
          refine rk_aload_n rfl rfl ?_
          refine rk_iload rfl rfl ?_
          refine rk_cv1i rfl rfl (by assumption) rfl rfl (Nat.le_of_ble_eq_true rfl) (Nat.le_of_ble_eq_true rfl) (s237F c53 F S hBk (bfK_pre (W := 196) (by omega)) (by omega) hgo G) (fun w h1 hF => ?_)
          exact rk_ireturn rfl rfl ⟨_, _, rfl, hF⟩
theorem m269_x {X : ai_X} {h : ai_H} {v A : Nat → Int32} {N : Nat → Nat} (c0 : h[52]? = some (cMdl v)) (c1 : h[53]? = some (cI 2346 A)) (hN : HN N) (M : MH A N) {a b c : Int32} (hx : ¬ ((¬ a < 0 ∧ ¬ nI (N 271) ≤ a) ∧ (¬ b < 0 ∧ ¬ nI (N 271) ≤ b) ∧ ¬ a = b)) : Rk X am_269 3 (ai_loc (ai_mL am_269) [.ref 52, .int a, .int b, .int c]) [] h (Qe (-2) h) := by
  obtain ⟨a0, a1, a268, a269, a270, a271, apl, apc, aot, asg, awt⟩ := id M
  refine rk_aload_n rfl rfl ?_
  refine rk_iload_n rfl rfl ?_
  refine rk_cv1e rfl rfl (by assumption) rfl rfl (Nat.le_of_ble_eq_true rfl) (Nat.le_of_ble_eq_true rfl) (s209n c0 c1 a271 (by have := hN.w; omega) _) ?_
  refine rk_if_eq rfl rfl (fun hc6 => ?_) (fun hc6 => ?_)
  · replace hc6 := (bI_0).mp hc6
    refine rk_bipush (v := (-2)) rfl (by decide) ?_
    exact rk_ireturn rfl rfl Qe_mk
  · replace hc6 := Decidable.not_not.mp (mt bI_0.mpr hc6)
    refine rk_aload_n rfl rfl ?_
    refine rk_iload_n rfl rfl ?_
    refine rk_cv1e rfl rfl (by assumption) rfl rfl (Nat.le_of_ble_eq_true rfl) (Nat.le_of_ble_eq_true rfl) (s209n c0 c1 a271 (by have := hN.w; omega) _) ?_
    refine rk_if_eq rfl rfl (fun hc10 => ?_) (fun hc10 => ?_)
    · replace hc10 := (bI_0).mp hc10
      refine rk_bipush (v := (-2)) rfl (by decide) ?_
      exact rk_ireturn rfl rfl Qe_mk
    · replace hc10 := Decidable.not_not.mp (mt bI_0.mpr hc10)
      refine rk_iload_n rfl rfl ?_
      refine rk_iload_n rfl rfl ?_
      refine rk_icmp_ne rfl rfl (fun hc13 => ?_) (fun hc13 => ?_)
      · exact absurd ⟨hc6, hc10, hc13⟩ hx
      · replace hc13 := Decidable.not_not.mp hc13
        refine rk_bipush (v := (-2)) rfl (by decide) ?_
        exact rk_ireturn rfl rfl Qe_mk
theorem m269_y {X : ai_X} {h : ai_H} {v A : Nat → Int32} {N : Nat → Nat} (c0 : h[52]? = some (cMdl v)) (c1 : h[53]? = some (cI 2346 A)) (hN : HN N) (M : MH A N) {a b c : Int32} (hx : ((¬ a < 0 ∧ ¬ nI (N 271) ≤ a) ∧ (¬ b < 0 ∧ ¬ nI (N 271) ≤ b) ∧ ¬ a = b)) (hy : ¬ (¬ c < 0 ∧ ¬ nI (2 ^ N 1) ≤ c)) : Rk X am_269 3 (ai_loc (ai_mL am_269) [.ref 52, .int a, .int b, .int c]) [] h (Qe (-3) h) := by
  obtain ⟨a0, a1, a268, a269, a270, a271, apl, apc, aot, asg, awt⟩ := id M
  have h6 := hN.t
  have h64 := pw6 h6
  refine rk_aload_n rfl rfl ?_
  refine rk_iload_n rfl rfl ?_
  refine rk_cv1e rfl rfl (by assumption) rfl rfl (Nat.le_of_ble_eq_true rfl) (Nat.le_of_ble_eq_true rfl) (s209n c0 c1 a271 (by have := hN.w; omega) _) ?_
  refine rk_if_eq rfl rfl (fun hc6 => ?_) (fun hc6 => ?_)
  · replace hc6 := (bI_0).mp hc6
    exact absurd hx.1 hc6
  · replace hc6 := Decidable.not_not.mp (mt bI_0.mpr hc6)
    refine rk_aload_n rfl rfl ?_
    refine rk_iload_n rfl rfl ?_
    refine rk_cv1e rfl rfl (by assumption) rfl rfl (Nat.le_of_ble_eq_true rfl) (Nat.le_of_ble_eq_true rfl) (s209n c0 c1 a271 (by have := hN.w; omega) _) ?_
    refine rk_if_eq rfl rfl (fun hc10 => ?_) (fun hc10 => ?_)
    · replace hc10 := (bI_0).mp hc10
      exact absurd hx.2.1 hc10
    · replace hc10 := Decidable.not_not.mp (mt bI_0.mpr hc10)
      refine rk_iload_n rfl rfl ?_
      refine rk_iload_n rfl rfl ?_
      refine rk_icmp_ne rfl rfl (fun hc13 => ?_) (fun hc13 => ?_)
      · refine rk_iload_n rfl rfl ?_
        refine rk_i2l rfl rfl ?_
        refine rk_lconst (v := 0) rfl (by decide) ?_
        rw [show (0 : Int64) = (0 : Int32).toInt64 by decide]
        refine rk_iconst (v := nI 1) rfl (by decide) ?_
        refine rk_aload_n rfl rfl ?_
        refine rk_get rfl (by assumption) rfl ?_
        refine rk_iconst (v := nI 1) rfl (by decide) ?_
        refine rk_iald rfl (by assumption) (rfl) (by omega) (by decide) ?_
        rw [a1]
        refine rk_ishl rfl (b_1shlU (by omega)) ?_
        refine rk_iconst (v := nI 1) rfl (by decide) ?_
        refine rk_isub rfl rfl ?_
        refine rk_i2l rfl rfl ?_
        refine rk_cs3e rfl rfl rfl (Nat.le_of_ble_eq_true rfl) (Nat.le_of_ble_eq_true rfl) (s181 _ _ _) ?_
        refine rk_if_ne rfl rfl (fun hc29 => ?_) (fun hc29 => ?_)
        · replace hc29 := Decidable.not_not.mp (mt bI_0.mpr hc29)
          exact absurd ((in_iff (by omega)).mp hc29) hy
        · replace hc29 := Decidable.not_not.mp hc29
          replace hc29 := (bI_0).mp hc29
          refine rk_bipush (v := (-3)) rfl (by decide) ?_
          exact rk_ireturn rfl rfl Qe_mk
      · replace hc13 := Decidable.not_not.mp hc13
        exact absurd hc13 hx.2.2
theorem m269_v {X : ai_X} {h : ai_H} {v A : Nat → Int32} {N : Nat → Nat} {mk : Nat} (c0 : h[52]? = some (cMdl v)) (c1 : h[53]? = some (cI 2346 A)) (hN : HN N) (M : MH A N) (H : MQs h mk) {a c u : Nat} (ha : a < N 271) (hc : c < N 271) (hac : ¬ a = c) (hu : u < 2 ^ N 1) : Rk X am_269 3 (ai_loc (ai_mL am_269) [.ref 52, .int (nI a), .int (nI c), .int (nI u)]) [] h (Qi (fun y h1 => y = ans (bfK (nxD N u) okA (N 1) (wt N a * 14 + wt N c) 196) (glD N) ∧ FrF h h1 ∧ MW h1 v (mk + 1) ∧ ∃ A1, h1[53]? = some (cI 2346 A1) ∧ MF A A1 y (bfK (nxD N u) okA (N 1) (wt N a * 14 + wt N c) 196) (glD N))) := by
  obtain ⟨a0, a1, a268, a269, a270, a271, apl, apc, aot, asg, awt⟩ := id M
  have h6 := hN.t
  have hn := hN.n
  have hw8 := hN.w
  have h64 := pw6 h6
  have hwa := hN.xwt ha
  have hwc := hN.xwt hc
  have hx1 : (wt N a * 14 + wt N c) / 14 = wt N a := by omega
  have hx2 : (wt N a * 14 + wt N c) % 14 = wt N c := by omega
  have hvx : vD N (wt N a * 14 + wt N c) := ⟨by omega, by omega⟩
  refine rk_aload_n rfl rfl ?_
  refine rk_iload_n rfl rfl ?_
  refine rk_cv1e rfl rfl (by assumption) rfl rfl (Nat.le_of_ble_eq_true rfl) (Nat.le_of_ble_eq_true rfl) (s209n c0 c1 a271 (by have := hN.w; omega) _) ?_
  refine rk_if_eq rfl rfl (fun hc6 => ?_) (fun hc6 => ?_)
  · replace hc6 := (bI_0).mp hc6
    exact absurd (in_mk (by omega) ha) hc6
  · replace hc6 := Decidable.not_not.mp (mt bI_0.mpr hc6)
    refine rk_aload_n rfl rfl ?_
    refine rk_iload_n rfl rfl ?_
    refine rk_cv1e rfl rfl (by assumption) rfl rfl (Nat.le_of_ble_eq_true rfl) (Nat.le_of_ble_eq_true rfl) (s209n c0 c1 a271 (by have := hN.w; omega) _) ?_
    refine rk_if_eq rfl rfl (fun hc10 => ?_) (fun hc10 => ?_)
    · replace hc10 := (bI_0).mp hc10
      exact absurd (in_mk (by omega) hc) hc10
    · replace hc10 := Decidable.not_not.mp (mt bI_0.mpr hc10)
      refine rk_iload_n rfl rfl ?_
      refine rk_iload_n rfl rfl ?_
      refine rk_icmp_ne rfl rfl (fun hc13 => ?_) (fun hc13 => ?_)
      · replace hc13 := mt (nI_eq (by omega) (by omega)).mpr hc13
        refine rk_iload_n rfl rfl ?_
        refine rk_i2l rfl rfl ?_
        refine rk_lconst (v := 0) rfl (by decide) ?_
        rw [show (0 : Int64) = (0 : Int32).toInt64 by decide]
        refine rk_iconst (v := nI 1) rfl (by decide) ?_
        refine rk_aload_n rfl rfl ?_
        refine rk_get rfl (by assumption) rfl ?_
        refine rk_iconst (v := nI 1) rfl (by decide) ?_
        refine rk_iald rfl (by assumption) (rfl) (by omega) (by decide) ?_
        rw [a1]
        refine rk_ishl rfl (b_1shlU (by omega)) ?_
        refine rk_iconst (v := nI 1) rfl (by decide) ?_
        refine rk_isub rfl rfl ?_
        refine rk_i2l rfl rfl ?_
        refine rk_cs3e rfl rfl rfl (Nat.le_of_ble_eq_true rfl) (Nat.le_of_ble_eq_true rfl) (s181 _ _ _) ?_
        refine rk_if_ne rfl rfl (fun hc29 => ?_) (fun hc29 => ?_)
        · replace hc29 := Decidable.not_not.mp (mt bI_0.mpr hc29)
          refine rk_aload_n rfl rfl ?_
          refine rk_cv0v rfl rfl (by assumption) rfl rfl (Nat.le_of_ble_eq_true rfl) (Nat.le_of_ble_eq_true rfl) (s231Q H c0) (fun h1 hF => ?_)
          obtain ⟨F1, E1⟩ := hF
          obtain ⟨v1, e52⟩ := E1.obj
          have e53 := (F1.2 53 (by omega) (by omega)).trans c1
          refine rk_aload_n rfl rfl ?_
          refine rk_aload_n rfl rfl ?_
          refine rk_get rfl (by assumption) rfl ?_
          refine rk_sipush (v := nI 272) rfl (by decide) ?_
          refine rk_iload_n rfl rfl ?_
          refine rk_iadd rfl (nI_add _ _) ?_
          refine rk_iald rfl (by assumption) (rfl) (by omega) (by decide) ?_
          rw [awt a ha]
          refine rk_aload_n rfl rfl ?_
          refine rk_get rfl (by assumption) rfl ?_
          refine rk_sipush (v := nI 272) rfl (by decide) ?_
          refine rk_iload_n rfl rfl ?_
          refine rk_iadd rfl (nI_add _ _) ?_
          refine rk_iald rfl (by assumption) (rfl) (by omega) (by decide) ?_
          rw [awt c hc]
          refine rk_iconst (v := (-1)) rfl (by decide) ?_
          refine rk_iconst (v := (-1)) rfl (by decide) ?_
          refine rk_cv4i rfl rfl (by assumption) rfl rfl (Nat.le_of_ble_eq_true rfl) (Nat.le_of_ble_eq_true rfl) (s232RC (r1 := fun x => x / 14) (r2 := fun x => x % 14) (x := (wt N a * 14 + wt N c)) E1 hx1 hx2 (by omega) (by omega)) (fun w h1 hF => ?_)
          obtain ⟨rfl, F2, S2⟩ := hF
          refine rk_pop rfl ?_
          refine rk_iconst (v := nI 0) rfl (by decide) ?_
          refine rk_istore rfl (Nat.le_of_ble_eq_true rfl) rfl ?_
          exact l269 c1 hN M hvx (by omega) 197 0 _ _ (by omega) (by omega) (by omega) (F1.tr F2) S2 (fun i hi => absurd hi (by omega))
        · replace hc29 := Decidable.not_not.mp hc29
          replace hc29 := (bI_0).mp hc29
          exact absurd ((in_iff (by omega)).mpr (in_mk (by omega) hu)) hc29
      · replace hc13 := Decidable.not_not.mp hc13
        replace hc13 := (nI_eq (by omega) (by omega)).mp hc13
        exact absurd hc13 hac
theorem ob31 (X : ai_X) : O31 X Inv := by
  intro a0 a1 a2
  refine ob_cells fun m c s h hm I => ?_
  obtain ⟨tp, T, A, im, rs, rm, nu, fk, fp, b, hP⟩ := id I
  obtain ⟨N, mk, hN, C, M, -, hV, hFV, H, hmk, hv⟩ := Inv.sdat hP hm
  obtain ⟨hA, hB, hR, hI, hS, hO, hM, hVV, hD, hc, hs⟩ := id hP
  obtain ⟨v, d52⟩ := I.m52
  have d53 := hM.2.1
  have d0 := hA.1
  have h80 := hM.len
  have hw8 := hN.w
  have h64 := pw6 hN.t
  by_cases hx : (¬ a0 < 0 ∧ ¬ nI (N 271) ≤ a0) ∧ (¬ a1 < 0 ∧ ¬ nI (N 271) ≤ a1) ∧ ¬ a0 = a1
  · by_cases hy : ¬ a2 < 0 ∧ ¬ nI (2 ^ N 1) ≤ a2
    · obtain ⟨a, ha, rfl⟩ := in_of (by omega) hx.1
      obtain ⟨c', hc', rfl⟩ := in_of (by omega) hx.2.1
      obtain ⟨u, hu, rfl⟩ := in_of (by omega) hy
      have hac : ¬ a = c' := fun z => hx.2.2 (by rw [z])
      obtain ⟨S2, S3, -, f25, c25, hf⟩ := id hS
      obtain ⟨-, R9, ⟨n0, f0, R, hFC⟩, R17⟩ := id hB
      obtain ⟨n33, d33⟩ := hO.2.1
      have hb2 : ∀ p, b 2 = some p → 80 ≤ p := fun p e => (hD 2 p (by omega) e).1
      have hp80 := np_80 hb2 h80
      refine ⟨_, _, _, _, c162_v d0 hN C d33 R S2 hb2 h80 ⟨f25, c25, hf⟩ ha hc' hac hu, ?_⟩
      rintro h1 E k1
      have kq : ∀ q : Nat, 44 ≤ q → q < 80 → h1[q]? = h[q]? := fun q a1 a2 => E.2.1 q (by omega) (by omega) (by omega) (by omega) (by omega) (by omega) (by omega) (by omega)
      have e52 := (kq 52 (by omega) (by omega)).trans d52
      refine ⟨⟨_, e52⟩, md_g rfl rfl rfl rfl e52 (fun h2 g2 hk hl => ?_)⟩
      have H2 : MQs h2 mk := H.fr (fun q a1 a2 => (hk q (by omega)).trans (kq q (by omega) (by omega))) d52 g2 rfl
      refine (m269_v g2 ((hk 53 (by omega)).trans ((kq 53 (by omega) (by omega)).trans d53)) hN M H2 ha hc' hac hu).mono ?_
      rintro o ⟨y, h3, e1, hy, F3, w3, A1, c53, mf⟩
      subst e1
      exact ⟨_, _, rfl, hy, fun k2 => fin2 hP hV hFV (by omega) (hv v d52) E hk F3 w3 c53 mf (BI.heads 196) hl (k1.trans k2)⟩
    · exact og_cells (og_pure I (c162_y d0 hN C hx hy) (md_thr rfl rfl rfl rfl d52 (fun h2 g2 hk => m269_y g2 ((hk 53 (by omega)).trans d53) hN M hx hy)))
  · exact og_cells (og_pure I (c162_x d0 hN C hx) (md_thr rfl rfl rfl rfl d52 (fun h2 g2 hk => m269_x g2 ((hk 53 (by omega)).trans d53) hN M hx)))
