/-! LEADS: the model -/
theorem b_nib (a : Nat) : nI a &&& nI 15 = nI (a % 16) := by
  rw [b_andU, show a &&& 15 = a % 2 ^ 4 from Nat.and_two_pow_sub_one_eq_mod a 4]
/-- numbers of four bits in one -/
def f4 (y : Nat → Nat) : Nat → Nat
  | 0 => 0
  | i + 1 => f4 y i + y i * 2 ^ (4 * i)
theorem f4_cg {y z : Nat → Nat} : ∀ k, (∀ i, i < k → y i = z i) → f4 y k = f4 z k
  | 0, _ => rfl
  | k + 1, h => by rw [f4, f4, f4_cg k (fun i hi => h i (by omega)), h k (by omega)]
theorem f4_lt {y : Nat → Nat} : ∀ k, (∀ i, i < k → y i < 16) → f4 y k < 2 ^ (4 * k)
  | 0, _ => by show 0 < 2 ^ 0; decide
  | k + 1, h => by
    have h1 := f4_lt k (fun i hi => h i (by omega))
    have h2 := h k (by omega)
    rw [f4, show 4 * (k + 1) = 4 * k + 4 by omega, Nat.pow_add]
    have : (y k + 1) * 2 ^ (4 * k) ≤ 16 * 2 ^ (4 * k) := Nat.mul_le_mul (by omega) (Nat.le_refl _)
    rw [Nat.add_mul] at this
    omega
theorem f4_or {y : Nat → Nat} {k v : Nat} (h : ∀ i, i < k → y i < 16) : f4 y k ||| v * 2 ^ (4 * k) = f4 y k + v * 2 ^ (4 * k) := by
  have := Nat.two_pow_add_eq_or_of_lt (f4_lt k h) v
  rw [Nat.mul_comm v, Nat.or_comm, ← this, Nat.add_comm]
theorem f4_3 (y : Nat → Nat) : f4 y 3 = y 0 + y 1 * 16 + y 2 * 256 := by
  show 0 + y 0 * 1 + y 1 * 16 + y 2 * 256 = _
  omega
theorem f4_nib {y : Nat → Nat} {i : Nat} (h : ∀ i, i < 3 → y i < 16) (hi : i < 3) : f4 y 3 / 2 ^ (4 * i) % 16 = y i := by
  have h0 := h 0 (by omega)
  have h1 := h 1 (by omega)
  have h2 := h 2 (by omega)
  rw [f4_3]
  rcases (show i = 0 ∨ i = 1 ∨ i = 2 by omega) with rfl | rfl | rfl
  · show (y 0 + y 1 * 16 + y 2 * 256) / 1 % 16 = _; omega
  · show (y 0 + y 1 * 16 + y 2 * 256) / 16 % 16 = _; omega
  · show (y 0 + y 1 * 16 + y 2 * 256) / 256 % 16 = _; omega
def nb (n : Nat) (y : Nat → Nat) (i : Nat) : Nat := if i < n then y i else 15
theorem nb_lt {n : Nat} {y : Nat → Nat} (h : ∀ i, i < n → y i < 14) (i : Nat) : nb n y i < 16 := by
  unfold nb
  split
  · have := h i (by assumption); omega
  · decide
abbrev r1L (n x : Nat) : Nat := f4 (nb n (dgt x)) 3
theorem r1L_lt {N : Nat → Nat} {n x : Nat} (hN : HN N) (hx : vL N n x) : r1L n x < 4096 := f4_lt 3 (fun i _ => nb_lt (fun i hi => by have := hx.1 i hi; have := hN.n; omega) i)
theorem r1L_nib {N : Nat → Nat} {n x i : Nat} (hN : HN N) (hx : vL N n x) (hi : i < 3) : r1L n x / 2 ^ (4 * i) % 16 = nb n (dgt x) i := f4_nib (fun i _ => nb_lt (fun i hi => by have := hx.1 i hi; have := hN.n; omega) i) hi
theorem r1L_inj {N : Nat → Nat} {n x y : Nat} (hN : HN N) (hn : N23 n) (hx : vL N n x) (hy : vL N n y) (h : r1L n x = r1L n y) : x = y := by
  refine hx.eq hn hy (fun i hi => ?_)
  have h1 := r1L_nib hN hx (show i < 3 by omega)
  have h2 := r1L_nib hN hy (show i < 3 by omega)
  rw [h, h2, nb, nb, if_pos hi, if_pos hi] at h1
  exact h1.symm
theorem cnt_pos {y : Nat → Nat} {r : Nat} : ∀ w, 0 < cnt y r w ↔ ∃ i, i < w ∧ y i = r
  | 0 => ⟨fun h => absurd h (by simp [cnt]), fun ⟨i, h, _⟩ => absurd h (by omega)⟩
  | w + 1 => by
    have ih := cnt_pos (y := y) (r := r) w
    rw [cnt]
    constructor
    · intro h
      by_cases e : y w = r
      · exact ⟨w, by omega, e⟩
      · rw [if_neg e] at h
        obtain ⟨i, a, b⟩ := ih.mp (by omega)
        exact ⟨i, by omega, b⟩
    · rintro ⟨i, a, b⟩
      by_cases e : i = w
      · subst e; rw [if_pos b]; omega
      · have := ih.mpr ⟨i, by omega, b⟩; omega
theorem cnt_two {y : Nat → Nat} {r : Nat} : ∀ w, 1 < cnt y r w ↔ ∃ k i, k < i ∧ i < w ∧ y k = r ∧ y i = r
  | 0 => ⟨fun h => absurd h (by simp [cnt]), fun ⟨k, i, _, h, _⟩ => absurd h (by omega)⟩
  | w + 1 => by
    have ih := cnt_two (y := y) (r := r) w
    rw [cnt]
    constructor
    · intro h
      by_cases e : y w = r
      · rw [if_pos e] at h
        obtain ⟨k, a, b⟩ := (cnt_pos w).mp (show 0 < cnt y r w by omega)
        exact ⟨k, w, a, by omega, b, e⟩
      · rw [if_neg e] at h
        obtain ⟨k, i, a, b, c⟩ := ih.mp (by omega)
        exact ⟨k, i, a, by omega, c⟩
    · rintro ⟨k, i, a, b, c, d⟩
      by_cases e : i = w
      · subst e
        have := (cnt_pos i).mpr ⟨k, a, c⟩
        rw [if_pos d]; omega
      · have := ih.mpr ⟨k, i, a, by omega, c, d⟩; omega
theorem bad0 {N y : Nat → Nat} {n : Nat} : bad N y n = 0 ↔ ∀ i, i < n → N 268 / 2 ^ y i % 2 ≠ 1 ∧ ∀ k, k < i → y k = y i → N 269 / 2 ^ y i % 2 ≠ 1 := by
  have key : ∀ r, bad N y n / 2 ^ r % 2 = 1 ↔ ((0 < cnt y r n ∧ N 268 / 2 ^ r % 2 = 1) ∨ (1 < cnt y r n ∧ N 269 / 2 ^ r % 2 = 1)) := fun r => by
    unfold bad
    rw [bt_or, bt_and, bt_and, bt_onc, bt_twi]
  constructor
  · intro h i hi
    rw [h] at key
    refine ⟨fun z => bt_zero _ ((key (y i)).mpr (Or.inl ⟨(cnt_pos n).mpr ⟨i, hi, rfl⟩, z⟩)), fun k hk e z => bt_zero _ ((key (y i)).mpr (Or.inr ⟨(cnt_two n).mpr ⟨k, i, hk, hi, e, rfl⟩, z⟩))⟩
  · intro h
    apply bs_ext
    intro r
    refine ⟨fun z => ?_, fun z => absurd z (bt_zero r)⟩
    rcases (key r).mp z with ⟨a, b⟩ | ⟨a, b⟩
    · obtain ⟨i, hi, e⟩ := (cnt_pos n).mp a
      exact absurd (by rw [e]; exact b) (h i hi).1
    · obtain ⟨k, i, hk, hi, e1, e2⟩ := (cnt_two n).mp a
      exact absurd (by rw [e2]; exact b) ((h i hi).2 k hk (e1.trans e2.symm))
theorem l265i {X : ai_X} {h : ai_H} {v A : Nat → Int32} {N : Nat → Nat} {n x : Nat} (c0 : h[52]? = some (cMdl v)) (c1 : h[53]? = some (cI 2346 A)) (hN : HN N) (M : MH A N) (hn : N23 n) (hx : vL N n x) {i : Nat} (hi : i < n) {P : ai_O → Prop} (hbad : ∀ k, k < i → dgt x k = dgt x i → N 269 / 2 ^ dgt x i % 2 = 1 → P (some (.int (nI 0)), h, 0, 0)) (z : (∀ k, k < i → dgt x k = dgt x i → N 269 / 2 ^ dgt x i % 2 ≠ 1) → Rk X am_265 57 [some (.ref 52), some (.int (nI (r1L n x))), some (.int (nI i)), some (.int (nI (dgt x i))), some (.int (nI i))] [] h P) : ∀ (d : Nat) (k : Nat), i < k + d → (k ≤ i) → (∀ j, j < k → dgt x j = dgt x i → N 269 / 2 ^ dgt x i % 2 ≠ 1) → Rk X am_265 31 [some (.ref 52), some (.int (nI (r1L n x))), some (.int (nI i)), some (.int (nI (dgt x i))), some (.int (nI k))] [] h (P) := by
  intro d
  induction d with
  | zero => intro k hd hk hq; exfalso; omega
  | succ d ih =>
    intro k hd hk hq
    obtain ⟨a0, a1, a268, a269, a270, a271, apl, apc, aot, asg, awt⟩ := id M
    have hl := r1L_lt hN hx
    have h14 := hN.n
    have hbar := hN.bar
    have htwo := hN.two
    have hdi := hx.1 i hi
    have hnk : k < 3 → r1L n x / 2 ^ (4 * k) % 16 = nb n (dgt x) k := fun y => r1L_nib hN hx y
    have hdk : k < n → dgt x k < N 0 := hx.1 k
    refine rk_iload rfl rfl ?_
    refine rk_iload_n rfl rfl ?_
    refine rk_icmp_ge rfl rfl (fun hc33 => ?_) (fun hc33 => ?_)
    · replace hc33 := (nI_leI (by omega) (by omega)).mp hc33
      have hk2 : k = i := by omega
      subst hk2
      exact z hq
    · replace hc33 := mt (nI_leI (by omega) (by omega)).mpr hc33
      refine rk_iload_n rfl rfl ?_
      refine rk_iconst (v := nI 4) rfl (by decide) ?_
      refine rk_iload rfl rfl ?_
      refine rk_imul rfl (pk_mul _ _) ?_
      refine rk_ishr rfl (b_shr (by omega) (by omega)) ?_
      refine rk_bipush (v := nI 15) rfl (by decide) ?_
      refine rk_iand rfl (b_nib _) ?_
      rw [hnk (by omega), nb, if_pos (by omega)]
      replace hdk := hdk (by omega)
      refine rk_iload_n rfl rfl ?_
      refine rk_icmp_ne rfl rfl (fun hc42 => ?_) (fun hc42 => ?_)
      · replace hc42 := mt (nI_eq (by omega) (by omega)).mpr hc42
        refine rk_iinc rfl rfl (n_inc _) rfl ?_
        refine rk_goto rfl rfl ?_
        refine ih (k + 1) (by omega) (by omega) (fun j hj => ?_)
        by_cases y : j = k
        · subst y; first | exact fun y => absurd y hc42 | exact fun _ => hc52
        · exact hq j (by omega)
      · replace hc42 := Decidable.not_not.mp hc42
        replace hc42 := (nI_eq (by omega) (by omega)).mp hc42
        refine rk_aload_n rfl rfl ?_
        refine rk_get rfl (by assumption) rfl ?_
        refine rk_sipush (v := nI 269) rfl (by decide) ?_
        refine rk_iald rfl (by assumption) (rfl) (by omega) (by decide) ?_
        rw [a269]
        refine rk_iload_n rfl rfl ?_
        refine rk_ishr rfl (b_shr (by omega) (by omega)) ?_
        refine rk_iconst (v := nI 1) rfl (by decide) ?_
        refine rk_iand rfl (b_and1U _) ?_
        refine rk_iconst (v := nI 1) rfl (by decide) ?_
        refine rk_icmp_ne rfl rfl (fun hc52 => ?_) (fun hc52 => ?_)
        · replace hc52 := mt (nI_eq (by omega) (by omega)).mpr hc52
          refine rk_iinc rfl rfl (n_inc _) rfl ?_
          refine rk_goto rfl rfl ?_
          refine ih (k + 1) (by omega) (by omega) (fun j hj => ?_)
          by_cases y : j = k
          · subst y; first | exact fun y => absurd y hc42 | exact fun _ => hc52
          · exact hq j (by omega)
        · replace hc52 := Decidable.not_not.mp hc52
          replace hc52 := (nI_eq (by omega) (by omega)).mp hc52
          refine rk_iconst (v := nI 0) rfl (by decide) ?_
          exact rk_ireturn rfl (by decide) (hbad k (by omega) hc42 hc52)
theorem l265 {X : ai_X} {h : ai_H} {v A : Nat → Int32} {N : Nat → Nat} {n x : Nat} (c0 : h[52]? = some (cMdl v)) (c1 : h[53]? = some (cI 2346 A)) (hN : HN N) (M : MH A N) (hn : N23 n) (hx : vL N n x) : ∀ (d : Nat) (i : Nat) (c3 c4 : Option Value), 3 < i + d → (i ≤ 3) → ((∀ j, j < i → j < n → N 268 / 2 ^ dgt x j % 2 ≠ 1 ∧ ∀ k, k < j → dgt x k = dgt x j → N 269 / 2 ^ dgt x j % 2 ≠ 1)) → Rk X am_265 2 [some (.ref 52), some (.int (nI (r1L n x))), some (.int (nI i)), c3, c4] [] h (Qe (bI (bad N (dgt x) n = 0)) h) := by
  intro d
  induction d with
  | zero => intro i c3 c4 hd hi hq; exfalso; omega
  | succ d ih =>
    intro i c3 c4 hd hi hq
    obtain ⟨a0, a1, a268, a269, a270, a271, apl, apc, aot, asg, awt⟩ := id M
    have hl := r1L_lt hN hx
    have h14 := hN.n
    have hbar := hN.bar
    have htwo := hN.two
    have hni : i < 3 → r1L n x / 2 ^ (4 * i) % 16 = nb n (dgt x) i := fun y => r1L_nib hN hx y
    have hdi : i < n → dgt x i < N 0 := hx.1 i
    have hnl := nb_lt (y := dgt x) (n := n) (fun j hj => by have := hx.1 j hj; omega) i
    refine rk_iload_n rfl rfl ?_
    refine rk_iconst (v := nI 3) rfl (by decide) ?_
    refine rk_icmp_ge rfl rfl (fun hc4 => ?_) (fun hc4 => ?_)
    · replace hc4 := (nI_leI (by omega) (by omega)).mp hc4
      refine rk_iconst (v := nI 1) rfl (by decide) ?_
      exact rk_ireturn rfl (by decide) (Qe_of (by rw [bI_t (bad0.mpr (fun j hj => hq j (by omega) hj))]; rfl))
    · replace hc4 := mt (nI_leI (by omega) (by omega)).mpr hc4
      refine rk_iload_n rfl rfl ?_
      refine rk_iconst (v := nI 4) rfl (by decide) ?_
      refine rk_iload_n rfl rfl ?_
      refine rk_imul rfl (pk_mul _ _) ?_
      refine rk_ishr rfl (b_shr (by omega) (by omega)) ?_
      refine rk_bipush (v := nI 15) rfl (by decide) ?_
      refine rk_iand rfl (b_nib _) ?_
      rw [hni (by omega)]
      refine rk_istore_n rfl (Nat.le_of_ble_eq_true rfl) rfl ?_
      refine rk_iload_n rfl rfl ?_
      refine rk_bipush (v := nI 15) rfl (by decide) ?_
      refine rk_icmp_ne rfl rfl (fun hc15 => ?_) (fun hc15 => ?_)
      · replace hc15 := mt (nI_eq (by omega) (by omega)).mpr hc15
        have hin : i < n := Decidable.byContradiction fun y => hc15 (by rw [nb, if_neg y])
        have hnbe : nb n (dgt x) i = dgt x i := if_pos hin
        rw [hnbe] at hnl ⊢
        replace hdi := hdi hin
        refine rk_aload_n rfl rfl ?_
        refine rk_get rfl (by assumption) rfl ?_
        refine rk_sipush (v := nI 268) rfl (by decide) ?_
        refine rk_iald rfl (by assumption) (rfl) (by omega) (by decide) ?_
        rw [a268]
        refine rk_iload_n rfl rfl ?_
        refine rk_ishr rfl (b_shr (by omega) (by omega)) ?_
        refine rk_iconst (v := nI 1) rfl (by decide) ?_
        refine rk_iand rfl (b_and1U _) ?_
        refine rk_iconst (v := nI 1) rfl (by decide) ?_
        refine rk_icmp_ne rfl rfl (fun hc26 => ?_) (fun hc26 => ?_)
        · replace hc26 := mt (nI_eq (by omega) (by omega)).mpr hc26
          refine rk_iconst (v := nI 0) rfl (by decide) ?_
          refine rk_istore rfl (Nat.le_of_ble_eq_true rfl) rfl ?_
          refine l265i c0 c1 hN M hn hx hin ?_ ?_ (i + 1) 0 (by omega) (by omega) (fun j hj => absurd hj (by omega))
          · intro k hk e y
            exact ⟨_, _, rfl, by rw [bI_f (fun y2 => absurd y ((bad0.mp y2 i hin).2 k hk e))]; rfl, rfl⟩
          · intro y
            refine rk_iinc rfl rfl (n_inc _) rfl ?_
            refine rk_goto rfl rfl ?_
            refine ih (i + 1) _ _ (by omega) (by omega) (fun j hj hjn => ?_)
            by_cases e : j = i
            · subst e; exact ⟨hc26, y⟩
            · exact hq j (by omega) hjn
        · replace hc26 := Decidable.not_not.mp hc26
          replace hc26 := (nI_eq (by omega) (by omega)).mp hc26
          refine rk_iconst (v := nI 0) rfl (by decide) ?_
          exact rk_ireturn rfl (by decide) (Qe_of (by rw [bI_f (fun y => absurd hc26 (bad0.mp y i hin).1)]; rfl))
      · replace hc15 := Decidable.not_not.mp hc15
        replace hc15 := (nI_eq (by omega) (by omega)).mp hc15
        refine rk_goto rfl rfl ?_
        refine rk_iinc rfl rfl (n_inc _) rfl ?_
        refine rk_goto rfl rfl ?_
        exact ih (i + 1) _ _ (by omega) (by omega) (fun j hj hjn => hq j (by
          have hin : ¬ i < n := fun y => by have := hdi y; rw [nb, if_pos y] at hc15; omega
          omega) hjn)
theorem s265 {X : ai_X} {h : ai_H} {v A : Nat → Int32} {N : Nat → Nat} {n x : Nat} (c0 : h[52]? = some (cMdl v)) (c1 : h[53]? = some (cI 2346 A)) (hN : HN N) (M : MH A N) (hn : N23 n) (hx : vL N n x) : Mt X am_265 [.ref 52, .int (nI (r1L n x))] h (Qe (bI (bad N (dgt x) n = 0)) h) := by
  refine rk_iconst (v := nI 0) rfl (by decide) ?_
  refine rk_istore_n rfl (Nat.le_of_ble_eq_true rfl) rfl ?_
  exact l265 c0 c1 hN M hn hx 4 0 _ _ (by omega) (by omega) (fun j hj => absurd hj (by omega))
theorem nb_nx {N : Nat → Nat} {n x t i : Nat} (hN : HN N) (hn : N23 n) (hx : vL N n x) (ht : t < N 1) : nb n (dgt (nxL N n x t)) i = if i < n then pl N (dgt x i) t else 15 := by
  unfold nb
  split
  · rename_i hi
    have h14 := hN.n
    exact dgt_pack hn (y := fun i => pl N (dgt x i) t) (fun j hj => by have := hN.xpl (hx.1 j hj) ht; show pl N (dgt x j) t < 14; omega) i hi
  · rfl
theorem l266 {X : ai_X} {h : ai_H} {v A : Nat → Int32} {N : Nat → Nat} {n x : Nat} (c0 : h[52]? = some (cMdl v)) (c1 : h[53]? = some (cI 2346 A)) (hN : HN N) (M : MH A N) (hn : N23 n) (hx : vL N n x) {t : Nat} (ht : t < N 1) : ∀ (d : Nat) (i : Nat) (c5 : Option Value), 3 < i + d → (i ≤ 3) → Rk X am_266 4 [some (.ref 52), some (.int (nI (r1L n x))), some (.int (nI t)), some (.int (nI (f4 (nb n (dgt (nxL N n x t))) i))), some (.int (nI i)), c5] [] h (Qe (nI (r1L n (nxL N n x t))) h) := by
  intro d
  induction d with
  | zero => intro i c5 hd hi; exfalso; omega
  | succ d ih =>
    intro i c5 hd hi
    obtain ⟨a0, a1, a268, a269, a270, a271, apl, apc, aot, asg, awt⟩ := id M
    have hl := r1L_lt hN hx
    have h14 := hN.n
    have hbar := hN.bar
    have htwo := hN.two
    have hni : i < 3 → r1L n x / 2 ^ (4 * i) % 16 = nb n (dgt x) i := fun y => r1L_nib hN hx y
    have hdi : i < n → dgt x i < N 0 := hx.1 i
    have hvn := nxL_v hN hn hx ht
    have hnl := nb_lt (y := dgt x) (n := n) (fun j hj => by have := hx.1 j hj; omega) i
    have hnl2 := nb_lt (y := dgt (nxL N n x t)) (n := n) (fun j hj => by have := hvn.1 j hj; omega)
    have hne := nb_nx (i := i) hN hn hx ht
    refine rk_iload rfl rfl ?_
    refine rk_iconst (v := nI 3) rfl (by decide) ?_
    refine rk_icmp_ge rfl rfl (fun hc6 => ?_) (fun hc6 => ?_)
    · replace hc6 := (nI_leI (by omega) (by omega)).mp hc6
      refine rk_iload_n rfl rfl ?_
      exact rk_ireturn rfl rfl (Qe_of (by rw [show i = 3 by omega]))
    · replace hc6 := mt (nI_leI (by omega) (by omega)).mpr hc6
      refine rk_iload_n rfl rfl ?_
      refine rk_iconst (v := nI 4) rfl (by decide) ?_
      refine rk_iload rfl rfl ?_
      refine rk_imul rfl (pk_mul _ _) ?_
      refine rk_ishr rfl (b_shr (by omega) (by omega)) ?_
      refine rk_bipush (v := nI 15) rfl (by decide) ?_
      refine rk_iand rfl (b_nib _) ?_
      rw [hni (by omega)]
      refine rk_istore rfl (Nat.le_of_ble_eq_true rfl) rfl ?_
      refine rk_iload_n rfl rfl ?_
      refine rk_iload rfl rfl ?_
      refine rk_bipush (v := nI 15) rfl (by decide) ?_
      refine rk_icmp_ne rfl rfl (fun hc18 => ?_) (fun hc18 => ?_)
      · replace hc18 := mt (nI_eq (by omega) (by omega)).mpr hc18
        have hin : i < n := Decidable.byContradiction fun y => hc18 (by rw [nb, if_neg y])
        have hnbe : nb n (dgt x) i = dgt x i := if_pos hin
        rw [hnbe]
        replace hdi := hdi hin
        have hnv : nb n (dgt (nxL N n x t)) i = pl N (dgt x i) t := by rw [hne, if_pos hin]
        have hpl := hN.xpl hdi ht
        have hstep : f4 (nb n (dgt (nxL N n x t))) i ||| pl N (dgt x i) t * 2 ^ (4 * i) = f4 (nb n (dgt (nxL N n x t))) (i + 1) := by rw [f4_or (fun j _ => hnl2 j), f4, hnv]
        refine rk_aload_n rfl rfl ?_
        refine rk_iload rfl rfl ?_
        refine rk_iload_n rfl rfl ?_
        refine rk_cv2e rfl rfl (by assumption) rfl rfl (Nat.le_of_ble_eq_true rfl) (Nat.le_of_ble_eq_true rfl) (s210N c0 c1 M hN hdi ht) ?_
        refine rk_iconst (v := nI 4) rfl (by decide) ?_
        refine rk_iload rfl rfl ?_
        refine rk_imul rfl (pk_mul _ _) ?_
        refine rk_ishl rfl (b_shlU _ (by omega)) ?_
        refine rk_ior rfl (b_orU _ _) ?_
        refine rk_istore_n rfl (Nat.le_of_ble_eq_true rfl) rfl ?_
        refine rk_iinc rfl rfl (n_inc _) rfl ?_
        refine rk_goto rfl rfl ?_
        rw [hstep]
        exact ih (i + 1) _ (by omega) (by omega)
      · replace hc18 := Decidable.not_not.mp hc18
        replace hc18 := (nI_eq (by omega) (by omega)).mp hc18
        have hin : ¬ i < n := fun y => by have := hdi y; rw [nb, if_pos y] at hc18; omega
        have hnv : nb n (dgt (nxL N n x t)) i = 15 := by rw [hne, if_neg hin]
        have hstep : f4 (nb n (dgt (nxL N n x t))) i ||| 15 * 2 ^ (4 * i) = f4 (nb n (dgt (nxL N n x t))) (i + 1) := by rw [f4_or (fun j _ => hnl2 j), f4, hnv]
        refine rk_bipush (v := nI 15) rfl (by decide) ?_
        refine rk_goto rfl rfl ?_
        refine rk_iconst (v := nI 4) rfl (by decide) ?_
        refine rk_iload rfl rfl ?_
        refine rk_imul rfl (pk_mul _ _) ?_
        refine rk_ishl rfl (b_shlU _ (by omega)) ?_
        refine rk_ior rfl (b_orU _ _) ?_
        refine rk_istore_n rfl (Nat.le_of_ble_eq_true rfl) rfl ?_
        refine rk_iinc rfl rfl (n_inc _) rfl ?_
        refine rk_goto rfl rfl ?_
        rw [hstep]
        exact ih (i + 1) _ (by omega) (by omega)
theorem s266 {X : ai_X} {h : ai_H} {v A : Nat → Int32} {N : Nat → Nat} {n x : Nat} (c0 : h[52]? = some (cMdl v)) (c1 : h[53]? = some (cI 2346 A)) (hN : HN N) (M : MH A N) (hn : N23 n) (hx : vL N n x) {t : Nat} (ht : t < N 1) : Mt X am_266 [.ref 52, .int (nI (r1L n x)), .int (nI t)] h (Qe (nI (r1L n (nxL N n x t))) h) := by
  refine rk_iconst (v := nI 0) rfl (by decide) ?_
  refine rk_istore_n rfl (Nat.le_of_ble_eq_true rfl) rfl ?_
  refine rk_iconst (v := nI 0) rfl (by decide) ?_
  refine rk_istore rfl (Nat.le_of_ble_eq_true rfl) rfl ?_
  exact l266 c0 c1 hN M hn hx ht 4 0 _ (by omega) (by omega)
theorem l267 {X : ai_X} {h : ai_H} {v A : Nat → Int32} {N : Nat → Nat} {n x : Nat} (c0 : h[52]? = some (cMdl v)) (c1 : h[53]? = some (cI 2346 A)) (hN : HN N) (M : MH A N) (hn : N23 n) (hx : vL N n x) {r : Nat} (hr : r < N 0) : ∀ (d : Nat) (i : Nat), 3 < i + d → (i ≤ 3) → (∀ j, j < i → j < n → dgt x j = r) → Rk X am_267 2 [some (.ref 52), some (.int (nI (r1L n x))), some (.int (nI r)), some (.int (nI i))] [] h (Qe (bI (glL n r x = true)) h) := by
  intro d
  induction d with
  | zero => intro i hd hi hq; exfalso; omega
  | succ d ih =>
    intro i hd hi hq
    obtain ⟨a0, a1, a268, a269, a270, a271, apl, apc, aot, asg, awt⟩ := id M
    have hl := r1L_lt hN hx
    have h14 := hN.n
    have hbar := hN.bar
    have htwo := hN.two
    have hni : i < 3 → r1L n x / 2 ^ (4 * i) % 16 = nb n (dgt x) i := fun y => r1L_nib hN hx y
    have hnl := nb_lt (y := dgt x) (n := n) (fun j hj => by have := hx.1 j hj; omega) i
    refine rk_iload_n rfl rfl ?_
    refine rk_iconst (v := nI 3) rfl (by decide) ?_
    refine rk_icmp_ge rfl rfl (fun hc4 => ?_) (fun hc4 => ?_)
    · replace hc4 := (nI_leI (by omega) (by omega)).mp hc4
      refine rk_iconst (v := nI 1) rfl (by decide) ?_
      exact rk_ireturn rfl (by decide) (Qe_of (by rw [bI_t (glL_t.mpr (fun j hj => hq j (by omega) hj))]; rfl))
    · replace hc4 := mt (nI_leI (by omega) (by omega)).mpr hc4
      refine rk_iload_n rfl rfl ?_
      refine rk_iconst (v := nI 4) rfl (by decide) ?_
      refine rk_iload_n rfl rfl ?_
      refine rk_imul rfl (pk_mul _ _) ?_
      refine rk_ishr rfl (b_shr (by omega) (by omega)) ?_
      refine rk_bipush (v := nI 15) rfl (by decide) ?_
      refine rk_iand rfl (b_nib _) ?_
      rw [hni (by omega)]
      refine rk_bipush (v := nI 15) rfl (by decide) ?_
      refine rk_icmp_eq rfl rfl (fun hc13 => ?_) (fun hc13 => ?_)
      · replace hc13 := (nI_eq (by omega) (by omega)).mp hc13
        refine rk_iinc rfl rfl (n_inc _) rfl ?_
        refine rk_goto rfl rfl ?_
        refine ih (i + 1) (by omega) (by omega) (fun j hj hjn => ?_)
        by_cases y : j = i
        · subst y
          first
            | (rw [nb, if_pos hjn] at hc22; exact hc22)
            | (rw [nb, if_pos hjn] at hc13; have := hx.1 j hjn; omega)
        · exact hq j (by omega) hjn
      · replace hc13 := mt (nI_eq (by omega) (by omega)).mpr hc13
        refine rk_iload_n rfl rfl ?_
        refine rk_iconst (v := nI 4) rfl (by decide) ?_
        refine rk_iload_n rfl rfl ?_
        refine rk_imul rfl (pk_mul _ _) ?_
        refine rk_ishr rfl (b_shr (by omega) (by omega)) ?_
        refine rk_bipush (v := nI 15) rfl (by decide) ?_
        refine rk_iand rfl (b_nib _) ?_
        rw [hni (by omega)]
        refine rk_iload_n rfl rfl ?_
        refine rk_icmp_eq rfl rfl (fun hc22 => ?_) (fun hc22 => ?_)
        · replace hc22 := (nI_eq (by omega) (by omega)).mp hc22
          refine rk_iinc rfl rfl (n_inc _) rfl ?_
          refine rk_goto rfl rfl ?_
          refine ih (i + 1) (by omega) (by omega) (fun j hj hjn => ?_)
          by_cases y : j = i
          · subst y
            first
              | (rw [nb, if_pos hjn] at hc22; exact hc22)
              | (rw [nb, if_pos hjn] at hc13; have := hx.1 j hjn; omega)
          · exact hq j (by omega) hjn
        · replace hc22 := mt (nI_eq (by omega) (by omega)).mpr hc22
          refine rk_iconst (v := nI 0) rfl (by decide) ?_
          have hin : i < n := Decidable.byContradiction fun y2 => hc13 (by rw [nb, if_neg y2])
          exact rk_ireturn rfl (by decide) (Qe_of (by rw [bI_f (fun y => hc22 (by rw [nb, if_pos hin]; exact glL_t.mp y i hin))]; rfl))
theorem s267 {X : ai_X} {h : ai_H} {v A : Nat → Int32} {N : Nat → Nat} {n x : Nat} (c0 : h[52]? = some (cMdl v)) (c1 : h[53]? = some (cI 2346 A)) (hN : HN N) (M : MH A N) (hn : N23 n) (hx : vL N n x) {r : Nat} (hr : r < N 0) : Mt X am_267 [.ref 52, .int (nI (r1L n x)), .int (nI r)] h (Qe (bI (glL n r x = true)) h) := by
  refine rk_iconst (v := nI 0) rfl (by decide) ?_
  refine rk_istore_n rfl (Nat.le_of_ble_eq_true rfl) rfl ?_
  exact l267 c0 c1 hN M hn hx hr 4 0 (by omega) (by omega) (fun j hj => absurd hj (by omega))
