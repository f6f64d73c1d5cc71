/-! THE CLASS'S SEARCH -/
theorem nI_slf (z : Int32) : z = nI z.toBitVec.toNat := by
  apply Int32.toBitVec_inj.mp
  apply BitVec.eq_of_toNat_eq
  show _ = z.toBitVec.toNat % 2 ^ 32
  rw [Nat.mod_eq_of_lt z.toBitVec.isLt]
abbrev hfB (x : Nat) : Int32 := ((nI x * (-1640531535)).toUInt32 >>> ((nI 16).toUInt32 &&& Int32.toUInt32 31)).toInt32
def hfC (n x : Nat) : Nat := (if 16384 ≤ x then (hfB x).toBitVec.toNat else x) &&& (n - 1)
abbrev P2 (n : Nat) : Prop := n = 16384 ∨ n = 65536
theorem msk {n : Nat} (hn : P2 n) (a : Nat) : a &&& (n - 1) = a % n := by
  rcases hn with rfl | rfl
  · exact Nat.and_two_pow_sub_one_eq_mod a 14
  · exact Nat.and_two_pow_sub_one_eq_mod a 16
theorem hfC_lt {n : Nat} (hn : P2 n) (x : Nat) : hfC n x < n := by
  unfold hfC
  rw [msk hn]
  exact Nat.mod_lt _ (by omega)
theorem hfC_a {n x : Nat} (hn : P2 n) (h : ¬ 16384 ≤ x) : nI ((hfC n x + 0) % n) = nI (x &&& (n - 1)) := by
  rw [Nat.add_zero, Nat.mod_eq_of_lt (hfC_lt hn x), hfC, if_neg h]
theorem hfC_b {n x : Nat} (hn : P2 n) (h : 16384 ≤ x) : nI ((hfC n x + 0) % n) = hfB x &&& nI (n - 1) := by
  rw [Nat.add_zero, Nat.mod_eq_of_lt (hfC_lt hn x), hfC, if_pos h, ← b_andU, ← nI_slf]
theorem suble {v base : Nat} (h : v ≤ base) (hb : base < 2 ^ 30) : nI v - nI base ≤ 0 := by
  rw [Int32.le_iff_toInt_le, pk_sub_toInt (by omega) hb]
  have : (0 : Int32).toInt = 0 := by decide
  omega
/-- the search at o, its rows at p: n places, m numbers st in it, T: whose each place is -/
def SX (h : ai_H) (o p cap n base m : Nat) (sl s1 s2 : Nat → Int32) (st T : Nat → Nat) : Prop :=
  h[o]? = some (cSrch (nI cap) (nI (n - 1)) (.ref p) (.ref (p + 1)) (.ref (p + 2)) (nI base) (nI m)) ∧ h[p]? = some (cI n sl) ∧ h[p + 1]? = some (cI cap s1) ∧ h[p + 2]? = some (cI cap s2) ∧ base ≤ 1000000000 ∧ m ≤ cap ∧
  (∀ j, j < n → ∃ x, sl j = nI x ∧ x ≤ base + m ∧ T j = x - base) ∧ LPr n (hfC n) st m T ∧ (∀ i, i < m → s1 i = nI (st i) ∧ st i < 2 ^ 31) ∧ P2 n ∧ cap ≤ n ∧ o < p
def FrS (o p : Nat) (h h1 : ai_H) : Prop := h1.length = h.length ∧ ∀ q : Nat, q ≠ o → ¬ (p ≤ q ∧ q < p + 3) → h1[q]? = h[q]?
theorem FrS.rfl' {o p : Nat} {h : ai_H} : FrS o p h h := ⟨rfl, fun _ _ _ => rfl⟩
theorem FrS.tr {o p : Nat} {h h1 h2 : ai_H} (x : FrS o p h h1) (y : FrS o p h1 h2) : FrS o p h h2 := ⟨y.1.trans x.1, fun q a b => (y.2 q a b).trans (x.2 q a b)⟩
theorem FrS.mk1 {o p a : Nat} {h h1 : ai_H} (hk : ∀ q : Nat, q ≠ a → h1[q]? = h[q]?) (hl : h1.length = h.length) (ha : a = o ∨ (p ≤ a ∧ a < p + 3)) : FrS o p h h1 := ⟨hl, fun q x y => hk q (by omega)⟩
theorem SX.fr {h h1 : ai_H} {o p cap n base m : Nat} {sl s1 s2 : Nat → Int32} {st T : Nat → Nat} (h0 : h1[o]? = h[o]?) (hk : ∀ q : Nat, p ≤ q → q < p + 3 → h1[q]? = h[q]?) (S : SX h o p cap n base m sl s1 s2 st T) : SX h1 o p cap n base m sl s1 s2 st T :=
  ⟨h0.trans S.1, (hk p (by omega) (by omega)).trans S.2.1, (hk _ (by omega) (by omega)).trans S.2.2.1, (hk _ (by omega) (by omega)).trans S.2.2.2.1, S.2.2.2.2⟩
abbrev PB (n x : Nat) (st T : Nat → Nat) (e : Nat) : Prop := ∀ j, j < e → T ((hfC n x + j) % n) ≠ 0 ∧ st (T ((hfC n x + j) % n) - 1) ≠ x
theorem s97 {X : ai_X} {h : ai_H} {o p cap n base m : Nat} {sl s1 s2 : Nat → Int32} {st T : Nat → Nat} (S : SX h o p cap n base m sl s1 s2 st T) : Mt X am_97 [.ref o] h (Qe (nI m) h) := by
  obtain ⟨c0, c1, c2, c3, hbase, hmc, hsl, hLP, hst, hn, hcn, hop⟩ := id S
  refine rk_aload_n rfl rfl ?_
  refine rk_get rfl (by assumption) rfl ?_
  exact rk_ireturn rfl rfl Qe_mk
theorem s98 {X : ai_X} {h : ai_H} {o p cap n base m : Nat} {sl s1 s2 : Nat → Int32} {st T : Nat → Nat} (S : SX h o p cap n base m sl s1 s2 st T) {i : Nat} (hi : i < m) : Mt X am_98 [.ref o, .int (nI i)] h (Qe (nI (st i)) h) := by
  obtain ⟨c0, c1, c2, c3, hbase, hmc, hsl, hLP, hst, hn, hcn, hop⟩ := id S
  refine rk_aload_n rfl rfl ?_
  refine rk_get rfl (by assumption) rfl ?_
  refine rk_iload_n rfl rfl ?_
  refine rk_iald rfl (by assumption) (rfl) (by omega) (by omega) ?_
  rw [(hst i hi).1]
  exact rk_ireturn rfl rfl Qe_mk
theorem l99 {X : ai_X} {h : ai_H} {o p cap n base m : Nat} {sl s1 s2 : Nat → Int32} {st T : Nat → Nat} (S : SX h o p cap n base m sl s1 s2 st T) {x D : Nat} (hx : x < 2 ^ 31) (hD : D < n) (h0 : T ((hfC n x + D) % n) = 0) : ∀ (d : Nat) (e : Nat) (c4 : Option Value), D < e + d → (e ≤ D) → (PB n x st T e) → Rk X am_99 16 [some (.ref o), some (.int (nI x)), some (.int (nI ((hfC n x + e) % n))), some (.int (nI e)), c4] [] h (Qi (fun w h1 => h1 = h ∧ ∃ e, e < n ∧ w = nI ((hfC n x + e) % n) ∧ PB n x st T e ∧ (T ((hfC n x + e) % n) = 0 ∨ (T ((hfC n x + e) % n) ≠ 0 ∧ st (T ((hfC n x + e) % n) - 1) = x)))) := by
  intro d
  induction d with
  | zero => intro e c4 hd he hp; exfalso; omega
  | succ d ih =>
    intro e c4 hd he hp
    obtain ⟨c0, c1, c2, c3, hbase, hmc, hsl, hLP, hst, hn, hcn, hop⟩ := id S
    have hs : (hfC n x + e) % n < n := Nat.mod_lt _ (by omega)
    obtain ⟨v, hv, hv1, hv2⟩ := hsl _ hs
    refine rk_iload_n rfl rfl ?_
    refine rk_aload_n rfl rfl ?_
    refine rk_get rfl (by assumption) rfl ?_
    refine rk_icmp_gt rfl rfl (fun hc19 => ?_) (fun hc19 => ?_)
    · replace hc19 := (nI_ltI (by omega) (by omega)).mp hc19
      omega
    · replace hc19 := mt (nI_ltI (by omega) (by omega)).mpr hc19
      refine rk_aload_n rfl rfl ?_
      refine rk_get rfl (by assumption) rfl ?_
      refine rk_iload_n rfl rfl ?_
      refine rk_iald rfl (by assumption) (rfl) (by omega) (by omega) ?_
      rw [hv]
      rcases Nat.lt_or_ge base v with hb | hb
      · refine rk_aload_n rfl rfl ?_
        refine rk_get rfl (by assumption) rfl ?_
        refine rk_isub rfl (pk_sub (by omega)) ?_
        refine rk_istore rfl (Nat.le_of_ble_eq_true rfl) rfl ?_
        refine rk_iload rfl rfl ?_
        refine rk_if_le rfl rfl (fun hc29 => ?_) (fun hc29 => ?_)
        · replace hc29 := (n0_le (by omega)).mp hc29
          omega
        · replace hc29 := mt (n0_le (by omega)).mpr hc29
          refine rk_aload_n rfl rfl ?_
          refine rk_get rfl (by assumption) rfl ?_
          refine rk_iload rfl rfl ?_
          refine rk_iconst (v := nI 1) rfl (by decide) ?_
          refine rk_isub rfl (pk_sub (by omega)) ?_
          refine rk_iald rfl (by assumption) (rfl) (by omega) (by omega) ?_
          rw [(hst (v - base - 1) (by omega)).1]
          have hb2 := (hst (v - base - 1) (by omega)).2
          refine rk_iload_n rfl rfl ?_
          refine rk_icmp_ne rfl rfl (fun hc37 => ?_) (fun hc37 => ?_)
          · replace hc37 := mt (nI_eq (by omega) (by omega)).mpr hc37
            refine rk_iload_n rfl rfl ?_
            refine rk_iconst (v := nI 1) rfl (by decide) ?_
            refine rk_iadd rfl (nI_add _ _) ?_
            refine rk_aload_n rfl rfl ?_
            refine rk_get rfl (by assumption) rfl ?_
            refine rk_iand rfl (b_andU _ _) ?_
            refine rk_istore_n rfl (Nat.le_of_ble_eq_true rfl) rfl ?_
            refine rk_iinc rfl rfl (n_inc _) rfl ?_
            refine rk_goto rfl rfl ?_
            have heD : e ≠ D := fun z => by subst z; omega
            rw [msk hn, LPr.stp]
            refine ih (e + 1) _ (by omega) (by omega) (fun j hj => ?_)
            by_cases z : j = e
            · subst z; exact ⟨by omega, by rw [hv2]; exact hc37⟩
            · exact hp j (by omega)
          · replace hc37 := Decidable.not_not.mp hc37
            replace hc37 := (nI_eq (by omega) (by omega)).mp hc37
            refine rk_iload_n rfl rfl ?_
            exact rk_ireturn rfl rfl ⟨_, _, rfl, rfl, e, by omega, rfl, hp, Or.inr ⟨by omega, by rw [hv2]; exact hc37⟩⟩
      · refine rk_aload_n rfl rfl ?_
        refine rk_get rfl (by assumption) rfl ?_
        refine rk_isub rfl rfl ?_
        refine rk_istore rfl (Nat.le_of_ble_eq_true rfl) rfl ?_
        refine rk_iload rfl rfl ?_
        refine rk_if_le rfl rfl (fun hc29 => ?_) (fun hc29 => ?_)
        · refine rk_iload_n rfl rfl ?_
          exact rk_ireturn rfl rfl ⟨_, _, rfl, rfl, e, by omega, rfl, hp, Or.inl (by omega)⟩
        · exact absurd (suble hb (by omega)) hc29
theorem s99 {X : ai_X} {h : ai_H} {o p cap n base m : Nat} {sl s1 s2 : Nat → Int32} {st T : Nat → Nat} (S : SX h o p cap n base m sl s1 s2 st T) {x : Nat} (hx : x < 2 ^ 31) (hmn : m < n) : Mt X am_99 [.ref o, .int (nI x)] h (Qi (fun w h1 => h1 = h ∧ ∃ e, e < n ∧ w = nI ((hfC n x + e) % n) ∧ PB n x st T e ∧ (T ((hfC n x + e) % n) = 0 ∨ (T ((hfC n x + e) % n) ≠ 0 ∧ st (T ((hfC n x + e) % n) - 1) = x)))) := by
  obtain ⟨c0, c1, c2, c3, hbase, hmc, hsl, hLP, hst, hn, hcn, hop⟩ := id S
  obtain ⟨D, hD, h0⟩ := hLP.free (x := x) hmn (hfC_lt hn x)
  refine rk_iload_n rfl rfl ?_
  refine rk_sipush (v := nI 16384) rfl (by decide) ?_
  refine rk_icmp_ge rfl rfl (fun hc2 => ?_) (fun hc2 => ?_)
  · replace hc2 := (nI_leI (by omega) (by omega)).mp hc2
    refine rk_iload_n rfl rfl ?_
    refine rk_ldc rfl ?_
    refine rk_imul rfl rfl ?_
    refine rk_bipush (v := nI 16) rfl (by decide) ?_
    refine rk_iushr rfl rfl ?_
    refine rk_aload_n rfl rfl ?_
    refine rk_get rfl (by assumption) rfl ?_
    refine rk_iand rfl rfl ?_
    refine rk_istore_n rfl (Nat.le_of_ble_eq_true rfl) rfl ?_
    refine rk_iconst (v := nI 0) rfl (by decide) ?_
    refine rk_istore_n rfl (Nat.le_of_ble_eq_true rfl) rfl ?_
    have z := l99 (X := X) S hx hD h0 (D + 1) 0 none (by omega) (by omega) (fun j hj => absurd hj (by omega))
    first | rw [hfC_a hn hc2] at z | rw [hfC_b hn hc2] at z
    exact z
  · replace hc2 := mt (nI_leI (by omega) (by omega)).mpr hc2
    refine rk_iload_n rfl rfl ?_
    refine rk_goto rfl rfl ?_
    refine rk_aload_n rfl rfl ?_
    refine rk_get rfl (by assumption) rfl ?_
    refine rk_iand rfl (b_andU _ _) ?_
    refine rk_istore_n rfl (Nat.le_of_ble_eq_true rfl) rfl ?_
    refine rk_iconst (v := nI 0) rfl (by decide) ?_
    refine rk_istore_n rfl (Nat.le_of_ble_eq_true rfl) rfl ?_
    have z := l99 (X := X) S hx hD h0 (D + 1) 0 none (by omega) (by omega) (fun j hj => absurd hj (by omega))
    first | rw [hfC_a hn hc2] at z | rw [hfC_b hn hc2] at z
    exact z
theorem s101r {X : ai_X} {h : ai_H} {o p cap n base m : Nat} {sl s1 s2 : Nat → Int32} {st T : Nat → Nat} (S : SX h o p cap n base m sl s1 s2 st T) {x : Nat} (hx : x < 2 ^ 31) (hmn : m < n) (hcap : m < cap) {w : Int32} : Mt X am_101 [.ref o, .int (nI x), .int (-1), .int w] h (Qi (fun w h1 => (mem st x m = true ∧ w = nI 0 ∧ h1 = h) ∨ (¬ mem st x m = true ∧ w = nI 1 ∧ FrS o p h h1 ∧ ∃ sl1 T1, SX h1 o p cap n base (m + 1) sl1 (upd s1 m (nI x)) (upd s2 m (-1)) (un st m x) T1))) := by
  obtain ⟨c0, c1, c2, c3, hbase, hmc, hsl, hLP, hst, hn, hcn, hop⟩ := id S
  have F0 : FrS o p h h := FrS.rfl'
  refine rk_aload_n rfl rfl ?_
  refine rk_iload_n rfl rfl ?_
  refine rk_cv1i rfl rfl (by assumption) rfl rfl (Nat.le_of_ble_eq_true rfl) (Nat.le_of_ble_eq_true rfl) (s99 S hx hmn) (fun w h1 hF => ?_)
  obtain ⟨rfl, e, he, rfl, hp, hT⟩ := hF
  have hs : (hfC n x + e) % n < n := Nat.mod_lt _ (by omega)
  obtain ⟨v, hv, hv1, hv2⟩ := hsl _ hs
  refine rk_istore rfl (Nat.le_of_ble_eq_true rfl) rfl ?_
  refine rk_iload rfl rfl ?_
  refine rk_iconst (v := (-1)) rfl (by decide) ?_
  refine rk_icmp_eq rfl rfl (fun hc6 => ?_) (fun hc6 => ?_)
  · exact absurd hc6 (nm_eq (by omega))
  · refine rk_aload_n rfl rfl ?_
    refine rk_get rfl (by assumption) rfl ?_
    refine rk_iload rfl rfl ?_
    refine rk_iald rfl (by assumption) (rfl) (by omega) (by omega) ?_
    rw [hv]
    refine rk_aload_n rfl rfl ?_
    refine rk_get rfl (by assumption) rfl ?_
    refine rk_icmp_gt rfl rfl (fun hc13 => ?_) (fun hc13 => ?_)
    · replace hc13 := (nI_ltI (by omega) (by omega)).mp hc13
      refine rk_iconst (v := nI 0) rfl (by decide) ?_
      refine rk_ireturn rfl (by decide) ⟨_, _, rfl, Or.inl ⟨?_, rfl, rfl⟩⟩
      rcases hT with z | ⟨z, y⟩
      · omega
      · exact (mem_iff m).mpr ⟨_, by have := hLP.2.1 _ hs; omega, y⟩
    · replace hc13 := mt (nI_ltI (by omega) (by omega)).mpr hc13
      refine rk_aload_n rfl rfl ?_
      refine rk_get rfl (by assumption) rfl ?_
      refine rk_aload_n rfl rfl ?_
      refine rk_get rfl (by assumption) rfl ?_
      refine rk_icmp_lt rfl rfl (fun hc18 => ?_) (fun hc18 => ?_)
      · replace hc18 := (nI_ltI (by omega) (by omega)).mp hc18
        refine rk_aload_n rfl rfl ?_
        refine rk_get rfl (by assumption) rfl ?_
        refine rk_aload_n rfl rfl ?_
        refine rk_get rfl (by assumption) rfl ?_
        refine rk_iload_n rfl rfl ?_
        refine rk_iast rfl c2 (rfl) (by omega) (by omega) ?_
        refine hp_gen c2 (fun h1 g1 hk1 hl1 => ?_)
        replace c0 := (hk1 _ (by omega)).trans c0
        replace c1 := (hk1 _ (by omega)).trans c1
        replace c3 := (hk1 _ (by omega)).trans c3
        replace F0 := F0.tr (FrS.mk1 hk1 hl1 (by omega))
        replace c2 := g1
        refine rk_aload_n rfl rfl ?_
        refine rk_get rfl (by assumption) rfl ?_
        refine rk_aload_n rfl rfl ?_
        refine rk_get rfl (by assumption) rfl ?_
        refine rk_iload_n rfl rfl ?_
        refine rk_iconst (v := (-1)) rfl (by decide) ?_
        refine rk_icmp_ne rfl rfl (fun hc33 => ?_) (fun hc33 => ?_)
        · exact absurd rfl hc33
        · replace hc33 := Decidable.not_not.mp hc33
          refine rk_iconst (v := (-1)) rfl (by decide) ?_
          refine rk_goto rfl rfl ?_
          refine rk_iast rfl c3 (rfl) (by omega) (by omega) ?_
          refine hp_gen c3 (fun h1 g1 hk1 hl1 => ?_)
          replace c0 := (hk1 _ (by omega)).trans c0
          replace c1 := (hk1 _ (by omega)).trans c1
          replace c2 := (hk1 _ (by omega)).trans c2
          replace F0 := F0.tr (FrS.mk1 hk1 hl1 (by omega))
          replace c3 := g1
          refine rk_aload_n rfl rfl ?_
          refine rk_dup_a rfl ?_
          refine rk_get rfl (by assumption) rfl ?_
          refine rk_iconst (v := nI 1) rfl (by decide) ?_
          refine rk_iadd rfl (nI_add _ _) ?_
          refine rk_put rfl c0 (Nat.le_of_ble_eq_true rfl) ft_7_6 rfl (Or.inl rfl) rfl ?_
          refine hp_gen c0 (fun h1 g1 hk1 hl1 => ?_)
          replace c1 := (hk1 _ (by omega)).trans c1
          replace c2 := (hk1 _ (by omega)).trans c2
          replace c3 := (hk1 _ (by omega)).trans c3
          replace F0 := F0.tr (FrS.mk1 hk1 hl1 (by omega))
          replace c0 := g1
          refine rk_aload_n rfl rfl ?_
          refine rk_get rfl (by assumption) rfl ?_
          refine rk_iload rfl rfl ?_
          refine rk_aload_n rfl rfl ?_
          refine rk_get rfl (by assumption) rfl ?_
          refine rk_aload_n rfl rfl ?_
          refine rk_get rfl (by assumption) rfl ?_
          refine rk_iadd rfl (nI_add _ _) ?_
          refine rk_iast rfl c1 (rfl) (by omega) (by omega) ?_
          refine hp_gen c1 (fun h1 g1 hk1 hl1 => ?_)
          replace c0 := (hk1 _ (by omega)).trans c0
          replace c2 := (hk1 _ (by omega)).trans c2
          replace c3 := (hk1 _ (by omega)).trans c3
          replace F0 := F0.tr (FrS.mk1 hk1 hl1 (by omega))
          replace c1 := g1
          refine rk_iconst (v := nI 1) rfl (by decide) ?_
          have hT0 : T ((hfC n x + e) % n) = 0 := by omega
          refine rk_ireturn rfl (by decide) ⟨_, _, rfl, Or.inr ⟨mem_no (hLP.miss hp hT0), rfl, F0, _, _, c0, c1, c2, c3, hbase, by omega, fun j hj => ?_, hLP.ins he (fun j hj => (hp j hj).1) hT0, fun i hi => ?_, hn, hcn, hop⟩⟩
          · simp only [upd, un]
            by_cases z : j = (hfC n x + e) % n
            · rw [if_pos z, if_pos z]
              exact ⟨_, rfl, by omega, by omega⟩
            · rw [if_neg z, if_neg z]
              obtain ⟨y, y1, y2, y3⟩ := hsl j hj
              exact ⟨y, y1, by omega, y3⟩
          · simp only [upd, un]
            by_cases z : i = m
            · rw [if_pos z, if_pos z]
              exact ⟨rfl, hx⟩
            · rw [if_neg z, if_neg z]
              exact hst i (by omega)
      · replace hc18 := mt (nI_ltI (by omega) (by omega)).mpr hc18
        omega
theorem s101 {X : ai_X} {h : ai_H} {o p cap n base m : Nat} {sl s1 s2 : Nat → Int32} {st T : Nat → Nat} (S : SX h o p cap n base m sl s1 s2 st T) {x : Nat} (hx : x < 2 ^ 31) (hmn : m < n) (hcap : m < cap) {k t : Nat} (hk : k < 65536) : Mt X am_101 [.ref o, .int (nI x), .int  (nI k), .int (nI t)] h (Qi (fun w h1 => (mem st x m = true ∧ w = nI 0 ∧ h1 = h) ∨ (¬ mem st x m = true ∧ w = nI 1 ∧ FrS o p h h1 ∧ ∃ sl1 T1, SX h1 o p cap n base (m + 1) sl1 (upd s1 m (nI x)) (upd s2 m (nI (k * 8 + t))) (un st m x) T1))) := by
  obtain ⟨c0, c1, c2, c3, hbase, hmc, hsl, hLP, hst, hn, hcn, hop⟩ := id S
  have F0 : FrS o p h h := FrS.rfl'
  refine rk_aload_n rfl rfl ?_
  refine rk_iload_n rfl rfl ?_
  refine rk_cv1i rfl rfl (by assumption) rfl rfl (Nat.le_of_ble_eq_true rfl) (Nat.le_of_ble_eq_true rfl) (s99 S hx hmn) (fun w h1 hF => ?_)
  obtain ⟨rfl, e, he, rfl, hp, hT⟩ := hF
  have hs : (hfC n x + e) % n < n := Nat.mod_lt _ (by omega)
  obtain ⟨v, hv, hv1, hv2⟩ := hsl _ hs
  refine rk_istore rfl (Nat.le_of_ble_eq_true rfl) rfl ?_
  refine rk_iload rfl rfl ?_
  refine rk_iconst (v := (-1)) rfl (by decide) ?_
  refine rk_icmp_eq rfl rfl (fun hc6 => ?_) (fun hc6 => ?_)
  · exact absurd hc6 (nm_eq (by omega))
  · refine rk_aload_n rfl rfl ?_
    refine rk_get rfl (by assumption) rfl ?_
    refine rk_iload rfl rfl ?_
    refine rk_iald rfl (by assumption) (rfl) (by omega) (by omega) ?_
    rw [hv]
    refine rk_aload_n rfl rfl ?_
    refine rk_get rfl (by assumption) rfl ?_
    refine rk_icmp_gt rfl rfl (fun hc13 => ?_) (fun hc13 => ?_)
    · replace hc13 := (nI_ltI (by omega) (by omega)).mp hc13
      refine rk_iconst (v := nI 0) rfl (by decide) ?_
      refine rk_ireturn rfl (by decide) ⟨_, _, rfl, Or.inl ⟨?_, rfl, rfl⟩⟩
      rcases hT with z | ⟨z, y⟩
      · omega
      · exact (mem_iff m).mpr ⟨_, by have := hLP.2.1 _ hs; omega, y⟩
    · replace hc13 := mt (nI_ltI (by omega) (by omega)).mpr hc13
      refine rk_aload_n rfl rfl ?_
      refine rk_get rfl (by assumption) rfl ?_
      refine rk_aload_n rfl rfl ?_
      refine rk_get rfl (by assumption) rfl ?_
      refine rk_icmp_lt rfl rfl (fun hc18 => ?_) (fun hc18 => ?_)
      · replace hc18 := (nI_ltI (by omega) (by omega)).mp hc18
        refine rk_aload_n rfl rfl ?_
        refine rk_get rfl (by assumption) rfl ?_
        refine rk_aload_n rfl rfl ?_
        refine rk_get rfl (by assumption) rfl ?_
        refine rk_iload_n rfl rfl ?_
        refine rk_iast rfl c2 (rfl) (by omega) (by omega) ?_
        refine hp_gen c2 (fun h1 g1 hk1 hl1 => ?_)
        replace c0 := (hk1 _ (by omega)).trans c0
        replace c1 := (hk1 _ (by omega)).trans c1
        replace c3 := (hk1 _ (by omega)).trans c3
        replace F0 := F0.tr (FrS.mk1 hk1 hl1 (by omega))
        replace c2 := g1
        refine rk_aload_n rfl rfl ?_
        refine rk_get rfl (by assumption) rfl ?_
        refine rk_aload_n rfl rfl ?_
        refine rk_get rfl (by assumption) rfl ?_
        refine rk_iload_n rfl rfl ?_
        refine rk_iconst (v := (-1)) rfl (by decide) ?_
        refine rk_icmp_ne rfl rfl (fun hc33 => ?_) (fun hc33 => ?_)
        · refine rk_iload_n rfl rfl ?_
          refine rk_bipush (v := nI 8) rfl (by decide) ?_
          refine rk_imul rfl (pk_mul _ _) ?_
          refine rk_iload_n rfl rfl ?_
          refine rk_iadd rfl (nI_add _ _) ?_
          refine rk_iast rfl c3 (rfl) (by omega) (by omega) ?_
          refine hp_gen c3 (fun h1 g1 hk1 hl1 => ?_)
          replace c0 := (hk1 _ (by omega)).trans c0
          replace c1 := (hk1 _ (by omega)).trans c1
          replace c2 := (hk1 _ (by omega)).trans c2
          replace F0 := F0.tr (FrS.mk1 hk1 hl1 (by omega))
          replace c3 := g1
          refine rk_aload_n rfl rfl ?_
          refine rk_dup_a rfl ?_
          refine rk_get rfl (by assumption) rfl ?_
          refine rk_iconst (v := nI 1) rfl (by decide) ?_
          refine rk_iadd rfl (nI_add _ _) ?_
          refine rk_put rfl c0 (Nat.le_of_ble_eq_true rfl) ft_7_6 rfl (Or.inl rfl) rfl ?_
          refine hp_gen c0 (fun h1 g1 hk1 hl1 => ?_)
          replace c1 := (hk1 _ (by omega)).trans c1
          replace c2 := (hk1 _ (by omega)).trans c2
          replace c3 := (hk1 _ (by omega)).trans c3
          replace F0 := F0.tr (FrS.mk1 hk1 hl1 (by omega))
          replace c0 := g1
          refine rk_aload_n rfl rfl ?_
          refine rk_get rfl (by assumption) rfl ?_
          refine rk_iload rfl rfl ?_
          refine rk_aload_n rfl rfl ?_
          refine rk_get rfl (by assumption) rfl ?_
          refine rk_aload_n rfl rfl ?_
          refine rk_get rfl (by assumption) rfl ?_
          refine rk_iadd rfl (nI_add _ _) ?_
          refine rk_iast rfl c1 (rfl) (by omega) (by omega) ?_
          refine hp_gen c1 (fun h1 g1 hk1 hl1 => ?_)
          replace c0 := (hk1 _ (by omega)).trans c0
          replace c2 := (hk1 _ (by omega)).trans c2
          replace c3 := (hk1 _ (by omega)).trans c3
          replace F0 := F0.tr (FrS.mk1 hk1 hl1 (by omega))
          replace c1 := g1
          refine rk_iconst (v := nI 1) rfl (by decide) ?_
          have hT0 : T ((hfC n x + e) % n) = 0 := by omega
          refine rk_ireturn rfl (by decide) ⟨_, _, rfl, Or.inr ⟨mem_no (hLP.miss hp hT0), rfl, F0, _, _, c0, c1, c2, c3, hbase, by omega, fun j hj => ?_, hLP.ins he (fun j hj => (hp j hj).1) hT0, fun i hi => ?_, hn, hcn, hop⟩⟩
          · simp only [upd, un]
            by_cases z : j = (hfC n x + e) % n
            · rw [if_pos z, if_pos z]
              exact ⟨_, rfl, by omega, by omega⟩
            · rw [if_neg z, if_neg z]
              obtain ⟨y, y1, y2, y3⟩ := hsl j hj
              exact ⟨y, y1, by omega, y3⟩
          · simp only [upd, un]
            by_cases z : i = m
            · rw [if_pos z, if_pos z]
              exact ⟨rfl, hx⟩
            · rw [if_neg z, if_neg z]
              exact hst i (by omega)
        · replace hc33 := Decidable.not_not.mp hc33
          exact absurd hc33 (nm_eq (by omega))
      · replace hc18 := mt (nI_ltI (by omega) (by omega)).mpr hc18
        omega
/-! what came about, in the search -/
def frB (B : Bf) (i : Nat) : Int32 := if i = 0 then -1 else nI (B.pa i * 8 + B.to i)
def SB (h : ai_H) (o p cap n : Nat) (B : Bf) : Prop := ∃ base sl s1 s2 T, SX h o p cap n base B.m sl s1 s2 B.st T ∧ ∀ i, i < B.m → s2 i = frB B i
def SE (h : ai_H) (o p cap n : Nat) : Prop := ∃ base sl s1 s2 T, SX h o p cap n base 0 sl s1 s2 (fun _ => 0) T
theorem SB.fr {h h1 : ai_H} {o p cap n : Nat} {B : Bf} (h0 : h1[o]? = h[o]?) (hk : ∀ q : Nat, p ≤ q → q < p + 3 → h1[q]? = h[q]?) (S : SB h o p cap n B) : SB h1 o p cap n B := by
  obtain ⟨base, sl, s1, s2, T, a, b⟩ := S
  exact ⟨base, sl, s1, s2, T, a.fr h0 hk, b⟩
theorem SB.obj {h : ai_H} {o p cap n : Nat} {B : Bf} (S : SB h o p cap n B) : ∃ base, h[o]? = some (cSrch (nI cap) (nI (n - 1)) (.ref p) (.ref (p + 1)) (.ref (p + 2)) (nI base) (nI B.m)) := by
  obtain ⟨base, sl, s1, s2, T, a, b⟩ := S
  exact ⟨base, a.1⟩
theorem SE.obj {h : ai_H} {o p cap n : Nat} (S : SE h o p cap n) : ∃ base, h[o]? = some (cSrch (nI cap) (nI (n - 1)) (.ref p) (.ref (p + 1)) (.ref (p + 2)) (nI base) (nI 0)) := by
  obtain ⟨base, sl, s1, s2, T, a⟩ := S
  exact ⟨base, a.1⟩
/-- behind a search its cells are as they must be between two calls -/
theorem SX.at' {h : ai_H} {o p cap n base m : Nat} {sl s1 s2 : Nat → Int32} {st T : Nat → Nat} (S : SX h o p cap n base m sl s1 s2 st T) : SrchAt h o cap n (some p) := by
  obtain ⟨c0, c1, c2, c3, hbase, hmc, hsl, -⟩ := S
  exact Or.inr ⟨p, base, m, sl, s1, s2, rfl, c0, c1, c2, c3, hbase, hmc, fun i hi => by obtain ⟨x, y, z, -⟩ := hsl i hi; exact ⟨x, z, y⟩⟩
theorem SB.at' {h : ai_H} {o p cap n : Nat} {B : Bf} (S : SB h o p cap n B) : SrchAt h o cap n (some p) := by
  obtain ⟨base, sl, s1, s2, T, a, b⟩ := S
  exact a.at'
theorem s97B {X : ai_X} {h : ai_H} {o p cap n : Nat} {B : Bf} (S : SB h o p cap n B) : Mt X am_97 [.ref o] h (Qe (nI B.m) h) := by
  obtain ⟨base, sl, s1, s2, T, a, b⟩ := S
  exact s97 a
theorem s98B {X : ai_X} {h : ai_H} {o p cap n i : Nat} {B : Bf} (S : SB h o p cap n B) (hi : i < B.m) : Mt X am_98 [.ref o, .int (nI i)] h (Qe (nI (B.st i)) h) := by
  obtain ⟨base, sl, s1, s2, T, a, b⟩ := S
  exact s98 a hi
theorem s101B {X : ai_X} {h : ai_H} {o p cap n x k t : Nat} {B : Bf} (S : SB h o p cap n B) (h0 : 0 < B.m) (hx : x < 2 ^ 31) (hmn : B.m < n) (hcap : B.m < cap) (hk : k < 65536) : Mt X am_101 [.ref o, .int (nI x), .int (nI k), .int (nI t)] h (Qi (fun w h1 => w = bI (¬ mem B.st x B.m = true) ∧ FrS o p h h1 ∧ SB h1 o p cap n (bfA B x k t))) := by
  obtain ⟨base, sl, s1, s2, T, a, b⟩ := S
  refine (s101 (t := t) a hx hmn hcap hk).mono ?_
  rintro o' ⟨w, h1, rfl, ⟨m1, rfl, rfl⟩ | ⟨m1, rfl, F, sl1, T1, a1⟩⟩
  · refine ⟨_, _, rfl, by rw [bI_f (fun z => z m1)]; exact nI_0, FrS.rfl', ?_⟩
    rw [bfA, if_pos m1]
    exact ⟨base, sl, s1, s2, T, a, b⟩
  · refine ⟨_, _, rfl, by rw [bI_t m1]; exact nI_one, F, ?_⟩
    rw [bfA, if_neg m1]
    refine ⟨base, sl1, _, _, T1, a1, fun i hi => ?_⟩
    have hi' : i < B.m + 1 := hi
    show upd s2 B.m (nI (k * 8 + t)) i = if i = 0 then -1 else nI (un B.pa B.m k i * 8 + un B.to B.m t i)
    simp only [upd, un]
    by_cases z : i = B.m
    · rw [if_pos z, if_neg (by omega), if_pos z, if_pos z]
    · rw [if_neg z, if_neg z, if_neg z]
      exact b i (by omega)
theorem s101R {X : ai_X} {h : ai_H} {o p cap n x : Nat} {t : Int32} (S : SE h o p cap n) (hx : x < 2 ^ 31) (hcap : 0 < cap) : Mt X am_101 [.ref o, .int (nI x), .int (-1), .int t] h (Qi (fun w h1 => w = 1 ∧ FrS o p h h1 ∧ SB h1 o p cap n (bf0 x))) := by
  obtain ⟨base, sl, s1, s2, T, a⟩ := S
  have hn := a.2.2.2.2.2.2.2.2.2.1
  have a' : SX h o p cap n base 0 sl s1 s2 (fun _ => x) T := by
    obtain ⟨y1, y2, y3, y4, y5, y6, y7, y8, y9, y10⟩ := a
    exact ⟨y1, y2, y3, y4, y5, y6, y7, ⟨y8.1, y8.2.1, fun i hi => absurd hi (by omega)⟩, fun i hi => absurd hi (by omega), y10⟩
  refine (s101r (w := t) a' hx (by omega) hcap).mono ?_
  rintro o' ⟨w, h1, rfl, ⟨m1, rfl, rfl⟩ | ⟨m1, rfl, F, sl1, T1, a1⟩⟩
  · exact absurd m1 (by simp [mem])
  · have e : un (fun _ => x) 0 x = fun _ => x := funext fun i => by unfold un; split <;> rfl
    rw [e] at a1
    refine ⟨_, _, rfl, nI_one, F, base, sl1, upd s1 0 (nI x), upd s2 0 (-1), T1, a1, fun i hi => ?_⟩
    have hi' : i < 1 := hi
    have : i = 0 := by omega
    subst this
    rfl
theorem frB_par {B : Bf} {k : Nat} (h : 0 < k) (ht : B.to k < 8) (hp : B.pa k < 65536) : frB B k >>> (nI 3 &&& 31) = nI (B.pa k) ∧ frB B k &&& nI 7 = nI (B.to k) := by
  rw [frB, if_neg (by omega)]
  constructor
  · rw [b_shr (by omega) (by decide), show (B.pa k * 8 + B.to k) / 2 ^ 3 = B.pa k by omega]
  · rw [b_andU, show B.pa k * 8 + B.to k &&& 7 = (B.pa k * 8 + B.to k) % 2 ^ 3 from Nat.and_two_pow_sub_one_eq_mod _ 3, show (B.pa k * 8 + B.to k) % 2 ^ 3 = B.to k by omega]
theorem frB_neg {B : Bf} {k : Nat} (ht : k = 0 ∨ B.to k < 8) (hp : k = 0 ∨ B.pa k < 65536) : frB B k < 0 ↔ k = 0 := by
  unfold frB
  split
  · rename_i h; exact ⟨fun _ => h, fun _ => by decide⟩
  · rename_i h; exact ⟨fun z => absurd z (nI_pos (by omega)), fun z => absurd z h⟩
theorem s91 {X : ai_X} {h : ai_H} {p i : Nat} {n v : Int32} {f : Nat → Int32} (R : RouteAt h p n f) (hi : i < 500) : Mt X am_91 [.ref p, .int (nI i), .int v] h (Qv (fun h1 => Fr p (p + 2) h h1 ∧ RouteAt h1 p n (upd f i v))) := by
  obtain ⟨c0, c1⟩ := id R
  have F0 : Fr p (p + 2) h h := Fr.rfl'
  refine rk_iload_n rfl rfl ?_
  refine rk_if_lt rfl rfl (fun hc1 => ?_) (fun hc1 => ?_)
  · replace hc1 := (n0_lt (by omega)).mp hc1
    exact hc1.elim
  · replace hc1 := mt (n0_lt (by omega)).mpr hc1
    refine rk_iload_n rfl rfl ?_
    refine rk_sipush (v := nI 500) rfl (by decide) ?_
    refine rk_icmp_ge rfl rfl (fun hc4 => ?_) (fun hc4 => ?_)
    · replace hc4 := (nI_leI (by omega) (by omega)).mp hc4
      omega
    · replace hc4 := mt (nI_leI (by omega) (by omega)).mpr hc4
      refine rk_aload_n rfl rfl ?_
      refine rk_get rfl (by assumption) rfl ?_
      refine rk_iload_n rfl rfl ?_
      refine rk_iload_n rfl rfl ?_
      refine rk_iast rfl c1 (rfl) (by omega) (by decide) ?_
      refine hp_gen c1 (fun h1 g1 hk1 hl1 => ?_)
      replace c0 := (hk1 _ (by omega)).trans c0
      replace F0 := F0.tr (Fr.mk1 hk1 hl1 (by omega) (by omega))
      replace c1 := g1
      exact rk_return rfl rfl ⟨_, rfl, F0, c0, c1⟩
theorem l93 {X : ai_X} {h : ai_H} {p n : Nat} (hn : n ≤ 500) : ∀ (d : Nat) (k : Nat) (g : ai_H) (f : Nat → Int32), n < k + d → (k ≤ n) → (Fr p (p + 2) h g) → (RouteAt g p (nI k) f) → (∀ j, j < k → f j = nI 0) → Rk X am_93 4 [some (.ref p), some (.int (nI n)), some (.int (nI k))] [] g (Qv (fun h1 => Fr p (p + 2) h h1 ∧ RtAt h1 p n (fun _ => 0))) := by
  intro d
  induction d with
  | zero => intro k g f hd hk F R hf; exfalso; omega
  | succ d ih =>
    intro k g f hd hk F R hf
    have r0 := R.1
    refine rk_iload_n rfl rfl ?_
    refine rk_iload_n rfl rfl ?_
    refine rk_icmp_ge rfl rfl (fun hc6 => ?_) (fun hc6 => ?_)
    · replace hc6 := (nI_leI (by omega) (by omega)).mp hc6
      have hk2 : k = n := by omega
      subst hk2
      exact rk_return rfl rfl ⟨_, rfl, F, f, R, hf⟩
    · replace hc6 := mt (nI_leI (by omega) (by omega)).mpr hc6
      refine rk_iload_n rfl rfl ?_
      refine rk_sipush (v := nI 500) rfl (by decide) ?_
      refine rk_icmp_ge rfl rfl (fun hc9 => ?_) (fun hc9 => ?_)
      · replace hc9 := (nI_leI (by omega) (by omega)).mp hc9
        omega
      · replace hc9 := mt (nI_leI (by omega) (by omega)).mpr hc9
        refine rk_aload_n rfl rfl ?_
        refine rk_iconst (v := nI 0) rfl (by decide) ?_
        refine rk_cv1v rfl rfl (by assumption) rfl rfl (Nat.le_of_ble_eq_true rfl) (Nat.le_of_ble_eq_true rfl) (s89 R (by omega)) (fun h1 hF => ?_)
        refine rk_iinc rfl rfl (n_inc _) rfl ?_
        refine rk_goto rfl rfl ?_
        refine ih (k + 1) h1 _ (by omega) (by omega) (F.tr hF.1) hF.2 (fun j hj => ?_)
        simp only [upd]
        by_cases z : j = k
        · rw [if_pos z]
        · rw [if_neg z]; exact hf j (by omega)
theorem s93 {X : ai_X} {h : ai_H} {p n : Nat} {n0 : Int32} {f : Nat → Int32} (R : RouteAt h p n0 f) (hn : n ≤ 500) : Mt X am_93 [.ref p, .int (nI n)] h (Qv (fun h1 => Fr p (p + 2) h h1 ∧ RtAt h1 p n (fun _ => 0))) := by
  have r0 := R.1
  refine rk_aload_n rfl rfl ?_
  refine rk_cv0v rfl rfl (by assumption) rfl rfl (Nat.le_of_ble_eq_true rfl) (Nat.le_of_ble_eq_true rfl) (s88 R) (fun h1 hF => ?_)
  refine rk_iconst (v := nI 0) rfl (by decide) ?_
  refine rk_istore_n rfl (Nat.le_of_ble_eq_true rfl) rfl ?_
  refine (l93 hn (n + 1) 0 h1 f (by omega) (by omega) Fr.rfl' hF.2 (fun j hj => absurd hj (by omega))).mono ?_
  rintro o ⟨h2, rfl, F2, R2⟩
  exact ⟨_, rfl, hF.1.tr F2, R2⟩
theorem l102a {X : ai_X} {h : ai_H} {o p q cap n T x : Nat} {nx : Nat → Nat → Nat} {ok : Nat → Bool} {B : Bf} (S : SB h o p cap n B) (hI : BI nx ok T x B) (hT : T ≤ 8) {P : ai_O → Prop} (z : ∀ c4, Rk X am_102 27 [some (.ref o), some (.ref q), some (.int (nI (dep B.pa (B.m - 1)))), some (.int (nI 0)), c4] [] h P) : ∀ (d : Nat) (j : Nat) (c4 : Option Value), dep B.pa (B.m - 1) < j + d → (j ≤ dep B.pa (B.m - 1)) → Rk X am_102 7 [some (.ref o), some (.ref q), some (.int (nI j)), some (.int (nI (anc B.pa (B.m - 1) j))), c4] [] h (P) := by
  intro d
  induction d with
  | zero => intro j c4 hd hj; exfalso; omega
  | succ d ih =>
    intro j c4 hd hj
    obtain ⟨base, sl, s1, s2, T', S', hfr⟩ := id S
    obtain ⟨c0, c1, c2, c3, hbase, hmc, hsl, hLP, hst, hn, hcn, hop⟩ := id S'
    have hm0 := hI.1
    have hpar := hI.par
    have hton : ∀ i, 0 < i → i < B.m → B.to i < 8 := fun i a b => Nat.lt_of_lt_of_le (hI.2.2.2 i a b).2.1 hT
    obtain ⟨hj1, hj2⟩ := dep_anc hpar (k := B.m - 1) (by omega) j hj
    have hj3 := dep_end hpar (k := B.m - 1) (by omega) hj
    have hdl := dep_le hpar (B.m - 1) (by omega)
    have hty : anc B.pa (B.m - 1) j = 0 ∨ B.to (anc B.pa (B.m - 1) j) < 8 := by
      by_cases y : anc B.pa (B.m - 1) j = 0
      · exact Or.inl y
      · exact Or.inr (hton _ (by omega) hj1)
    have hpy : anc B.pa (B.m - 1) j = 0 ∨ B.pa (anc B.pa (B.m - 1) j) < 65536 := by
      by_cases y : anc B.pa (B.m - 1) j = 0
      · exact Or.inl y
      · exact Or.inr (by have := hpar _ (by omega) hj1; omega)
    have hne := frB_neg hty hpy
    refine rk_iload_n rfl rfl ?_
    refine rk_aload_n rfl rfl ?_
    refine rk_get rfl (by assumption) rfl ?_
    refine rk_icmp_ge rfl rfl (fun hc10 => ?_) (fun hc10 => ?_)
    · replace hc10 := (nI_leI (by omega) (by omega)).mp hc10
      omega
    · replace hc10 := mt (nI_leI (by omega) (by omega)).mpr hc10
      refine rk_iload_n rfl rfl ?_
      refine rk_if_lt rfl rfl (fun hc12 => ?_) (fun hc12 => ?_)
      · replace hc12 := (n0_lt (by omega)).mp hc12
        exact hc12.elim
      · replace hc12 := mt (n0_lt (by omega)).mpr hc12
        refine rk_aload_n rfl rfl ?_
        refine rk_get rfl (by assumption) rfl ?_
        refine rk_iload_n rfl rfl ?_
        refine rk_iald rfl (by assumption) (rfl) (by omega) (by omega) ?_
        rw [hfr _ hj1]
        refine rk_if_lt rfl rfl (fun hc17 => ?_) (fun hc17 => ?_)
        · have hk0 := hne.mp hc17
          have hjd := hj3.mp hk0
          rw [hk0]
          rw [hjd]
          exact z _
        · have hk0 : 0 < anc B.pa (B.m - 1) j := Nat.pos_of_ne_zero (fun y => hc17 (hne.mpr y))
          have hp2 := (frB_par (B := B) hk0 (hton _ hk0 hj1) (by have := hpar _ hk0 hj1; omega)).1
          have hjd : j ≠ dep B.pa (B.m - 1) := fun y => by have := hj3.mpr y; omega
          refine rk_iinc rfl rfl (n_inc _) rfl ?_
          refine rk_aload_n rfl rfl ?_
          refine rk_get rfl (by assumption) rfl ?_
          refine rk_iload_n rfl rfl ?_
          refine rk_iald rfl (by assumption) (rfl) (by omega) (by omega) ?_
          rw [hfr _ hj1]
          refine rk_iconst (v := nI 3) rfl (by decide) ?_
          refine rk_ishr rfl hp2 ?_
          refine rk_istore_n rfl (Nat.le_of_ble_eq_true rfl) rfl ?_
          refine rk_goto rfl rfl ?_
          exact ih (j + 1) _ (by omega) (by omega)
theorem l102b {X : ai_X} {h : ai_H} {o p q cap n T x : Nat} {nx : Nat → Nat → Nat} {ok : Nat → Bool} {B : Bf} (S : SB h o p cap n B) (hI : BI nx ok T x B) (hT : T ≤ 8) (hq : q + 2 ≤ o) (h5 : dep B.pa (B.m - 1) ≤ 500) : ∀ (d : Nat) (j : Nat) (g : ai_H) (f : Nat → Int32) (i4 : Int32), dep B.pa (B.m - 1) < j + d → (j ≤ dep B.pa (B.m - 1)) → (Fr q (q + 2) h g) → (RouteAt g q (nI (dep B.pa (B.m - 1))) f) → (∀ i, dep B.pa (B.m - 1) - j ≤ i → i < dep B.pa (B.m - 1) → f i = nI (rowTo B (B.m - 1) i)) → (i4 = nI (dep B.pa (B.m - 1) - j) + Int32.ofInt (-1)) → Rk X am_102 44 [some (.ref o), some (.ref q), some (.int (nI (dep B.pa (B.m - 1)))), some (.int (nI (anc B.pa (B.m - 1) j))), some (.int i4)] [] g (Qi (fun w h1 => w = nI (dep B.pa (B.m - 1)) ∧ Fr q (q + 2) h h1 ∧ RtAt h1 q (dep B.pa (B.m - 1)) (rowTo B (B.m - 1)))) := by
  intro d
  induction d with
  | zero => intro j g f i4 hd hj F R hf hi4; exfalso; omega
  | succ d ih =>
    intro j g f i4 hd hj F R hf hi4
    obtain ⟨base, sl, s1, s2, T', S', hfr⟩ := id S
    obtain ⟨c0, c1, c2, c3, hbase, hmc, hsl, hLP, hst, hn, hcn, hop⟩ := id S'
    have hm0 := hI.1
    have hpar := hI.par
    have hton : ∀ i, 0 < i → i < B.m → B.to i < 8 := fun i a b => Nat.lt_of_lt_of_le (hI.2.2.2 i a b).2.1 hT
    obtain ⟨hj1, hj2⟩ := dep_anc hpar (k := B.m - 1) (by omega) j hj
    have hj3 := dep_end hpar (k := B.m - 1) (by omega) hj
    have hdl := dep_le hpar (B.m - 1) (by omega)
    have e0 := (F.2 o (by omega)).trans c0
    have e3 := (F.2 (p + 2) (by omega)).trans c3
    have r0 := R.1
    by_cases hjd : j = dep B.pa (B.m - 1)
    · subst hi4
      rw [show dep B.pa (B.m - 1) - j = 0 by omega]
      refine rk_iload rfl rfl ?_
      refine rk_if_lt rfl rfl (fun _ => ?_) (fun hc => absurd (by decide) hc)
      refine rk_iload_n rfl rfl ?_
      refine rk_ireturn rfl rfl ⟨_, _, rfl, rfl, F, f, R, fun i hi => hf i (by omega) hi⟩
    rw [n_dec (by omega)] at hi4
    subst hi4
    have hk0 : 0 < anc B.pa (B.m - 1) j := Nat.pos_of_ne_zero (fun y => hjd (hj3.mp y))
    have hp2 := frB_par (B := B) hk0 (hton _ hk0 hj1) (by have := hpar _ hk0 hj1; omega)
    refine rk_iload rfl rfl ?_
    refine rk_if_lt rfl rfl (fun hc45 => ?_) (fun hc45 => ?_)
    · replace hc45 := (n0_lt (by omega)).mp hc45
      exact hc45.elim
    · replace hc45 := mt (n0_lt (by omega)).mpr hc45
      refine rk_aload_n rfl rfl ?_
      refine rk_iload rfl rfl ?_
      refine rk_aload_n rfl rfl ?_
      refine rk_get rfl (by assumption) rfl ?_
      refine rk_iload_n rfl rfl ?_
      refine rk_iald rfl (by assumption) (rfl) (by omega) (by omega) ?_
      rw [hfr _ hj1]
      refine rk_bipush (v := nI 7) rfl (by decide) ?_
      refine rk_iand rfl hp2.2 ?_
      refine rk_cv2v rfl rfl (by assumption) rfl rfl (Nat.le_of_ble_eq_true rfl) (Nat.le_of_ble_eq_true rfl) (s91 R (by omega)) (fun h1 hF => ?_)
      replace e0 := (hF.1.2 o (by omega)).trans e0
      replace e3 := (hF.1.2 (p + 2) (by omega)).trans e3
      refine rk_aload_n rfl rfl ?_
      refine rk_get rfl (by assumption) rfl ?_
      refine rk_iload_n rfl rfl ?_
      refine rk_iald rfl (by assumption) (rfl) (by omega) (by omega) ?_
      rw [hfr _ hj1]
      refine rk_iconst (v := nI 3) rfl (by decide) ?_
      refine rk_ishr rfl hp2.1 ?_
      refine rk_istore_n rfl (Nat.le_of_ble_eq_true rfl) rfl ?_
      refine rk_iinc rfl rfl rfl rfl ?_
      refine rk_goto rfl rfl ?_
      refine ih (j + 1) h1 _ _ (by omega) (by omega) (F.tr hF.1) hF.2 (fun i h1 h2 => ?_) ?_
      · simp only [upd]
        by_cases y : i = dep B.pa (B.m - 1) - j - 1
        · rw [if_pos y, rowTo, show dep B.pa (B.m - 1) - 1 - i = j by omega]
        · rw [if_neg y]
          exact hf i (by omega) h2
      · rw [show dep B.pa (B.m - 1) - (j + 1) = dep B.pa (B.m - 1) - j - 1 by omega]
theorem s102 {X : ai_X} {h : ai_H} {o p q cap n T x : Nat} {nx : Nat → Nat → Nat} {ok : Nat → Bool} {B : Bf} (S : SB h o p cap n B) (hI : BI nx ok T x B) (hT : T ≤ 8) (hq : q + 2 ≤ o) {n0 : Int32} {f : Nat → Int32} (R : RouteAt h q n0 f) : Mt X am_102 [.ref o, .ref q] h (Qi (fun w h1 => w = nI (dep B.pa (B.m - 1)) ∧ ((500 < dep B.pa (B.m - 1) ∧ h1 = h) ∨ (dep B.pa (B.m - 1) ≤ 500 ∧ Fr q (q + 2) h h1 ∧ RtAt h1 q (dep B.pa (B.m - 1)) (rowTo B (B.m - 1)))))) := by
  obtain ⟨base, sl, s1, s2, T', S', hfr⟩ := id S
  obtain ⟨c0, c1, c2, c3, hbase, hmc, hsl, hLP, hst, hn, hcn, hop⟩ := id S'
  have hm0 := hI.1
  have hpar := hI.par
  have hton : ∀ i, 0 < i → i < B.m → B.to i < 8 := fun i a b => Nat.lt_of_lt_of_le (hI.2.2.2 i a b).2.1 hT
  have hdl := dep_le hpar (B.m - 1) (by omega)
  have r0 := R.1
  refine rk_iconst (v := nI 0) rfl (by decide) ?_
  refine rk_istore_n rfl (Nat.le_of_ble_eq_true rfl) rfl ?_
  refine rk_aload_n rfl rfl ?_
  refine rk_get rfl (by first | assumption | exact R.1) rfl ?_
  refine rk_iconst (v := nI 1) rfl (by decide) ?_
  refine rk_isub rfl (pk_sub (by omega)) ?_
  refine rk_istore_n rfl (Nat.le_of_ble_eq_true rfl) rfl ?_
  refine l102a S hI hT (fun c4 => ?_) (dep B.pa (B.m - 1) + 1) 0 none (by omega) (by omega)
  refine rk_iload_n rfl rfl ?_
  refine rk_sipush (v := nI 500) rfl (by decide) ?_
  refine rk_icmp_le rfl rfl (fun hc29 => ?_) (fun hc29 => ?_)
  · replace hc29 := (nI_leI (by omega) (by omega)).mp hc29
    refine rk_aload_n rfl rfl ?_
    refine rk_iload_n rfl rfl ?_
    refine rk_cv1v rfl rfl (by assumption) rfl rfl (Nat.le_of_ble_eq_true rfl) (Nat.le_of_ble_eq_true rfl) (s93 R (by omega)) (fun h1 hF => ?_)
    obtain ⟨F1, f1, R1, -⟩ := hF
    replace c0 := (F1.2 o (by omega)).trans c0
    refine rk_aload_n rfl rfl ?_
    refine rk_get rfl (by assumption) rfl ?_
    refine rk_iconst (v := nI 1) rfl (by decide) ?_
    refine rk_isub rfl (pk_sub (by omega)) ?_
    refine rk_istore_n rfl (Nat.le_of_ble_eq_true rfl) rfl ?_
    refine rk_iload_n rfl rfl ?_
    refine rk_iconst (v := nI 1) rfl (by decide) ?_
    refine rk_isub rfl rfl ?_
    refine rk_istore rfl (Nat.le_of_ble_eq_true rfl) rfl ?_
    refine (l102b (S.fr (F1.2 o (by omega)) (fun y _ _ => F1.2 y (by omega))) hI hT hq (by omega) (dep B.pa (B.m - 1) + 1) 0 h1 f1 _ (by omega) (by omega) Fr.rfl' R1 (fun i a b => absurd b (by omega)) (by rw [Nat.sub_zero, Int32.sub_eq_add_neg]; rfl)).mono ?_
    rintro o ⟨w, h2, rfl, rfl, F2, R2⟩
    exact ⟨_, _, rfl, rfl, Or.inr ⟨by omega, F1.tr F2, R2⟩⟩
  · replace hc29 := mt (nI_leI (by omega) (by omega)).mpr hc29
    refine rk_iload_n rfl rfl ?_
    exact rk_ireturn rfl rfl ⟨_, _, rfl, rfl, Or.inl ⟨by omega, rfl⟩⟩
