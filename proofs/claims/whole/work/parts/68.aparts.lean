/-! APARTS: the class -/
abbrev okP (N : Nat → Nat) (k r s t : Nat) : Prop := ¬ pl N r t = pl N s t ∧ 0 < wA N k (pl N r t * 14 + pl N s t)
theorem ws_pos {N W : Nat → Nat} {r s : Nat} : ∀ t, 0 < wsA N W r s t ↔ ∃ i, i < t ∧ ¬ pl N r i = pl N s i ∧ 0 < W (pl N r i * 14 + pl N s i)
  | 0 => ⟨fun h => absurd h (by show ¬ 0 < 0; omega), fun ⟨i, h, _⟩ => absurd h (by omega)⟩
  | t + 1 => by
    have ih := ws_pos (N := N) (W := W) (r := r) (s := s) t
    rw [wsA]
    by_cases e : pl N r t = pl N s t
    · rw [if_pos e, ih]
      constructor
      · rintro ⟨i, a, b⟩
        exact ⟨i, by omega, b⟩
      · rintro ⟨i, a, b⟩
        by_cases q : i = t
        · subst q; exact absurd e b.1
        · exact ⟨i, by omega, b⟩
    · rw [if_neg e]
      constructor
      · intro h
        by_cases q : 0 < wsA N W r s t
        · obtain ⟨i, a, b⟩ := ih.mp q
          exact ⟨i, by omega, b⟩
        · exact ⟨t, by omega, e, by omega⟩
      · rintro ⟨i, a, b⟩
        by_cases q : i = t
        · subst q; have := b.2; omega
        · have := ih.mpr ⟨i, by omega, b⟩
          omega
theorem wA_pos {N : Nat → Nat} {k r s : Nat} (hs : s < 14) : 0 < wA N (k + 1) (r * 14 + s) ↔ ∃ t, t < N 1 ∧ okP N k r s t := by
  show 0 < wsA N (wA N k) ((r * 14 + s) / 14) ((r * 14 + s) % 14) (N 1) ↔ _
  rw [show (r * 14 + s) / 14 = r by omega, show (r * 14 + s) % 14 = s by omega]
  exact ws_pos (N 1)
/-- the levels below K at which there is a row, as bits -/
def uA (N : Nat → Nat) (p : Nat) : Nat → Nat
  | 0 => 0
  | k + 1 => if 0 < wA N k p then uA N p k ||| 2 ^ k else uA N p k
theorem uA_bit {N : Nat → Nat} {p j : Nat} : ∀ K, uA N p K / 2 ^ j % 2 = 1 ↔ j < K ∧ 0 < wA N j p
  | 0 => ⟨fun h => absurd h (bt_zero j), fun h => absurd h.1 (by omega)⟩
  | K + 1 => by
    have ih := uA_bit (N := N) (p := p) (j := j) K
    rw [uA]
    by_cases e : 0 < wA N K p
    · rw [if_pos e, bt_or, bt_pow, ih]
      constructor
      · rintro (⟨a, b⟩ | rfl)
        · exact ⟨by omega, b⟩
        · exact ⟨by omega, e⟩
      · rintro ⟨a, b⟩
        by_cases q : K = j
        · exact Or.inr q
        · exact Or.inl ⟨by omega, b⟩
    · rw [if_neg e, ih]
      constructor
      · rintro ⟨a, b⟩
        exact ⟨by omega, b⟩
      · rintro ⟨a, b⟩
        by_cases q : K = j
        · subst q; exact absurd b e
        · exact ⟨by omega, b⟩
theorem uA_lt {N : Nat → Nat} {p K : Nat} : uA N p K < 2 ^ K := bs_lt (fun s hs => ((uA_bit K).mp hs).1)
theorem uA_64 {N : Nat → Nat} {p K : Nat} (hK : K ≤ 42) : uA N p K < 2 ^ 63 := Nat.lt_of_lt_of_le uA_lt (Nat.pow_le_pow_right (by omega) (by omega))
/-- cells below the border have the level too -/
abbrev mA (N : Nat → Nat) (K b p : Nat) : Nat := if p < b then uA N p (K + 1) else uA N p K
theorem l67 {X : ai_X} {h : ai_H} {N : Nat → Nat} (hN : HN N) (C : CH h 3 N) (d27 : h[27]? = some cPa) {f : Nat → Int64} {K b k r s : Nat} (c32 : h[32]? = some (cJ 196 f)) (hK : K ≤ 41) (hf : ∀ p, p / 14 < N 0 → p % 14 < N 0 → f p = lI (mA N K b p)) (hk : k < K) (hr : r < N 0) (hs : s < N 0) : ∀ (d : Nat) (t : Nat) (c6 c7 : Option Value), N 1 < t + d → (t ≤ N 1) → (∀ j, j < t → ¬ okP N k r s j) → Rk X am_67 2 [some (.ref 27), some (.ref 3), some (.int (nI r)), some (.int (nI s)), some (.int (nI k)), some (.int (nI t)), c6, c7] [] h (Qi (fun w h1 => h1 = h ∧ ((w = -1 ∧ ∀ t, t < N 1 → ¬ okP N k r s t) ∨ ∃ t, t < N 1 ∧ w = nI t ∧ okP N k r s t ∧ ∀ j, j < t → ¬ okP N k r s j))) := by
  intro d
  induction d with
  | zero => intro t c6 c7 hd ht H; exfalso; omega
  | succ d ih =>
    intro t c6 c7 hd ht H
    have e3 := C.1
    have hn := hN.n
    have h6 := hN.t
    have hpr := hN.xpl (r := r) (i := t) hr
    have hps := hN.xpl (r := s) (i := t) hs
    refine rk_iload rfl rfl ?_
    refine rk_aload_n rfl rfl ?_
    refine rk_get rfl (by assumption) rfl ?_
    refine rk_icmp_ge rfl rfl (fun hc5 => ?_) (fun hc5 => ?_)
    · replace hc5 := (nI_leI (by omega) (by omega)).mp hc5
      refine rk_iconst (v := (-1)) rfl (by decide) ?_
      exact rk_ireturn rfl rfl ⟨_, _, rfl, rfl, Or.inl ⟨rfl, fun j hj => H j (by omega)⟩⟩
    · replace hc5 := mt (nI_leI (by omega) (by omega)).mpr hc5
      refine rk_aload_n rfl rfl ?_
      refine rk_iload_n rfl rfl ?_
      refine rk_iload rfl rfl ?_
      refine rk_cv2e rfl rfl (by assumption) rfl rfl (Nat.le_of_ble_eq_true rfl) (Nat.le_of_ble_eq_true rfl) (s27N C hN hr (by omega)) ?_
      replace hpr := hpr (by omega)
      refine rk_istore rfl (Nat.le_of_ble_eq_true rfl) rfl ?_
      refine rk_aload_n rfl rfl ?_
      refine rk_iload_n rfl rfl ?_
      refine rk_iload rfl rfl ?_
      refine rk_cv2e rfl rfl (by assumption) rfl rfl (Nat.le_of_ble_eq_true rfl) (Nat.le_of_ble_eq_true rfl) (s27N C hN hs (by omega)) ?_
      replace hps := hps (by omega)
      refine rk_istore rfl (Nat.le_of_ble_eq_true rfl) rfl ?_
      refine rk_iload rfl rfl ?_
      refine rk_iload rfl rfl ?_
      refine rk_icmp_eq rfl rfl (fun hc18 => ?_) (fun hc18 => ?_)
      · replace hc18 := (nI_eq (by omega) (by omega)).mp hc18
        refine rk_iinc rfl rfl (n_inc _) rfl ?_
        refine rk_goto rfl rfl ?_
        refine ih (t + 1) _ _ (by omega) (by omega) (fun j hj z => ?_)
        by_cases y : j = t
        · subst y
          first
            | exact z.1 hc18
            | exact hlow z.2
        · exact H j (by omega) z
      · replace hc18 := mt (nI_eq (by omega) (by omega)).mpr hc18
        refine rk_aload_n rfl rfl ?_
        refine rk_get rfl (by assumption) rfl ?_
        refine rk_aload_n rfl rfl ?_
        refine rk_iload rfl rfl ?_
        refine rk_iload rfl rfl ?_
        refine rk_cv2e rfl rfl (by assumption) rfl rfl (Nat.le_of_ble_eq_true rfl) (Nat.le_of_ble_eq_true rfl) (s50n) ?_
        refine rk_lald rfl (by assumption) (rfl) (by omega) (by decide) ?_
        rw [hf _ (by omega) (by omega)]
        refine rk_iload rfl rfl ?_
        have hm64 : mA N K b (pl N r t * 14 + pl N s t) < 2 ^ 63 := by
          show (if _ then _ else _) < _
          split
          · exact uA_64 (by omega)
          · exact uA_64 (by omega)
        have hmb : mA N K b (pl N r t * 14 + pl N s t) / 2 ^ k % 2 = 1 ↔ 0 < wA N k (pl N r t * 14 + pl N s t) := by
          show (if _ then _ else _) / 2 ^ k % 2 = 1 ↔ _
          split
          · rw [uA_bit]; exact ⟨fun z => z.2, fun z => ⟨by omega, z⟩⟩
          · rw [uA_bit]; exact ⟨fun z => z.2, fun z => ⟨by omega, z⟩⟩
        refine rk_lushr rfl (l_ushr (by omega) (by omega)) ?_
        refine rk_lconst (v := 1) rfl (by decide) ?_
        refine rk_land rfl (l_and1U _) ?_
        refine rk_lconst (v := 0) rfl (by decide) ?_
        refine rk_lcmp rfl rfl ?_
        refine rk_if_eq rfl rfl (fun hc32 => ?_) (fun hc32 => ?_)
        · have hlow : ¬ 0 < wA N k (pl N r t * 14 + pl N s t) := fun z => by
            rw [hmb.mpr z] at hc32
            exact absurd hc32 (by decide)
          refine rk_iinc rfl rfl (n_inc _) rfl ?_
          refine rk_goto rfl rfl ?_
          refine ih (t + 1) _ _ (by omega) (by omega) (fun j hj z => ?_)
          by_cases y : j = t
          · subst y
            first
              | exact z.1 hc18
              | exact hlow z.2
          · exact H j (by omega) z
        · have hup : 0 < wA N k (pl N r t * 14 + pl N s t) := hmb.mp (by
            rcases Nat.mod_two_eq_zero_or_one (mA N K b (pl N r t * 14 + pl N s t) / 2 ^ k) with y | y
            · rw [y] at hc32
              exact absurd (by decide) hc32
            · exact y)
          refine rk_iload rfl rfl ?_
          exact rk_ireturn rfl rfl ⟨_, _, rfl, rfl, Or.inr ⟨t, by omega, rfl, ⟨hc18, hup⟩, H⟩⟩
theorem s67 {X : ai_X} {h : ai_H} {N : Nat → Nat} (hN : HN N) (C : CH h 3 N) (d27 : h[27]? = some cPa) {f : Nat → Int64} {K b k r s : Nat} (c32 : h[32]? = some (cJ 196 f)) (hK : K ≤ 41) (hf : ∀ p, p / 14 < N 0 → p % 14 < N 0 → f p = lI (mA N K b p)) (hk : k < K) (hr : r < N 0) (hs : s < N 0) : Mt X am_67 [.ref 27, .ref 3, .int (nI r), .int (nI s), .int (nI k)] h (Qi (fun w h1 => h1 = h ∧ ((w = -1 ∧ ∀ t, t < N 1 → ¬ okP N k r s t) ∨ ∃ t, t < N 1 ∧ w = nI t ∧ okP N k r s t ∧ ∀ j, j < t → ¬ okP N k r s j))) := by
  refine rk_iconst (v := nI 0) rfl (by decide) ?_
  refine rk_istore rfl (Nat.le_of_ble_eq_true rfl) rfl ?_
  exact l67 hN C d27 c32 hK hf hk hr hs (N 1 + 1) 0 _ _ (by omega) (Nat.zero_le _) (fun j hj => absurd hj (by omega))
