/-! BY TURNS: within so many tones, chosen by what is seen -/
def sgn (N : Nat → Nat) (g : Nat) : Nat := bsel (fun b => decide (sg N b = g)) (N 0)
theorem bt_sgn {N : Nat → Nat} {g k : Nat} : sgn N g / 2 ^ k % 2 = 1 ↔ k < N 0 ∧ sg N k = g := by
  unfold sgn
  rw [bt_bsel, decide_eq_true_iff]
def alg (p : Nat → Bool) (n : Nat) : Bool := !(any (fun i => !(p i)) n)
theorem alg_iff {p : Nat → Bool} {n : Nat} : alg p n = true ↔ ∀ i, i < n → p i = true := by
  unfold alg
  rw [Bool.not_eq_true', Bool.eq_false_iff, Ne, any_iff]
  constructor
  · intro h i hi
    apply Decidable.byContradiction
    intro z
    exact h ⟨i, hi, by rw [Bool.not_eq_true']; exact Bool.eq_false_iff.mpr z⟩
  · rintro h ⟨i, hi, z⟩
    rw [h i hi] at z
    exact absurd z (by decide)
def kn (N : Nat → Nat) : Nat → Nat → Bool
  | 0, s => decide (pop s 14 ≤ 1)
  | d + 1, s => kn N d s || any (fun t => alg (fun g => kn N d (pimg N s t &&& sgn N g)) 10) (N 1)
theorem kn_s {N : Nat → Nat} {d s : Nat} : kn N (d + 1) s = true ↔ kn N d s = true ∨ ∃ t, t < N 1 ∧ ∀ g, g < 10 → kn N d (pimg N s t &&& sgn N g) = true := by
  rw [kn, Bool.or_eq_true, any_iff]
  constructor
  · rintro (h | ⟨t, ht, h⟩)
    · exact Or.inl h
    · exact Or.inr ⟨t, ht, alg_iff.mp h⟩
  · rintro (h | ⟨t, ht, h⟩)
    · exact Or.inl h
    · exact Or.inr ⟨t, ht, alg_iff.mpr h⟩
theorem kn_mono {N : Nat → Nat} {d s : Nat} (h : kn N d s = true) : ∀ e, kn N (d + e) s = true
  | 0 => h
  | e + 1 => kn_s.mpr (Or.inl (kn_mono h e))
theorem kn_le {N : Nat → Nat} {d e s : Nat} (h : kn N d s = true) (hd : d ≤ e) : kn N e s = true := by
  have := kn_mono h (e - d)
  rwa [show d + (e - d) = e by omega] at this
theorem kn_p {N : Nat → Nat} {s : Nat} (h : pop s 14 ≤ 1) (d : Nat) : kn N d s = true := kn_le (d := 0) (decide_eq_true h) (Nat.zero_le _)
theorem kn_z {N : Nat → Nat} (d : Nat) : kn N d 0 = true := kn_p (by rw [pop_z0]; omega) d
def ls (N : Nat → Nat) (s : Nat) : Nat := ffi (fun j => kn N j s) 41 0
theorem ls_ok {N : Nat → Nat} {d s : Nat} (h : kn N d s = true) (hd : d ≤ 40) : ls N s ≤ d ∧ kn N (ls N s) s = true ∧ ∀ j, j < ls N s → ¬ kn N j s = true := by
  obtain ⟨h1, -, h3, h4⟩ := ffi_ex (p := fun j => kn N j s) 41 0 ⟨d, by omega, by omega, h⟩
  refine ⟨?_, h3, fun j hj => h4 j (by omega) hj⟩
  apply Decidable.byContradiction
  intro y
  exact h4 d (by omega) (by unfold ls at y; omega) h
theorem ls_new {N : Nat → Nat} {d s : Nat} (h : kn N (d + 1) s = true) (hn : ¬ kn N d s = true) (hd : d + 1 ≤ 40) : ls N s = d + 1 := by
  obtain ⟨h1, h2, h3⟩ := ls_ok h hd
  apply Decidable.byContradiction
  intro y
  exact hn (kn_le h2 (by omega))
abbrev ALT (N : Nat → Nat) (d S : Nat) : Prop := ∀ g, g < 10 → kn N d (S &&& sgn N g) = true
def aT (N : Nat → Nat) (S : Nat) : Nat := ffi (fun d => alg (fun g => kn N d (S &&& sgn N g)) 10) 41 0
def ansT (N : Nat → Nat) (S : Nat) : Int32 := if aT N S = 41 then -1 else nI (aT N S)
theorem ansT_at {N : Nat → Nat} {S d : Nat} (hd : d ≤ 40) (h : ALT N d S) (hn : ∀ j, j < d → ¬ ALT N j S) : ansT N S = nI d := by
  have : aT N S = d := ffi_at _ _ _ (Nat.zero_le _) (by omega) (alg_iff.mpr h) (fun i _ hi z => hn i hi (alg_iff.mp z))
  rw [ansT, this, if_neg (by omega)]
theorem ansT_no {N : Nat → Nat} {S : Nat} (h : ¬ ALT N 40 S) : ansT N S = -1 := by
  have : aT N S = 0 + 41 := ffi_no _ _ (fun i _ hi z => h (fun g hg => kn_le (alg_iff.mp z g hg) (by omega)))
  rw [ansT, if_pos (by omega)]
theorem prt_lt {N : Nat → Nat} {S g : Nat} (hS : S < 2 ^ N 0) : S &&& sgn N g < 2 ^ N 0 := sub.lt (fun k hk => (bt_and.mp hk).1) hS
/-- where a pass settled nothing no later one would -/
theorem kn_stop {N : Nat → Nat} {d : Nat} (hN : HN N) (h : ∀ s, s < 2 ^ N 0 → kn N (d + 1) s = true → kn N d s = true) : ∀ e s, s < 2 ^ N 0 → kn N (d + e) s = true → kn N d s = true
  | 0, s, _, hk => hk
  | e + 1, s, hs, hk => by
    rcases kn_s.mp hk with q | ⟨t, ht, q⟩
    · exact kn_stop hN h e s hs q
    · exact h s hs (kn_s.mpr (Or.inr ⟨t, ht, fun g hg => kn_stop hN h e _ (prt_lt (pimg_lt hN ht)) (q g hg)⟩))
/-! the model -/
def kv (N : Nat → Nat) (d s : Nat) : Nat := if kn N d s = true then ls N s else 99
theorem kv_le {N : Nat → Nat} {d s : Nat} (hd : d ≤ 40) : kv N d s ≤ 99 := by
  unfold kv
  split
  · rename_i h
    have := (ls_ok h hd).1
    omega
  · omega
theorem kv_99 {N : Nat → Nat} {d s : Nat} (hd : d ≤ 40) : kv N d s = 99 ↔ ¬ kn N d s = true := by
  unfold kv
  split
  · rename_i h
    have := (ls_ok h hd).1
    exact ⟨fun z => by omega, fun z => absurd h z⟩
  · rename_i h
    exact ⟨fun _ => h, fun _ => rfl⟩
theorem kv_lt {N : Nat → Nat} {d s : Nat} (hd : d + 1 ≤ 40) : (kv N d s < d + 1 ↔ kn N d s = true) ∧ (kv N (d + 1) s < d + 1 ↔ kn N d s = true) := by
  constructor
  · unfold kv
    split
    · rename_i h
      have := (ls_ok h (by omega)).1
      exact ⟨fun _ => h, fun _ => by omega⟩
    · rename_i h
      exact ⟨fun z => by omega, fun z => absurd z h⟩
  · unfold kv
    split
    · rename_i h
      obtain ⟨h1, h2, -⟩ := ls_ok h hd
      exact ⟨fun z => kn_le h2 (by omega), fun z => by have := (ls_ok z (by omega)).1; omega⟩
    · rename_i h
      exact ⟨fun z => by omega, fun z => absurd (kn_le z (by omega)) h⟩
def fo (s : Nat) : Nat := ffi (fun k => decide (s / 2 ^ k % 2 = 1)) 14 0
theorem fo_ok {s : Nat} (h : ¬ s = 0) (hs : s < 16384) : fo s < 14 ∧ s / 2 ^ fo s % 2 = 1 ∧ ∀ j, j < fo s → ¬ s / 2 ^ j % 2 = 1 := by
  obtain ⟨k, hk⟩ := bs_ne.mp h
  have hk14 : k < 14 := bt_lt (n := 14) (by omega) hk
  obtain ⟨h1, -, h3, h4⟩ := ffi_ex (p := fun k => decide (s / 2 ^ k % 2 = 1)) 14 0 ⟨k, by omega, by omega, decide_eq_true hk⟩
  exact ⟨by unfold fo; omega, of_decide_eq_true h3, fun j hj z => h4 j (by omega) hj (decide_eq_true z)⟩
theorem l214 {X : ai_X} {h : ai_H} {s : Nat} (h0 : ¬ s = 0) (hs : s < 16384) : ∀ (d : Nat) (k : Nat), fo s < k + d → (k ≤ fo s) → Rk X am_214 2 [some (.int (nI s)), some (.int (nI k))] [] h (Qe (nI (fo s)) h) := by
  intro d
  induction d with
  | zero => intro k hd hk; exfalso; omega
  | succ d ih =>
    intro k hd hk
    have hfo := fo_ok h0 hs
    have hf1 := hfo.2.1
    refine rk_iload_n rfl rfl ?_
    refine rk_iload_n rfl rfl ?_
    refine rk_ishr rfl (b_shr (by omega) (by omega)) ?_
    refine rk_iconst (v := nI 1) rfl (by decide) ?_
    refine rk_iand rfl (b_and1U _) ?_
    refine rk_if_ne rfl rfl (fun hc7 => ?_) (fun hc7 => ?_)
    · replace hc7 := mt (n0_eq (by omega)).mpr hc7
      refine rk_iload_n rfl rfl ?_
      have hkk : k = fo s := by
        apply Decidable.byContradiction
        intro y
        exact hfo.2.2 k (by omega) (by omega)
      exact rk_ireturn rfl rfl (Qe_of (by rw [hkk]))
    · replace hc7 := Decidable.not_not.mp hc7
      replace hc7 := (n0_eq (by omega)).mp hc7
      refine rk_iinc rfl rfl (n_inc _) rfl ?_
      refine rk_goto rfl rfl ?_
      have hne : k ≠ fo s := fun y => by rw [y] at hc7; omega
      exact ih (k + 1) (by omega) (by omega)
theorem s214 {X : ai_X} {h : ai_H} {s : Nat} (h0 : ¬ s = 0) (hs : s < 16384) : Mt X am_214 [.int (nI s)] h (Qe (nI (fo s)) h) := by
  refine rk_iconst (v := nI 0) rfl (by decide) ?_
  refine rk_istore_n rfl (Nat.le_of_ble_eq_true rfl) rfl ?_
  exact l214 h0 hs (fo s + 1) 0 (by omega) (Nat.zero_le _)
theorem l259i {X : ai_X} {h : ai_H} {v A : Nat → Int32} {N : Nat → Nat} (c0 : h[52]? = some (cMdl v)) (c1 : h[53]? = some (cI 2346 A)) (hN : HN N) (M : MH A N) {p W l g0 : Nat} (hl : l < 2 ^ N 0) (hg0 : g0 < 10) {P : ai_O → Prop} (z : Rk X am_259 49 [some (.ref 52), some (.int (nI p)), some (.int (nI W)), some (.int (nI l)), some (.int (nI g0)), some (.int (nI (l &&& sgn N g0))), some (.int (nI (N 0)))] [] h P) : ∀ (d : Nat) (r : Nat), N 0 < r + d → (r ≤ N 0) → Rk X am_259 18 [some (.ref 52), some (.int (nI p)), some (.int (nI W)), some (.int (nI l)), some (.int (nI g0)), some (.int (nI (bsel (fun r => decide (l / 2 ^ r % 2 = 1) && decide (sg N r = g0)) r))), some (.int (nI r))] [] h (P) := by
  intro d
  induction d with
  | zero => intro r hd hr; exfalso; omega
  | succ d ih =>
    intro r hd hr
    obtain ⟨a0, a1, a268, a269, a270, a271, apl, apc, aot, asg, awt⟩ := id M
    have hn := hN.n
    have hp14 := hN.p14
    have hsg : r < N 0 → sg N r < 10 := fun y => hN.xsg (by omega)
    refine rk_iload rfl rfl ?_
    refine rk_aload_n rfl rfl ?_
    refine rk_get rfl (by assumption) rfl ?_
    refine rk_iconst (v := nI 0) rfl (by decide) ?_
    refine rk_iald rfl (by assumption) (rfl) (by omega) (by decide) ?_
    rw [a0]
    refine rk_icmp_ge rfl rfl (fun hc23 => ?_) (fun hc23 => ?_)
    · replace hc23 := (nI_leI (by omega) (by omega)).mp hc23
      have hr2 : r = N 0 := by omega
      subst hr2
      have hE : (bsel (fun r => decide (l / 2 ^ r % 2 = 1) && decide (sg N r = g0)) (N 0)) = l &&& sgn N g0 := bs_ext fun k => by
        rw [bt_bsel, bt_and, bt_sgn, Bool.and_eq_true, decide_eq_true_iff, decide_eq_true_iff]
        exact ⟨fun y => ⟨y.2.1, y.1, y.2.2⟩, fun y => ⟨y.2.1, y.1, y.2.2⟩⟩
      rw [hE]
      exact z
    · replace hc23 := mt (nI_leI (by omega) (by omega)).mpr hc23
      refine rk_iload rfl rfl ?_
      refine rk_iload_n rfl rfl ?_
      refine rk_iload rfl rfl ?_
      refine rk_ishr rfl (b_shr (by omega) (by omega)) ?_
      refine rk_iconst (v := nI 1) rfl (by decide) ?_
      refine rk_iand rfl (b_and1U _) ?_
      refine rk_iconst (v := nI 1) rfl (by decide) ?_
      refine rk_icmp_ne rfl rfl (fun hc31 => ?_) (fun hc31 => ?_)
      · replace hc31 := mt (nI_eq (by omega) (by omega)).mpr hc31
        refine rk_iconst (v := nI 0) rfl (by decide) ?_
        refine rk_ior rfl (b_orU _ _) ?_
        refine rk_istore rfl (Nat.le_of_ble_eq_true rfl) rfl ?_
        refine rk_iinc rfl rfl (n_inc _) rfl ?_
        refine rk_goto rfl rfl ?_
        first
          | (have hb : (bsel (fun r => decide (l / 2 ^ r % 2 = 1) && decide (sg N r = g0)) (r + 1)) = (bsel (fun r => decide (l / 2 ^ r % 2 = 1) && decide (sg N r = g0)) r) ||| 2 ^ r := by rw [bsel, if_pos (by rw [Bool.and_eq_true, decide_eq_true_iff, decide_eq_true_iff]; exact ⟨hc31, hc39⟩)]
             have zz := ih (r + 1) (by omega) (by omega)
             rw [hb] at zz
             exact zz)
          | (have hb : (bsel (fun r => decide (l / 2 ^ r % 2 = 1) && decide (sg N r = g0)) (r + 1)) = (bsel (fun r => decide (l / 2 ^ r % 2 = 1) && decide (sg N r = g0)) r) := by
               rw [bsel, if_neg]
               rw [Bool.and_eq_true, decide_eq_true_iff, decide_eq_true_iff]
               first
                 | exact fun y => hc31 y.1
                 | exact fun y => hc39 y.2
             have zz := ih (r + 1) (by omega) (by omega)
             rw [hb] at zz
             rw [Nat.or_zero]
             exact zz)
      · replace hc31 := Decidable.not_not.mp hc31
        replace hc31 := (nI_eq (by omega) (by omega)).mp hc31
        refine rk_aload_n rfl rfl ?_
        refine rk_get rfl (by assumption) rfl ?_
        refine rk_sipush (v := nI 254) rfl (by decide) ?_
        refine rk_iload rfl rfl ?_
        refine rk_iadd rfl (nI_add _ _) ?_
        refine rk_iald rfl (by assumption) (rfl) (by omega) (by decide) ?_
        rw [asg r (by omega)]
        replace hsg := hsg (by omega)
        refine rk_iload rfl rfl ?_
        refine rk_icmp_ne rfl rfl (fun hc39 => ?_) (fun hc39 => ?_)
        · replace hc39 := mt (nI_eq (by omega) (by omega)).mpr hc39
          refine rk_iconst (v := nI 0) rfl (by decide) ?_
          refine rk_ior rfl (b_orU _ _) ?_
          refine rk_istore rfl (Nat.le_of_ble_eq_true rfl) rfl ?_
          refine rk_iinc rfl rfl (n_inc _) rfl ?_
          refine rk_goto rfl rfl ?_
          first
            | (have hb : (bsel (fun r => decide (l / 2 ^ r % 2 = 1) && decide (sg N r = g0)) (r + 1)) = (bsel (fun r => decide (l / 2 ^ r % 2 = 1) && decide (sg N r = g0)) r) ||| 2 ^ r := by rw [bsel, if_pos (by rw [Bool.and_eq_true, decide_eq_true_iff, decide_eq_true_iff]; exact ⟨hc31, hc39⟩)]
               have zz := ih (r + 1) (by omega) (by omega)
               rw [hb] at zz
               exact zz)
            | (have hb : (bsel (fun r => decide (l / 2 ^ r % 2 = 1) && decide (sg N r = g0)) (r + 1)) = (bsel (fun r => decide (l / 2 ^ r % 2 = 1) && decide (sg N r = g0)) r) := by
                 rw [bsel, if_neg]
                 rw [Bool.and_eq_true, decide_eq_true_iff, decide_eq_true_iff]
                 first
                   | exact fun y => hc31 y.1
                   | exact fun y => hc39 y.2
               have zz := ih (r + 1) (by omega) (by omega)
               rw [hb] at zz
               rw [Nat.or_zero]
               exact zz)
        · replace hc39 := Decidable.not_not.mp hc39
          replace hc39 := (nI_eq (by omega) (by omega)).mp hc39
          refine rk_iconst (v := nI 1) rfl (by decide) ?_
          refine rk_iload rfl rfl ?_
          refine rk_ishl rfl (b_1shlU (by omega)) ?_
          refine rk_goto rfl rfl ?_
          refine rk_ior rfl (b_orU _ _) ?_
          refine rk_istore rfl (Nat.le_of_ble_eq_true rfl) rfl ?_
          refine rk_iinc rfl rfl (n_inc _) rfl ?_
          refine rk_goto rfl rfl ?_
          first
            | (have hb : (bsel (fun r => decide (l / 2 ^ r % 2 = 1) && decide (sg N r = g0)) (r + 1)) = (bsel (fun r => decide (l / 2 ^ r % 2 = 1) && decide (sg N r = g0)) r) ||| 2 ^ r := by rw [bsel, if_pos (by rw [Bool.and_eq_true, decide_eq_true_iff, decide_eq_true_iff]; exact ⟨hc31, hc39⟩)]
               have zz := ih (r + 1) (by omega) (by omega)
               rw [hb] at zz
               exact zz)
            | (have hb : (bsel (fun r => decide (l / 2 ^ r % 2 = 1) && decide (sg N r = g0)) (r + 1)) = (bsel (fun r => decide (l / 2 ^ r % 2 = 1) && decide (sg N r = g0)) r) := by
                 rw [bsel, if_neg]
                 rw [Bool.and_eq_true, decide_eq_true_iff, decide_eq_true_iff]
                 first
                   | exact fun y => hc31 y.1
                   | exact fun y => hc39 y.2
               have zz := ih (r + 1) (by omega) (by omega)
               rw [hb] at zz
               rw [Nat.or_zero]
               exact zz)
theorem l259 {X : ai_X} {h : ai_H} {v A : Nat → Int32} {N : Nat → Nat} (c0 : h[52]? = some (cMdl v)) (c1 : h[53]? = some (cI 2346 A)) (hN : HN N) (M : MH A N) {V : Nat → Nat} {f : Nat → Int32} (c70 : h[70]? = some (cI 16384 f)) (hf : ∀ s, 1 ≤ s → s < 2 ^ N 0 → f s = nI (V s) ∧ V s ≤ 99) {p : Nat} (hp : p < 2 ^ N 0) : ∀ (d : Nat) (l W : Nat) (c4 c5 c6 : Option Value), pop l 14 < d → (sub l p) → (W ≤ 99) → ((∀ g, g < 10 → (l &&& sgn N g = 0 ∧ (p &&& sgn N g = 0 ∨ V (p &&& sgn N g) ≤ W)) ∨ l &&& sgn N g = p &&& sgn N g)) → ((W = 0 ∨ ∃ g, g < 10 ∧ ¬ p &&& sgn N g = 0 ∧ V (p &&& sgn N g) = W)) → Rk X am_259 4 [some (.ref 52), some (.int (nI p)), some (.int (nI W)), some (.int (nI l)), c4, c5, c6] [] h (Qi (fun w h1 => h1 = h ∧ ∃ W, w = nI W ∧ W ≤ 99 ∧ (∀ g, g < 10 → p &&& sgn N g = 0 ∨ V (p &&& sgn N g) ≤ W) ∧ (W = 0 ∨ ∃ g, g < 10 ∧ ¬ p &&& sgn N g = 0 ∧ V (p &&& sgn N g) = W))) := by
  intro d
  induction d with
  | zero => intro l W c4 c5 c6 hd hl hW I hA; exfalso; omega
  | succ d ih =>
    intro l W c4 c5 c6 hd hl hW I hA
    obtain ⟨a0, a1, a268, a269, a270, a271, apl, apc, aot, asg, awt⟩ := id M
    have hn := hN.n
    have hp14 := hN.p14
    have hl2 : l < 2 ^ N 0 := hl.lt hp
    have hfo : ¬ l = 0 → _ := fun y => fo_ok y (show l < 16384 by omega)
    refine rk_iload_n rfl rfl ?_
    refine rk_if_eq rfl rfl (fun hc5 => ?_) (fun hc5 => ?_)
    · replace hc5 := (n0_eq (by omega)).mp hc5
      refine rk_iload_n rfl rfl ?_
      refine rk_ireturn rfl rfl ⟨_, _, rfl, rfl, W, rfl, hW, fun g hg => ?_, hA⟩
      rw [hc5] at I
      rcases I g hg with y | y
      · exact y.2
      · rw [Nat.zero_and] at y
        exact Or.inl y.symm
    · replace hc5 := mt (n0_eq (by omega)).mpr hc5
      refine rk_aload_n rfl rfl ?_
      refine rk_get rfl (by assumption) rfl ?_
      refine rk_sipush (v := nI 254) rfl (by decide) ?_
      refine rk_iload_n rfl rfl ?_
      refine rk_cs1e rfl rfl rfl (Nat.le_of_ble_eq_true rfl) (Nat.le_of_ble_eq_true rfl) (s214 hc5 (by omega)) ?_
      replace hfo := hfo hc5
      have hfn : fo l < N 0 := bt_lt hl2 hfo.2.1
      have hg0 := hN.xsg (r := fo l) (by omega)
      refine rk_iadd rfl (nI_add _ _) ?_
      refine rk_iald rfl (by assumption) (rfl) (by omega) (by decide) ?_
      rw [asg _ (by omega)]
      refine rk_istore rfl (Nat.le_of_ble_eq_true rfl) rfl ?_
      refine rk_iconst (v := nI 0) rfl (by decide) ?_
      refine rk_istore rfl (Nat.le_of_ble_eq_true rfl) rfl ?_
      refine rk_iconst (v := nI 0) rfl (by decide) ?_
      refine rk_istore rfl (Nat.le_of_ble_eq_true rfl) rfl ?_
      refine l259i c0 c1 hN M hl2 hg0 ?_ (N 0 + 1) 0 (by omega) (Nat.zero_le _)
      have hbit : (l &&& sgn N (sg N (fo l))) / 2 ^ fo l % 2 = 1 := bt_and.mpr ⟨hfo.2.1, bt_sgn.mpr ⟨hfn, rfl⟩⟩
      have hne : ¬ l &&& sgn N (sg N (fo l)) = 0 := bs_ne.mpr ⟨_, hbit⟩
      have hpe : l &&& sgn N (sg N (fo l)) = p &&& sgn N (sg N (fo l)) := by
        rcases I _ hg0 with y | y
        · exact absurd y.1 hne
        · exact y
      have hne2 := hne
      rw [hpe] at hne2
      obtain ⟨hfv, hv99⟩ := hf (p &&& sgn N (sg N (fo l))) (by omega) (prt_lt hp)
      have hfv2 : f (l &&& sgn N (sg N (fo l))) = nI (V (p &&& sgn N (sg N (fo l)))) := by rw [hpe]; exact hfv
      have hpl := prt_lt (g := sg N (fo l)) hl2
      have hlt : pop (dif l (l &&& sgn N (sg N (fo l)))) 14 < pop l 14 := pop_sub_lt (fun k hk => (bt_dif.mp hk).1) 14 (fo l) hfo.1 hfo.2.1 (fun y => (bt_dif.mp y).2 hbit)
      have hI2 : ∀ W2, W ≤ W2 → V (p &&& sgn N (sg N (fo l))) ≤ W2 → ∀ g, g < 10 → (dif l (l &&& sgn N (sg N (fo l))) &&& sgn N g = 0 ∧ (p &&& sgn N g = 0 ∨ V (p &&& sgn N g) ≤ W2)) ∨ dif l (l &&& sgn N (sg N (fo l))) &&& sgn N g = p &&& sgn N g := fun W2 w1 w2 g hg => by
        by_cases q : g = sg N (fo l)
        · subst q
          refine Or.inl ⟨?_, Or.inr w2⟩
          apply Decidable.byContradiction
          intro y
          obtain ⟨k, hk⟩ := bs_ne.mp y
          have y2 := bt_and.mp hk
          have y3 := bt_dif.mp y2.1
          exact y3.2 (bt_and.mpr ⟨y3.1, y2.2⟩)
        · have hsame : dif l (l &&& sgn N (sg N (fo l))) &&& sgn N g = l &&& sgn N g := bs_ext fun k => by
            rw [bt_and, bt_and, bt_dif, bt_and]
            constructor
            · exact fun y => ⟨y.1.1, y.2⟩
            · intro y
              refine ⟨⟨y.1, fun y2 => ?_⟩, y.2⟩
              have y3 := (bt_sgn.mp y.2).2
              have y4 := (bt_sgn.mp y2.2).2
              omega
          rw [hsame]
          rcases I g hg with ⟨y1, y2⟩ | y
          · exact Or.inl ⟨y1, y2.elim Or.inl (fun y3 => Or.inr (by omega))⟩
          · exact Or.inr y
      have hsub2 : sub (dif l (l &&& sgn N (sg N (fo l)))) p := fun k hk => hl k (bt_dif.mp hk).1
      generalize hVP : V (p &&& sgn N (sg N (fo l))) = VP at hfv2 hfv hv99 hI2
      refine rk_aload_n rfl rfl ?_
      refine rk_get rfl (by assumption) rfl ?_
      refine rk_iload rfl rfl ?_
      refine rk_iald rfl (by assumption) (rfl) (by omega) (by decide) ?_
      rw [hfv2]
      refine rk_iload_n rfl rfl ?_
      refine rk_icmp_le rfl rfl (fun hc54 => ?_) (fun hc54 => ?_)
      · replace hc54 := (nI_leI (by omega) (by omega)).mp hc54
        refine rk_iload_n rfl rfl ?_
        refine rk_istore_n rfl (Nat.le_of_ble_eq_true rfl) rfl ?_
        refine rk_iload_n rfl rfl ?_
        refine rk_iload rfl rfl ?_
        refine rk_iconst (v := (-1)) rfl (by decide) ?_
        refine rk_ixor rfl rfl ?_
        refine rk_iand rfl (and_not _ _) ?_
        refine rk_istore_n rfl (Nat.le_of_ble_eq_true rfl) rfl ?_
        refine rk_goto rfl rfl ?_
        first
          | exact ih _ W _ _ _ (by omega) hsub2 hW (hI2 W (Nat.le_refl _) (by omega)) hA
          | exact ih _ VP _ _ _ (by omega) hsub2 hv99 (hI2 VP (by omega) (Nat.le_refl _)) (Or.inr ⟨_, hg0, hne2, hVP⟩)
      · replace hc54 := mt (nI_leI (by omega) (by omega)).mpr hc54
        refine rk_aload_n rfl rfl ?_
        refine rk_get rfl (by assumption) rfl ?_
        refine rk_iload rfl rfl ?_
        refine rk_iald rfl (by assumption) (rfl) (by omega) (by decide) ?_
        rw [hfv2]
        refine rk_goto rfl rfl ?_
        refine rk_istore_n rfl (Nat.le_of_ble_eq_true rfl) rfl ?_
        refine rk_iload_n rfl rfl ?_
        refine rk_iload rfl rfl ?_
        refine rk_iconst (v := (-1)) rfl (by decide) ?_
        refine rk_ixor rfl rfl ?_
        refine rk_iand rfl (and_not _ _) ?_
        refine rk_istore_n rfl (Nat.le_of_ble_eq_true rfl) rfl ?_
        refine rk_goto rfl rfl ?_
        first
          | exact ih _ W _ _ _ (by omega) hsub2 hW (hI2 W (Nat.le_refl _) (by omega)) hA
          | exact ih _ VP _ _ _ (by omega) hsub2 hv99 (hI2 VP (by omega) (Nat.le_refl _)) (Or.inr ⟨_, hg0, hne2, hVP⟩)
theorem s259 {X : ai_X} {h : ai_H} {v A : Nat → Int32} {N : Nat → Nat} (c0 : h[52]? = some (cMdl v)) (c1 : h[53]? = some (cI 2346 A)) (hN : HN N) (M : MH A N) {V : Nat → Nat} {f : Nat → Int32} (c70 : h[70]? = some (cI 16384 f)) (hf : ∀ s, 1 ≤ s → s < 2 ^ N 0 → f s = nI (V s) ∧ V s ≤ 99) {p : Nat} (hp : p < 2 ^ N 0) : Mt X am_259 [.ref 52, .int (nI p)] h (Qi (fun w h1 => h1 = h ∧ ∃ W, w = nI W ∧ W ≤ 99 ∧ (∀ g, g < 10 → p &&& sgn N g = 0 ∨ V (p &&& sgn N g) ≤ W) ∧ (W = 0 ∨ ∃ g, g < 10 ∧ ¬ p &&& sgn N g = 0 ∧ V (p &&& sgn N g) = W))) := by
  refine rk_iconst (v := nI 0) rfl (by decide) ?_
  refine rk_istore_n rfl (Nat.le_of_ble_eq_true rfl) rfl ?_
  refine rk_iload_n rfl rfl ?_
  refine rk_istore_n rfl (Nat.le_of_ble_eq_true rfl) rfl ?_
  exact l259 c0 c1 hN M c70 hf hp (pop p 14 + 1) p 0 _ _ _ (by omega) (sub.refl' _) (by omega) (fun g _ => Or.inr rfl) (Or.inl rfl)
theorem l260a {X : ai_X} {h : ai_H} {v A : Nat → Int32} {N : Nat → Nat} (c0 : h[52]? = some (cMdl v)) (c1 : h[53]? = some (cI 2346 A)) (hN : HN N) (M : MH A N) {S : Nat} {x4 x5 x6 x7 : Option Value} {P : ai_O → Prop} (z : ∀ g f c3, Fr 70 71 h g → g[70]? = some (cI 16384 f) → (∀ s, 1 ≤ s → s < 2 ^ N 0 → f s = nI (kv N 0 s)) → Rk X am_260 34 [some (.ref 52), some (.int (nI S)), some (.int (nI (2 ^ N 0))), c3, x4, x5, x6, x7] [] g P) : ∀ (d : Nat) (s : Nat) (g : ai_H) (f : Nat → Int32), 2 ^ N 0 < s + d → (1 ≤ s) → (s ≤ 2 ^ N 0) → (Fr 70 71 h g) → (g[70]? = some (cI 16384 f)) → (∀ s', 1 ≤ s' → s' < s → f s' = nI (kv N 0 s')) → Rk X am_260 18 [some (.ref 52), some (.int (nI S)), some (.int (nI (2 ^ N 0))), some (.int (nI s)), x4, x5, x6, x7] [] g (P) := by
  intro d
  induction d with
  | zero => intro s g f hd h1 hs F c70 hf; exfalso; omega
  | succ d ih =>
    intro s g f hd h1 hs F c70 hf
    obtain ⟨a0, a1, a268, a269, a270, a271, apl, apc, aot, asg, awt⟩ := id M
    have hn := hN.n
    have h6 := hN.t
    have hp14 := hN.p14
    have e52 := (F.2 52 (by omega)).trans c0
    have e53 := (F.2 53 (by omega)).trans c1
    have F0 : Fr 70 71 h g := F
    have hpp : s < 2 ^ N 0 → 1 ≤ pop s 14 := fun y => by
      obtain ⟨k, hk⟩ := bs_ne.mp (show ¬ s = 0 by omega)
      exact pop_pos hk 14 (bt_lt (n := 14) (by omega) hk)
    have hpl := pop_le s 14
    refine rk_iload_n rfl rfl ?_
    refine rk_iload_n rfl rfl ?_
    refine rk_icmp_ge rfl rfl (fun hc20 => ?_) (fun hc20 => ?_)
    · replace hc20 := (nI_leI (by omega) (by omega)).mp hc20
      have hs2 : s = 2 ^ N 0 := by omega
      subst hs2
      exact z g f _ F c70 hf
    · replace hc20 := mt (nI_leI (by omega) (by omega)).mpr hc20
      refine rk_aload_n rfl rfl ?_
      refine rk_get rfl (by assumption) rfl ?_
      refine rk_iload_n rfl rfl ?_
      refine rk_iload_n rfl rfl ?_
      refine rk_cs1e rfl rfl rfl (Nat.le_of_ble_eq_true rfl) (Nat.le_of_ble_eq_true rfl) (s213 (by omega)) ?_
      replace hpp := hpp (by omega)
      refine rk_iconst (v := nI 1) rfl (by decide) ?_
      refine rk_icmp_ne rfl rfl (fun hc27 => ?_) (fun hc27 => ?_)
      · replace hc27 := mt (nI_eq (by omega) (by omega)).mpr hc27
        refine rk_bipush (v := nI 99) rfl (by decide) ?_
        refine rk_iast rfl c70 (rfl) (by omega) (by decide) ?_
        refine hp_gen c70 (fun h1 g1 hk1 hl1 => ?_)
        replace e52 := (hk1 _ (by omega)).trans e52
        replace e53 := (hk1 _ (by omega)).trans e53
        replace F0 := F0.tr (Fr.mk1 hk1 hl1 (by omega) (by omega))
        replace c70 := g1
        refine rk_iinc rfl rfl (n_inc _) rfl ?_
        refine rk_goto rfl rfl ?_
        refine ih (s + 1) _ _ (by omega) (by omega) (by omega) F0 c70 (fun s' y1 y2 => ?_)
        simp only [upd]
        by_cases q : s' = s
        · subst q
          rw [if_pos rfl]
          first
            | (rw [show kv N 0 s' = 0 by
                 have hk : kn N 0 s' = true := decide_eq_true (by omega)
                 rw [kv, if_pos hk]
                 have := (ls_ok hk (by omega)).1
                 omega])
            | (rw [show kv N 0 s' = 99 by
                 rw [kv, if_neg]
                 intro y
                 have := of_decide_eq_true y
                 omega])
        · rw [if_neg q]; exact hf s' y1 (by omega)
      · replace hc27 := Decidable.not_not.mp hc27
        replace hc27 := (nI_eq (by omega) (by omega)).mp hc27
        refine rk_iconst (v := nI 0) rfl (by decide) ?_
        refine rk_goto rfl rfl ?_
        refine rk_iast rfl c70 (rfl) (by omega) (by decide) ?_
        refine hp_gen c70 (fun h1 g1 hk1 hl1 => ?_)
        replace e52 := (hk1 _ (by omega)).trans e52
        replace e53 := (hk1 _ (by omega)).trans e53
        replace F0 := F0.tr (Fr.mk1 hk1 hl1 (by omega) (by omega))
        replace c70 := g1
        refine rk_iinc rfl rfl (n_inc _) rfl ?_
        refine rk_goto rfl rfl ?_
        refine ih (s + 1) _ _ (by omega) (by omega) (by omega) F0 c70 (fun s' y1 y2 => ?_)
        simp only [upd]
        by_cases q : s' = s
        · subst q
          rw [if_pos rfl]
          first
            | (rw [show kv N 0 s' = 0 by
                 have hk : kn N 0 s' = true := decide_eq_true (by omega)
                 rw [kv, if_pos hk]
                 have := (ls_ok hk (by omega)).1
                 omega])
            | (rw [show kv N 0 s' = 99 by
                 rw [kv, if_neg]
                 intro y
                 have := of_decide_eq_true y
                 omega])
        · rw [if_neg q]; exact hf s' y1 (by omega)
theorem l260t {X : ai_X} {h : ai_H} {v A : Nat → Int32} {N : Nat → Nat} (c0 : h[52]? = some (cMdl v)) (c1 : h[53]? = some (cI 2346 A)) (hN : HN N) (M : MH A N) {S e s : Nat} {y3 : Int32} {f : Nat → Int32} (he : e + 1 ≤ 40) (hs : 1 ≤ s ∧ s < 2 ^ N 0) (c70 : h[70]? = some (cI 16384 f)) (hf : ∀ s', 1 ≤ s' → s' < 2 ^ N 0 → f s' = nI (if s' < s then kv N (e + 1) s' else kv N e s')) {P : ai_O → Prop} (z : ∀ t, Rk X am_260 83 [some (.ref 52), some (.int (nI S)), some (.int (nI (2 ^ N 0))), some (.int y3), some (.int (nI (e + 1))), some (.int (nI s)), some (.int (bI (any (fun t => alg (fun g => kn N e (pimg N s t &&& sgn N g)) 10) (N 1) = true))), some (.int (nI t))] [] h P) : ∀ (d : Nat) (t : Nat), N 1 < t + d → (t ≤ N 1) → Rk X am_260 61 [some (.ref 52), some (.int (nI S)), some (.int (nI (2 ^ N 0))), some (.int y3), some (.int (nI (e + 1))), some (.int (nI s)), some (.int (bI (any (fun t => alg (fun g => kn N e (pimg N s t &&& sgn N g)) 10) t = true))), some (.int (nI t))] [] h (P) := by
  intro d
  induction d with
  | zero => intro t hd ht; exfalso; omega
  | succ d ih =>
    intro t hd ht
    obtain ⟨a0, a1, a268, a269, a270, a271, apl, apc, aot, asg, awt⟩ := id M
    have hn := hN.n
    have hp14 := hN.p14
    have h6 := hN.t
    have hV99 : ∀ s', (if s' < s then kv N (e + 1) s' else kv N e s') ≤ 99 := fun s' => by
      split
      · exact kv_le he
      · exact kv_le (by omega)
    have hVlt : ∀ s', (if s' < s then kv N (e + 1) s' else kv N e s') < e + 1 ↔ kn N e s' = true := fun s' => by
      split
      · exact (kv_lt he).2
      · exact (kv_lt he).1
    have hpi : t < N 1 → pimg N s t < 2 ^ N 0 := fun y => pimg_lt hN y
    refine rk_iload rfl rfl ?_
    refine rk_aload_n rfl rfl ?_
    refine rk_get rfl (by assumption) rfl ?_
    refine rk_iconst (v := nI 1) rfl (by decide) ?_
    refine rk_iald rfl (by assumption) (rfl) (by omega) (by decide) ?_
    rw [a1]
    refine rk_icmp_ge rfl rfl (fun hc66 => ?_) (fun hc66 => ?_)
    · replace hc66 := (nI_leI (by omega) (by omega)).mp hc66
      first
        | (have ht2 : t = N 1 := by omega
           subst ht2
           exact z _)
        | (have hb : any (fun t => alg (fun g => kn N e (pimg N s t &&& sgn N g)) 10) (N 1) = true := by
             obtain ⟨i, hi, y2⟩ := (any_iff _).mp hc68
             exact (any_iff _).mpr ⟨i, by omega, y2⟩
           have zz := z t
           rw [bI_t hb] at zz
           rw [bI_t hc68]
           exact zz)
    · replace hc66 := mt (nI_leI (by omega) (by omega)).mpr hc66
      refine rk_iload rfl rfl ?_
      refine rk_if_ne rfl rfl (fun hc68 => ?_) (fun hc68 => ?_)
      · replace hc68 := Decidable.not_not.mp (mt bI_0.mpr hc68)
        first
          | (have ht2 : t = N 1 := by omega
             subst ht2
             exact z _)
          | (have hb : any (fun t => alg (fun g => kn N e (pimg N s t &&& sgn N g)) 10) (N 1) = true := by
               obtain ⟨i, hi, y2⟩ := (any_iff _).mp hc68
               exact (any_iff _).mpr ⟨i, by omega, y2⟩
             have zz := z t
             rw [bI_t hb] at zz
             rw [bI_t hc68]
             exact zz)
      · replace hc68 := Decidable.not_not.mp hc68
        replace hc68 := (bI_0).mp hc68
        refine rk_aload_n rfl rfl ?_
        refine rk_aload_n rfl rfl ?_
        refine rk_iload rfl rfl ?_
        refine rk_iload rfl rfl ?_
        refine rk_cv2e rfl rfl (by assumption) rfl rfl (Nat.le_of_ble_eq_true rfl) (Nat.le_of_ble_eq_true rfl) (s212 c0 c1 hN M (by omega) (by omega)) ?_
        replace hpi := hpi (by omega)
        refine rk_cv1i rfl rfl (by assumption) rfl rfl (Nat.le_of_ble_eq_true rfl) (Nat.le_of_ble_eq_true rfl) (s259 (V := fun s' => (if s' < s then kv N (e + 1) s' else kv N e s')) c0 c1 hN M c70 (fun s' y1 y2 => ⟨hf s' y1 y2, hV99 s'⟩) hpi) (fun w h1 hF => ?_)
        obtain ⟨rfl, W, rfl, hW99, hWa, hWb⟩ := hF
        have hall : W < e + 1 ↔ ∀ g, g < 10 → kn N e (pimg N s t &&& sgn N g) = true := by
          constructor
          · intro y g hg
            rcases hWa g hg with q | q
            · rw [q]; exact kn_z e
            · exact (hVlt _).mp (Nat.lt_of_le_of_lt q y)
          · intro y
            rcases hWb with q | ⟨g, hg, q1, q2⟩
            · omega
            · rw [← q2]; exact (hVlt _).mpr (y g hg)
        refine rk_iload rfl rfl ?_
        refine rk_icmp_ge rfl rfl (fun hc76 => ?_) (fun hc76 => ?_)
        · replace hc76 := (nI_leI (by omega) (by omega)).mp hc76
          refine rk_iconst (v := nI 0) rfl (by decide) ?_
          refine rk_istore rfl (Nat.le_of_ble_eq_true rfl) rfl ?_
          refine rk_iinc rfl rfl (n_inc _) rfl ?_
          refine rk_goto rfl rfl ?_
          first
            | (have hat : any (fun t => alg (fun g => kn N e (pimg N s t &&& sgn N g)) 10) (t + 1) = true := (any_iff _).mpr ⟨t, by omega, alg_iff.mpr (fun g hg => hall.mp (Nat.lt_of_not_le hc76) g hg)⟩
               have zz := ih (t + 1) (by omega) (by omega)
               rw [bI_t hat, ← nI_one] at zz
               exact zz)
            | (have haf : ¬ any (fun t => alg (fun g => kn N e (pimg N s t &&& sgn N g)) 10) (t + 1) = true := fun y => by
                 obtain ⟨i, hi, y2⟩ := (any_iff _).mp y
                 by_cases q : i = t
                 · subst q
                   exact absurd (hall.mpr (alg_iff.mp y2)) (Nat.not_lt.mpr hc76)
                 · exact hc68 ((any_iff _).mpr ⟨i, by omega, y2⟩)
               have zz := ih (t + 1) (by omega) (by omega)
               rw [bI_f haf, ← nI_0] at zz
               exact zz)
        · replace hc76 := mt (nI_leI (by omega) (by omega)).mpr hc76
          refine rk_iconst (v := nI 1) rfl (by decide) ?_
          refine rk_goto rfl rfl ?_
          refine rk_istore rfl (Nat.le_of_ble_eq_true rfl) rfl ?_
          refine rk_iinc rfl rfl (n_inc _) rfl ?_
          refine rk_goto rfl rfl ?_
          first
            | (have hat : any (fun t => alg (fun g => kn N e (pimg N s t &&& sgn N g)) 10) (t + 1) = true := (any_iff _).mpr ⟨t, by omega, alg_iff.mpr (fun g hg => hall.mp (Nat.lt_of_not_le hc76) g hg)⟩
               have zz := ih (t + 1) (by omega) (by omega)
               rw [bI_t hat, ← nI_one] at zz
               exact zz)
            | (have haf : ¬ any (fun t => alg (fun g => kn N e (pimg N s t &&& sgn N g)) 10) (t + 1) = true := fun y => by
                 obtain ⟨i, hi, y2⟩ := (any_iff _).mp y
                 by_cases q : i = t
                 · subst q
                   exact absurd (hall.mpr (alg_iff.mp y2)) (Nat.not_lt.mpr hc76)
                 · exact hc68 ((any_iff _).mpr ⟨i, by omega, y2⟩)
               have zz := ih (t + 1) (by omega) (by omega)
               rw [bI_f haf, ← nI_0] at zz
               exact zz)
theorem l260s {X : ai_X} {h : ai_H} {v A : Nat → Int32} {N : Nat → Nat} (c0 : h[52]? = some (cMdl v)) (c1 : h[53]? = some (cI 2346 A)) (hN : HN N) (M : MH A N) {S e : Nat} (he : e + 1 ≤ 40) {P : ai_O → Prop} (z : ∀ g f y3 c5 c6 c7, Fr 70 71 h g → g[70]? = some (cI 16384 f) → (∀ s, 1 ≤ s → s < 2 ^ N 0 → f s = nI (kv N (e + 1) s)) → ((y3 = nI 0 ∧ ∀ s', 1 ≤ s' → s' < 2 ^ N 0 → kn N (e + 1) s' = true → kn N e s' = true) ∨ y3 = nI 1) → Rk X am_260 95 [some (.ref 52), some (.int (nI S)), some (.int (nI (2 ^ N 0))), some (.int y3), some (.int (nI (e + 1))), c5, c6, c7] [] g P) : ∀ (d : Nat) (s : Nat) (g : ai_H) (f : Nat → Int32) (y3 : Int32) (c6 c7 : Option Value), 2 ^ N 0 < s + d → (1 ≤ s) → (s ≤ 2 ^ N 0) → (Fr 70 71 h g) → (g[70]? = some (cI 16384 f)) → (∀ s', 1 ≤ s' → s' < 2 ^ N 0 → f s' = nI (if s' < s then kv N (e + 1) s' else kv N e s')) → (((y3 = nI 0 ∧ ∀ s', 1 ≤ s' → s' < s → kn N (e + 1) s' = true → kn N e s' = true) ∨ y3 = nI 1)) → Rk X am_260 47 [some (.ref 52), some (.int (nI S)), some (.int (nI (2 ^ N 0))), some (.int y3), some (.int (nI (e + 1))), some (.int (nI s)), c6, c7] [] g (P) := by
  intro d
  induction d with
  | zero => intro s g f y3 c6 c7 hd h1 hs F c70 hf hM; exfalso; omega
  | succ d ih =>
    intro s g f y3 c6 c7 hd h1 hs F c70 hf hM
    obtain ⟨a0, a1, a268, a269, a270, a271, apl, apc, aot, asg, awt⟩ := id M
    have hn := hN.n
    have h6 := hN.t
    have hp14 := hN.p14
    have e52 := (F.2 52 (by omega)).trans c0
    have e53 := (F.2 53 (by omega)).trans c1
    have F0 : Fr 70 71 h g := F
    have hkl := kv_le (N := N) (d := e) (s := s) (by omega)
    have hk9 := kv_99 (N := N) (d := e) (s := s) (by omega)
    refine rk_iload rfl rfl ?_
    refine rk_iload_n rfl rfl ?_
    refine rk_icmp_ge rfl rfl (fun hc49 => ?_) (fun hc49 => ?_)
    · replace hc49 := (nI_leI (by omega) (by omega)).mp hc49
      have hs2 : s = 2 ^ N 0 := by omega
      subst hs2
      exact z g f y3 _ _ _ F c70 (fun s' y1 y2 => by rw [hf s' y1 y2, if_pos y2]) hM
    · replace hc49 := mt (nI_leI (by omega) (by omega)).mpr hc49
      refine rk_aload_n rfl rfl ?_
      refine rk_get rfl (by assumption) rfl ?_
      refine rk_iload rfl rfl ?_
      refine rk_iald rfl (by assumption) (rfl) (by omega) (by decide) ?_
      rw [hf s h1 (by omega), if_neg (by omega)]
      refine rk_bipush (v := nI 99) rfl (by decide) ?_
      refine rk_icmp_eq rfl rfl (fun hc55 => ?_) (fun hc55 => ?_)
      · replace hc55 := (nI_eq (by omega) (by omega)).mp hc55
        refine rk_iconst (v := nI 0) rfl (by decide) ?_
        refine rk_istore rfl (Nat.le_of_ble_eq_true rfl) rfl ?_
        have hnk : ¬ kn N e s = true := hk9.mp hc55
        rw [show nI 0 = bI (any (fun t => alg (fun g => kn N e (pimg N s t &&& sgn N g)) 10) 0 = true) by rw [bI_f (by simp [any])]; exact nI_0]
        refine rk_iconst (v := nI 0) rfl (by decide) ?_
        refine rk_istore rfl (Nat.le_of_ble_eq_true rfl) rfl ?_
        refine l260t e52 e53 hN M he ⟨h1, by omega⟩ c70 hf (fun t => ?_) (N 1 + 1) 0 (by omega) (Nat.zero_le _)
        have hks : kn N (e + 1) s = true ↔ any (fun t => alg (fun g => kn N e (pimg N s t &&& sgn N g)) 10) (N 1) = true := by
          rw [kn, Bool.or_eq_true]
          exact ⟨fun y => y.resolve_left hnk, Or.inr⟩
        refine rk_iload rfl rfl ?_
        refine rk_if_ne rfl rfl (fun hc => ?_) (fun hc => ?_)
        · replace hc := Decidable.not_not.mp (mt bI_0.mpr hc)
          have hk2 := hks.mpr hc
          have hls := ls_new hk2 hnk he
          have hkv : kv N (e + 1) s = e + 1 := by rw [kv, if_pos hk2, hls]
          refine rk_aload_n rfl rfl ?_
          refine rk_get rfl (by assumption) rfl ?_
          refine rk_iload rfl rfl ?_
          refine rk_iload rfl rfl ?_
          refine rk_iast rfl c70 (rfl) (by omega) (by decide) ?_
          refine hp_gen c70 (fun h1 g1 hk1 hl1 => ?_)
          replace e52 := (hk1 _ (by omega)).trans e52
          replace e53 := (hk1 _ (by omega)).trans e53
          replace F0 := F0.tr (Fr.mk1 hk1 hl1 (by omega) (by omega))
          replace c70 := g1
          refine rk_iconst (v := nI 1) rfl (by decide) ?_
          refine rk_istore_n rfl (Nat.le_of_ble_eq_true rfl) rfl ?_
          refine rk_iinc rfl rfl (n_inc _) rfl ?_
          refine rk_goto rfl rfl ?_
          refine ih (s + 1) _ _ _ _ _ (by omega) (by omega) (by omega) F0 c70 (fun s' y1 y2 => ?_) (Or.inr rfl)
          simp only [upd]
          by_cases q : s' = s
          · subst q; rw [if_pos rfl, if_pos (by omega), hkv]
          · rw [if_neg q, hf s' y1 y2]
            by_cases q2 : s' < s
            · rw [if_pos q2, if_pos (by omega)]
            · rw [if_neg q2, if_neg (by omega)]
        · replace hc := Decidable.not_not.mp hc
          replace hc := bI_0.mp hc
          have hnk2 : ¬ kn N (e + 1) s = true := fun y => hc (hks.mp y)
          have hkv : kv N (e + 1) s = kv N e s := by rw [kv, kv, if_neg hnk, if_neg hnk2]
          refine rk_goto rfl rfl ?_
          refine rk_iinc rfl rfl (n_inc _) rfl ?_
          refine rk_goto rfl rfl ?_
          refine ih (s + 1) g f y3 _ _ (by omega) (by omega) (by omega) F c70 (fun s' y1 y2 => ?_) ?_
          · rw [hf s' y1 y2]
            by_cases q : s' = s
            · subst q; rw [if_neg (by omega), if_pos (by omega), hkv]
            · by_cases q2 : s' < s
              · rw [if_pos q2, if_pos (by omega)]
              · rw [if_neg q2, if_neg (by omega)]
          · rcases hM with ⟨y1, y2⟩ | y
            · refine Or.inl ⟨y1, fun s' w1 w2 w3 => ?_⟩
              by_cases q : s' = s
              · rw [q] at w3; exact absurd w3 hnk2
              · exact y2 s' w1 (by omega) w3
            · exact Or.inr y
      · replace hc55 := mt (nI_eq (by omega) (by omega)).mpr hc55
        refine rk_goto rfl rfl ?_
        have hkn : kn N e s = true := Decidable.byContradiction (fun y => hc55 (hk9.mpr y))
        have hkv : kv N (e + 1) s = kv N e s := by rw [kv, kv, if_pos hkn, if_pos (kn_le hkn (by omega))]
        refine rk_iinc rfl rfl (n_inc _) rfl ?_
        refine rk_goto rfl rfl ?_
        refine ih (s + 1) g f y3 _ _ (by omega) (by omega) (by omega) F c70 (fun s' y1 y2 => ?_) ?_
        · rw [hf s' y1 y2]
          by_cases q : s' = s
          · subst q; rw [if_neg (by omega), if_pos (by omega), hkv]
          · by_cases q2 : s' < s
            · rw [if_pos q2, if_pos (by omega)]
            · rw [if_neg q2, if_neg (by omega)]
        · rcases hM with ⟨y1, y2⟩ | y
          · refine Or.inl ⟨y1, fun s' w1 w2 w3 => ?_⟩
            by_cases q : s' = s
            · rw [q]; exact hkn
            · exact y2 s' w1 (by omega) w3
          · exact Or.inr y
theorem l260 {X : ai_X} {h : ai_H} {v A : Nat → Int32} {N : Nat → Nat} (c0 : h[52]? = some (cMdl v)) (c1 : h[53]? = some (cI 2346 A)) (hN : HN N) (M : MH A N) {S : Nat} (hS : S < 2 ^ N 0) : ∀ (d : Nat) (e : Nat) (g : ai_H) (f : Nat → Int32) (y3 : Int32) (c5 c6 c7 : Option Value), 40 < e + d → (e ≤ 40) → (Fr 70 71 h g) → (g[70]? = some (cI 16384 f)) → (∀ s, 1 ≤ s → s < 2 ^ N 0 → f s = nI (kv N e s)) → (y3 = nI 0 → ∀ s, s < 2 ^ N 0 → kn N 40 s = true → kn N e s = true) → Rk X am_260 38 [some (.ref 52), some (.int (nI S)), some (.int (nI (2 ^ N 0))), some (.int y3), some (.int (nI (e + 1))), c5, c6, c7] [] g (Qi (fun w h1 => w = ansT N S ∧ Fr 70 71 h h1)) := by
  intro d
  induction d with
  | zero => intro e g f y3 c5 c6 c7 hd he F c70 hf hK; exfalso; omega
  | succ d ih =>
    intro e g f y3 c5 c6 c7 hd he F c70 hf hK
    obtain ⟨a0, a1, a268, a269, a270, a271, apl, apc, aot, asg, awt⟩ := id M
    have hn := hN.n
    have h6 := hN.t
    have hp14 := hN.p14
    have e52 := (F.2 52 (by omega)).trans c0
    have e53 := (F.2 53 (by omega)).trans c1
    have F0 : Fr 70 71 h g := F
    refine rk_iload rfl rfl ?_
    refine rk_bipush (v := nI 40) rfl (by decide) ?_
    refine rk_icmp_gt rfl rfl (fun hc40 => ?_) (fun hc40 => ?_)
    · replace hc40 := (nI_ltI (by omega) (by omega)).mp hc40
      have K : ∀ s, s < 2 ^ N 0 → kn N 40 s = true → kn N e s = true := fun s _ y => by rw [show e = 40 by omega]; exact y
      refine rk_aload_n rfl rfl ?_
      refine rk_iload_n rfl rfl ?_
      refine rk_cv1i rfl rfl (by assumption) rfl rfl (Nat.le_of_ble_eq_true rfl) (Nat.le_of_ble_eq_true rfl) (s259 (V := kv N e) e52 e53 hN M c70 (fun s y1 y2 => ⟨hf s y1 y2, kv_le he⟩) hS) (fun w h1 hF => ?_)
      obtain ⟨rfl, W, rfl, hW99, hWa, hWb⟩ := hF
      refine rk_istore rfl (Nat.le_of_ble_eq_true rfl) rfl ?_
      refine rk_iload rfl rfl ?_
      refine rk_bipush (v := nI 99) rfl (by decide) ?_
      refine rk_icmp_ne rfl rfl (fun hc103 => ?_) (fun hc103 => ?_)
      · replace hc103 := mt (nI_eq (by omega) (by omega)).mpr hc103
        refine rk_iload rfl rfl ?_
        refine rk_ireturn rfl rfl ⟨_, _, rfl, ?_, F⟩
        have hkv : ∀ g, g < 10 → kn N e (S &&& sgn N g) = true → kn N W (S &&& sgn N g) = true := fun g hg y => by
          rcases hWa g hg with q | q
          · rw [q]; exact kn_z _
          · rw [kv, if_pos y] at q
            exact kn_le (ls_ok y he).2.1 q
        first
          | (have hW : W = 99 := hc103
             rcases hWb with q | ⟨g, hg, q1, q2⟩
             · omega
             · rw [hW] at q2
               exact (ansT_no (fun y => (kv_99 he).mp q2 (K _ (prt_lt hS) (y g hg)))).symm)
          | (have hW : ¬ W = 99 := hc103
             have hall : ∀ g, g < 10 → kn N e (S &&& sgn N g) = true := fun g hg => by
               apply Decidable.byContradiction
               intro y
               rcases hWa g hg with q | q
               · rw [q] at y; exact y (kn_z e)
               · rw [(kv_99 he).mpr y] at q; omega
             have hWe : W ≤ e := by
               rcases hWb with q | ⟨g, hg, q1, q2⟩
               · omega
               · rw [← q2, kv, if_pos (hall g hg)]
                 exact (ls_ok (hall g hg) he).1
             refine (ansT_at (by omega) (fun g hg => hkv g hg (hall g hg)) (fun j hj y => ?_)).symm
             rcases hWb with q | ⟨g, hg, q1, q2⟩
             · omega
             · rw [kv, if_pos (hall g hg)] at q2
               exact (ls_ok (hall g hg) he).2.2 j (by omega) (y g hg))
      · replace hc103 := Decidable.not_not.mp hc103
        replace hc103 := (nI_eq (by omega) (by omega)).mp hc103
        refine rk_iconst (v := (-1)) rfl (by decide) ?_
        refine rk_goto rfl rfl ?_
        refine rk_ireturn rfl rfl ⟨_, _, rfl, ?_, F⟩
        have hkv : ∀ g, g < 10 → kn N e (S &&& sgn N g) = true → kn N W (S &&& sgn N g) = true := fun g hg y => by
          rcases hWa g hg with q | q
          · rw [q]; exact kn_z _
          · rw [kv, if_pos y] at q
            exact kn_le (ls_ok y he).2.1 q
        first
          | (have hW : W = 99 := hc103
             rcases hWb with q | ⟨g, hg, q1, q2⟩
             · omega
             · rw [hW] at q2
               exact (ansT_no (fun y => (kv_99 he).mp q2 (K _ (prt_lt hS) (y g hg)))).symm)
          | (have hW : ¬ W = 99 := hc103
             have hall : ∀ g, g < 10 → kn N e (S &&& sgn N g) = true := fun g hg => by
               apply Decidable.byContradiction
               intro y
               rcases hWa g hg with q | q
               · rw [q] at y; exact y (kn_z e)
               · rw [(kv_99 he).mpr y] at q; omega
             have hWe : W ≤ e := by
               rcases hWb with q | ⟨g, hg, q1, q2⟩
               · omega
               · rw [← q2, kv, if_pos (hall g hg)]
                 exact (ls_ok (hall g hg) he).1
             refine (ansT_at (by omega) (fun g hg => hkv g hg (hall g hg)) (fun j hj y => ?_)).symm
             rcases hWb with q | ⟨g, hg, q1, q2⟩
             · omega
             · rw [kv, if_pos (hall g hg)] at q2
               exact (ls_ok (hall g hg) he).2.2 j (by omega) (y g hg))
    · replace hc40 := mt (nI_ltI (by omega) (by omega)).mpr hc40
      refine rk_iload_n rfl rfl ?_
      refine rk_if_eq rfl rfl (fun hc42 => ?_) (fun hc42 => ?_)
      · have K := hK (hc42.trans nI_0.symm)
        refine rk_aload_n rfl rfl ?_
        refine rk_iload_n rfl rfl ?_
        refine rk_cv1i rfl rfl (by assumption) rfl rfl (Nat.le_of_ble_eq_true rfl) (Nat.le_of_ble_eq_true rfl) (s259 (V := kv N e) e52 e53 hN M c70 (fun s y1 y2 => ⟨hf s y1 y2, kv_le he⟩) hS) (fun w h1 hF => ?_)
        obtain ⟨rfl, W, rfl, hW99, hWa, hWb⟩ := hF
        refine rk_istore rfl (Nat.le_of_ble_eq_true rfl) rfl ?_
        refine rk_iload rfl rfl ?_
        refine rk_bipush (v := nI 99) rfl (by decide) ?_
        refine rk_icmp_ne rfl rfl (fun hc103 => ?_) (fun hc103 => ?_)
        · replace hc103 := mt (nI_eq (by omega) (by omega)).mpr hc103
          refine rk_iload rfl rfl ?_
          refine rk_ireturn rfl rfl ⟨_, _, rfl, ?_, F⟩
          have hkv : ∀ g, g < 10 → kn N e (S &&& sgn N g) = true → kn N W (S &&& sgn N g) = true := fun g hg y => by
            rcases hWa g hg with q | q
            · rw [q]; exact kn_z _
            · rw [kv, if_pos y] at q
              exact kn_le (ls_ok y he).2.1 q
          first
            | (have hW : W = 99 := hc103
               rcases hWb with q | ⟨g, hg, q1, q2⟩
               · omega
               · rw [hW] at q2
                 exact (ansT_no (fun y => (kv_99 he).mp q2 (K _ (prt_lt hS) (y g hg)))).symm)
            | (have hW : ¬ W = 99 := hc103
               have hall : ∀ g, g < 10 → kn N e (S &&& sgn N g) = true := fun g hg => by
                 apply Decidable.byContradiction
                 intro y
                 rcases hWa g hg with q | q
                 · rw [q] at y; exact y (kn_z e)
                 · rw [(kv_99 he).mpr y] at q; omega
               have hWe : W ≤ e := by
                 rcases hWb with q | ⟨g, hg, q1, q2⟩
                 · omega
                 · rw [← q2, kv, if_pos (hall g hg)]
                   exact (ls_ok (hall g hg) he).1
               refine (ansT_at (by omega) (fun g hg => hkv g hg (hall g hg)) (fun j hj y => ?_)).symm
               rcases hWb with q | ⟨g, hg, q1, q2⟩
               · omega
               · rw [kv, if_pos (hall g hg)] at q2
                 exact (ls_ok (hall g hg) he).2.2 j (by omega) (y g hg))
        · replace hc103 := Decidable.not_not.mp hc103
          replace hc103 := (nI_eq (by omega) (by omega)).mp hc103
          refine rk_iconst (v := (-1)) rfl (by decide) ?_
          refine rk_goto rfl rfl ?_
          refine rk_ireturn rfl rfl ⟨_, _, rfl, ?_, F⟩
          have hkv : ∀ g, g < 10 → kn N e (S &&& sgn N g) = true → kn N W (S &&& sgn N g) = true := fun g hg y => by
            rcases hWa g hg with q | q
            · rw [q]; exact kn_z _
            · rw [kv, if_pos y] at q
              exact kn_le (ls_ok y he).2.1 q
          first
            | (have hW : W = 99 := hc103
               rcases hWb with q | ⟨g, hg, q1, q2⟩
               · omega
               · rw [hW] at q2
                 exact (ansT_no (fun y => (kv_99 he).mp q2 (K _ (prt_lt hS) (y g hg)))).symm)
            | (have hW : ¬ W = 99 := hc103
               have hall : ∀ g, g < 10 → kn N e (S &&& sgn N g) = true := fun g hg => by
                 apply Decidable.byContradiction
                 intro y
                 rcases hWa g hg with q | q
                 · rw [q] at y; exact y (kn_z e)
                 · rw [(kv_99 he).mpr y] at q; omega
               have hWe : W ≤ e := by
                 rcases hWb with q | ⟨g, hg, q1, q2⟩
                 · omega
                 · rw [← q2, kv, if_pos (hall g hg)]
                   exact (ls_ok (hall g hg) he).1
               refine (ansT_at (by omega) (fun g hg => hkv g hg (hall g hg)) (fun j hj y => ?_)).symm
               rcases hWb with q | ⟨g, hg, q1, q2⟩
               · omega
               · rw [kv, if_pos (hall g hg)] at q2
                 exact (ls_ok (hall g hg) he).2.2 j (by omega) (y g hg))
      · refine rk_iconst (v := nI 0) rfl (by decide) ?_
        refine rk_istore_n rfl (Nat.le_of_ble_eq_true rfl) rfl ?_
        refine rk_iconst (v := nI 1) rfl (by decide) ?_
        refine rk_istore rfl (Nat.le_of_ble_eq_true rfl) rfl ?_
        refine l260s (h := h) c0 c1 hN M (e := e) (by omega) (fun g2 f2 y3' c5 c6 c7 F2 d70 hf2 hM => ?_) (2 ^ N 0 + 1) 1 g f _ _ _ (by omega) (by omega) (by have := Nat.two_pow_pos (N 0); omega) F c70 (fun s' y1 y2 => by rw [if_neg (by omega)]; exact hf s' y1 y2) (Or.inl ⟨rfl, fun s' y1 y2 => absurd y1 (by omega)⟩)
        refine rk_iinc rfl rfl (n_inc _) rfl ?_
        refine rk_goto rfl rfl ?_
        refine ih (e + 1) g2 f2 y3' _ _ _ (by omega) (by omega) F2 d70 hf2 (fun y s hs q => ?_)
        rcases hM with ⟨-, w⟩ | w
        · have hst : ∀ s, s < 2 ^ N 0 → kn N (e + 1) s = true → kn N e s = true := fun s hs q => by
            by_cases q0 : s = 0
            · rw [q0]; exact kn_z e
            · exact w s (by omega) hs q
          have := kn_stop hN hst (40 - e) s hs (by rw [show e + (40 - e) = 40 by omega]; exact q)
          exact kn_le this (by omega)
        · rw [w] at y
          exact absurd y (by decide)
theorem m260_v {X : ai_X} {h : ai_H} {v A : Nat → Int32} {N : Nat → Nat} (c0 : h[52]? = some (cMdl v)) (c1 : h[53]? = some (cI 2346 A)) (hN : HN N) (M : MH A N) {S : Nat} (hS : 0 < S ∧ S < 2 ^ N 0) (S70 : ShI h 70 16384) : Rk X am_260 3 (ai_loc (ai_mL am_260) [.ref 52, .int (nI S)]) [] h (Qi (fun w h1 => w = ansT N S ∧ Fr 70 71 h h1)) := by
  obtain ⟨a0, a1, a268, a269, a270, a271, apl, apc, aot, asg, awt⟩ := id M
  have hn := hN.n
  have hp14 := hN.p14
  have h2p := Nat.two_pow_pos (N 0)
  obtain ⟨f70, c70⟩ := S70
  refine rk_aload_n rfl rfl ?_
  refine rk_iload_n rfl rfl ?_
  refine rk_cv1e rfl rfl (by assumption) rfl rfl (Nat.le_of_ble_eq_true rfl) (Nat.le_of_ble_eq_true rfl) (s208N c0 c1 hN M _) ?_
  refine rk_if_ne rfl rfl (fun hc6 => ?_) (fun hc6 => ?_)
  · replace hc6 := Decidable.not_not.mp (mt bI_0.mpr hc6)
    refine rk_iconst (v := nI 1) rfl (by decide) ?_
    refine rk_aload_n rfl rfl ?_
    refine rk_get rfl (by assumption) rfl ?_
    refine rk_iconst (v := nI 0) rfl (by decide) ?_
    refine rk_iald rfl (by assumption) (rfl) (by omega) (by decide) ?_
    rw [a0]
    refine rk_ishl rfl (b_1shlU (by omega)) ?_
    refine rk_istore_n rfl (Nat.le_of_ble_eq_true rfl) rfl ?_
    refine rk_iconst (v := nI 1) rfl (by decide) ?_
    refine rk_istore_n rfl (Nat.le_of_ble_eq_true rfl) rfl ?_
    refine l260a (h := h) c0 c1 hN M (fun g f c3 F d70 hf => ?_) (2 ^ N 0 + 1) 1 h f70 (by omega) (by omega) (by omega) Fr.rfl' c70 (fun s' y1 y2 => absurd y1 (by omega))
    refine rk_iconst (v := nI 1) rfl (by decide) ?_
    refine rk_istore_n rfl (Nat.le_of_ble_eq_true rfl) rfl ?_
    refine rk_iconst (v := nI 1) rfl (by decide) ?_
    refine rk_istore rfl (Nat.le_of_ble_eq_true rfl) rfl ?_
    exact l260 (h := h) c0 c1 hN M hS.2 41 0 g f _ _ _ _ (by omega) (by omega) F d70 hf (fun y => absurd y (by decide))
  · replace hc6 := Decidable.not_not.mp hc6
    replace hc6 := (bI_0).mp hc6
    exact absurd (isSet_mk hN hS.1 hS.2) hc6
theorem m260_x {X : ai_X} {h : ai_H} {v A : Nat → Int32} {N : Nat → Nat} (c0 : h[52]? = some (cMdl v)) (c1 : h[53]? = some (cI 2346 A)) (hN : HN N) (M : MH A N) {a : Int32} (hx : ¬ IsSet N a) : Rk X am_260 3 (ai_loc (ai_mL am_260) [.ref 52, .int a]) [] h (Qe (-3) h) := by
  refine rk_aload_n rfl rfl ?_
  refine rk_iload_n rfl rfl ?_
  refine rk_cv1e rfl rfl (by assumption) rfl rfl (Nat.le_of_ble_eq_true rfl) (Nat.le_of_ble_eq_true rfl) (s208N c0 c1 hN M _) ?_
  refine rk_if_ne rfl rfl (fun hc6 => ?_) (fun hc6 => ?_)
  · replace hc6 := Decidable.not_not.mp (mt bI_0.mpr hc6)
    exact absurd hc6 hx
  · replace hc6 := Decidable.not_not.mp hc6
    replace hc6 := (bI_0).mp hc6
    refine rk_bipush (v := (-3)) rfl (by decide) ?_
    exact rk_ireturn rfl rfl Qe_mk
