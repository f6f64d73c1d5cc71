/-! HOME: all rooms into the pantry -/
def nxB (N : Nat → Nat) (bt : Int32) (x t : Nat) : Nat := if nI t = bt then x else nxP N x t
abbrev rcB (N : Nat → Nat) (bt : Int32) (g : Nat → Bool) : Nat → Nat → Bool := rch (nxB N bt) (N 1) g
abbrev lsB (N : Nat → Nat) (bt : Int32) (g : Nat → Bool) : Nat → Nat → Prop := lst (nxB N bt) (N 1) g
def RB (N : Nat → Nat) (bt : Int32) (g : Nat → Bool) (x : Nat) : Prop := ∃ k, rcB N bt g k x = true
theorem nxB_v {N : Nat → Nat} {bt : Int32} (hN : HN N) {x t : Nat} (hx : vP N x) (ht : t < N 1) : vP N (nxB N bt x t) := by
  unfold nxB
  split
  · exact hx
  · exact nxD_v hN hx ht
theorem RB.z {N : Nat → Nat} {bt : Int32} {g : Nat → Bool} {x : Nat} (h : g x = true) : RB N bt g x := ⟨0, h⟩
theorem RB.s {N : Nat → Nat} {bt : Int32} {g : Nat → Bool} {x t : Nat} (ht : t < N 1) (hb : ¬ nI t = bt) (h : RB N bt g (nxP N x t)) : RB N bt g x := by
  obtain ⟨k, hk⟩ := h
  refine ⟨k + 1, (any_iff _).mpr ⟨t, ht, ?_⟩⟩
  show rcB N bt g k (nxB N bt x t) = true
  rw [nxB, if_neg hb]
  exact hk
theorem RB.minK {N : Nat → Nat} {bt : Int32} {g : Nat → Bool} {W : Nat → Prop} (hN : HN N) (h0 : ∀ x, vP N x → g x = true → W x) (hs : ∀ x t, vP N x → t < N 1 → ¬ nI t = bt → W (nxP N x t) → W x) : ∀ k x, vP N x → rcB N bt g k x = true → W x
  | 0, x, hx, h => h0 x hx h
  | k + 1, x, hx, h => by
    obtain ⟨t, ht, h2⟩ := (any_iff _).mp h
    have h3 : rcB N bt g k (nxB N bt x t) = true := h2
    by_cases hb : nI t = bt
    · rw [nxB, if_pos hb] at h3
      exact RB.minK hN h0 hs k x hx h3
    · rw [nxB, if_neg hb] at h3
      exact hs x t hx ht hb (RB.minK hN h0 hs k _ (nxD_v hN hx ht) h3)
theorem RB.min {N : Nat → Nat} {bt : Int32} {g : Nat → Bool} {W : Nat → Prop} {x : Nat} (hN : HN N) (h0 : ∀ x, vP N x → g x = true → W x) (hs : ∀ x t, vP N x → t < N 1 → ¬ nI t = bt → W (nxP N x t) → W x) (hx : vP N x) (h : RB N bt g x) : W x := by
  obtain ⟨k, hk⟩ := h
  exact RB.minK hN h0 hs k x hx hk
theorem lsB_lt {N : Nat → Nat} {bt : Int32} {g : Nat → Bool} (hN : HN N) {k x : Nat} (hx : vP N x) (h : lsB N bt g k x) : k < 196 := lst_lt (v := vP N) (fun x hx => vP_lt hN hx) (fun x t hx ht => nxB_v hN hx ht) k x hx h
/-- all within so many tones -/
def DW (N : Nat → Nat) (bt : Int32) (g : Nat → Bool) (i : Nat) (W : Nat → Prop) : Prop := ∀ k x, k ≤ i → vP N x → lsB N bt g k x → W x
theorem DW.z {N : Nat → Nat} {bt : Int32} {g : Nat → Bool} {W : Nat → Prop} (h : ∀ x, vP N x → g x = true → W x) : DW N bt g 0 W := fun k x hk hx hl => by
  have : k = 0 := by omega
  subst this
  exact h x hx hl.1
theorem DW.s {N : Nat → Nat} {bt : Int32} {g : Nat → Bool} {W W1 : Nat → Prop} {i : Nat} (hN : HN N) (H : DW N bt g i W) (hm : ∀ x, vP N x → W x → W1 x) (hs : ∀ x t, vP N x → t < N 1 → ¬ nI t = bt → W (nxP N x t) → W1 x) : DW N bt g (i + 1) W1 := fun k x hk hx hl => by
  by_cases e : k ≤ i
  · exact hm x hx (H k x e hx hl)
  · have : k = i + 1 := by omega
    subst this
    obtain ⟨t, ht, h2⟩ := lst.next hl
    by_cases hb : nI t = bt
    · rw [nxB, if_pos hb] at h2
      exact absurd (hl.uniq h2) (by omega)
    · rw [nxB, if_neg hb] at h2
      exact hs x t hx ht hb (H i _ (Nat.le_refl _) (nxD_v hN hx ht) h2)
theorem DW.all {N : Nat → Nat} {bt : Int32} {g : Nat → Bool} {W : Nat → Prop} {i x : Nat} (hN : HN N) (H : DW N bt g i W) (hi : 196 ≤ i) (hx : vP N x) (h : RB N bt g x) : W x := by
  obtain ⟨k, hk⟩ := h
  obtain ⟨j, -, hl⟩ := lst_ex k hk
  have := lsB_lt hN hx hl
  exact H j x (by omega) hx hl
/-- both ways -/
theorem vP_of {N : Nat → Nat} {x : Nat} (hx : vP N x) : x / 14 < N 0 ∧ x % 14 < N 0 ∧ x / 14 * 14 + x % 14 = x := by
  refine ⟨hx.1, hx.2, by omega⟩
theorem RB.sym {N : Nat → Nat} {bt : Int32} {g : Nat → Bool} (hN : HN N) (hg : ∀ a b, a < N 0 → b < N 0 → g (a * 14 + b) = true → g (b * 14 + a) = true) {a b : Nat} (ha : a < N 0) (hb : b < N 0) (h : RB N bt g (a * 14 + b)) : RB N bt g (b * 14 + a) := by
  have hn := hN.n
  have := RB.min (W := fun x => RB N bt g (x % 14 * 14 + x / 14)) hN (fun x hx h => ?_) (fun x t hx ht hb h => ?_) (vP_ab hN ha hb) h
  · have e1 : (a * 14 + b) / 14 = a := by omega
    have e2 : (a * 14 + b) % 14 = b := by omega
    rw [e1, e2] at this
    exact this
  · obtain ⟨v1, v2, v3⟩ := vP_of hx
    rw [← v3] at h
    exact RB.z (hg _ _ v1 v2 h)
  · obtain ⟨v1, v2, v3⟩ := vP_of hx
    have p1 := hN.xpl v1 ht
    have p2 := hN.xpl v2 ht
    have e : nxP N x t = pl N (x / 14) t * 14 + pl N (x % 14) t := by
      have := nxP_ab (N := N) (a := x / 14) (b := x % 14) (t := t) (by omega)
      rwa [v3] at this
    rw [e] at h
    have e1 : (pl N (x / 14) t * 14 + pl N (x % 14) t) / 14 = pl N (x / 14) t := by omega
    have e2 : (pl N (x / 14) t * 14 + pl N (x % 14) t) % 14 = pl N (x % 14) t := by omega
    rw [e1, e2] at h
    refine RB.s ht hb ?_
    rw [nxP_ab (by omega)]
    exact h
def gH (N : Nat → Nat) (x : Nat) : Bool := decide (x = N 270 * 14 + N 270)
theorem gH_sym {N : Nat → Nat} (hN : HN N) : ∀ a b, a < N 0 → b < N 0 → gH N (a * 14 + b) = true → gH N (b * 14 + a) = true := fun a b ha hb h => by
  have hn := hN.n
  have hp := hN.pan
  have := of_decide_eq_true h
  exact decide_eq_true (by omega)
def HomeB (N : Nat → Nat) (bt : Int32) : Prop := ∀ a b, a < N 0 → b < N 0 → RB N bt (gH N) (a * 14 + b)
def hm1 (N : Nat → Nat) (bt : Int32) : Bool := !(any (fun a => any (fun b => !(any (fun k => rcB N bt (gH N) k (a * 14 + b)) 196)) (N 0)) (N 0))
theorem hm1_iff {N : Nat → Nat} {bt : Int32} (hN : HN N) : hm1 N bt = true ↔ HomeB N bt := by
  unfold hm1
  rw [Bool.not_eq_true', Bool.eq_false_iff, Ne, any_iff]
  constructor
  · intro h a b ha hb
    apply Classical.byContradiction
    intro z
    refine h ⟨a, ha, (any_iff _).mpr ⟨b, hb, ?_⟩⟩
    rw [Bool.not_eq_true', Bool.eq_false_iff, Ne, any_iff]
    rintro ⟨k, -, hk⟩
    exact z ⟨k, hk⟩
  · rintro h ⟨a, ha, h2⟩
    obtain ⟨b, hb, h3⟩ := (any_iff _).mp h2
    rw [Bool.not_eq_true', Bool.eq_false_iff, Ne, any_iff] at h3
    obtain ⟨k, hk⟩ := h a b ha hb
    obtain ⟨j, -, hl⟩ := lst_ex k hk
    exact h3 ⟨j, lsB_lt hN (vP_ab hN ha hb) hl, hl.1⟩
/-- the class's bits: both ways, and as it must be -/
def HS (N : Nat → Nat) (bt : Int32) (W : Nat → Nat) : Prop := (∀ a, a < 14 → W a < 2 ^ N 0) ∧ (∀ a b, a < N 0 → b < N 0 → (W a / 2 ^ b % 2 = 1 ↔ W b / 2 ^ a % 2 = 1)) ∧ ∀ a b, a < N 0 → b < N 0 → W a / 2 ^ b % 2 = 1 → RB N bt (gH N) (a * 14 + b)
theorem up_bt {W : Nat → Nat} {a b i j : Nat} : un (un W a (W a ||| 2 ^ b)) b (un W a (W a ||| 2 ^ b) b ||| 2 ^ a) i / 2 ^ j % 2 = 1 ↔ W i / 2 ^ j % 2 = 1 ∨ (i = a ∧ j = b) ∨ (i = b ∧ j = a) := by
  by_cases h1 : i = b
  · subst h1
    rw [un_s, bt_or, bt_pow]
    by_cases h2 : i = a
    · subst h2
      rw [un_s, bt_or, bt_pow]
      omega
    · rw [un_n h2]
      omega
  · rw [un_n h1]
    by_cases h2 : i = a
    · subst h2
      rw [un_s, bt_or, bt_pow]
      omega
    · rw [un_n h2]
      omega
theorem HS.up {N : Nat → Nat} {bt : Int32} {W : Nat → Nat} {a b : Nat} (hN : HN N) (H : HS N bt W) (ha : a < N 0) (hb : b < N 0) (h : RB N bt (gH N) (a * 14 + b)) : HS N bt (un (un W a (W a ||| 2 ^ b)) b (un W a (W a ||| 2 ^ b) b ||| 2 ^ a)) := by
  obtain ⟨h1, h2, h3⟩ := H
  refine ⟨fun i hi => bs_lt fun j hj => ?_, fun i j hi hj => ?_, fun i j hi hj hij => ?_⟩
  · rcases up_bt.mp hj with z | ⟨-, z⟩ | ⟨-, z⟩
    · exact bt_lt (h1 i hi) z
    · omega
    · omega
  · rw [up_bt, up_bt, h2 i j hi hj]
    omega
  · rcases up_bt.mp hij with z | ⟨rfl, rfl⟩ | ⟨rfl, rfl⟩
    · exact h3 i j hi hj z
    · exact h
    · exact RB.sym hN (gH_sym hN) ha hb h
/-- grown from W0; r tells whether it did -/
def GW (W0 W : Nat → Nat) (r : Int32) : Prop := (∀ i j, W0 i / 2 ^ j % 2 = 1 → W i / 2 ^ j % 2 = 1) ∧ ((r = nI 0 ∧ W = W0) ∨ r = nI 1)
theorem GW.rfl' {W : Nat → Nat} : GW W W (nI 0) := ⟨fun _ _ h => h, Or.inl ⟨rfl, rfl⟩⟩
theorem GW.or {W0 W W1 : Nat → Nat} {r r1 : Int32} (a : GW W0 W r) (b : GW W W1 r1) : GW W0 W1 (r ||| r1) := by
  refine ⟨fun i j h => b.1 i j (a.1 i j h), ?_⟩
  rcases a.2 with ⟨x1, x2⟩ | x1 <;> rcases b.2 with ⟨y1, y2⟩ | y1
  · exact Or.inl ⟨by rw [x1, y1]; decide, y2.trans x2⟩
  · exact Or.inr (by rw [x1, y1]; decide)
  · exact Or.inr (by rw [x1, y1]; decide)
  · exact Or.inr (by rw [x1, y1]; decide)
theorem GW.rok {W0 W : Nat → Nat} {r : Int32} (H : GW W0 W r) : ai_rok (ai_mT am_61) r = true := by
  rcases H.2 with ⟨y, -⟩ | y <;> rw [y] <;> decide
theorem bt_ones {n j : Nat} : (2 ^ n - 1) / 2 ^ j % 2 = 1 ↔ j < n := by
  rw [← bt_tb, Nat.testBit_two_pow_sub_one, decide_eq_true_iff]
theorem l61b {X : ai_X} {h : ai_H} {p a : Nat} {bt : Int32} {N W0 : Nat → Nat} (hN : HN N) (C : CH h p N) (d27 : h[27]? = some cPa) (hp : p + 6 ≤ 27) (ha : a < N 0) {Wb : Nat → Nat} {t Pn : Nat} {c5 : Option Value} (ht : t < N 1) (hPn : Pn < 2 ^ N 0) (hPs : ∀ j, j < N 0 → Pn / 2 ^ j % 2 = 1 → RB N bt (gH N) (pl N a t * 14 + j)) (hPt : Pn = 0 ∨ ¬ nI t = bt) {P : ai_O → Prop} (z : ∀ g f W r c8 c9, Fr 29 30 h g → g[29]? = some (cI 14 f) → (∀ i, i < 14 → f i = nI (W i)) → HS N bt W → GW W0 W r → (∀ b, b ≤ a → Pn / 2 ^ pl N b t % 2 = 1 → W a / 2 ^ b % 2 = 1) → (∀ i j, Wb i / 2 ^ j % 2 = 1 → W i / 2 ^ j % 2 = 1) → Rk X am_61 90 [some (.ref 27), some (.ref p), some (.int (nI a)), some (.int bt), some (.int r), c5, some (.int (nI t)), some (.int (nI Pn)), c8, c9] [] g P) : ∀ (d : Nat) (b : Nat) (g : ai_H) (f : Nat → Int32) (W : Nat → Nat) (r : Int32) (c9 : Option Value), a + 1 < b + d → (b ≤ a + 1) → (Fr 29 30 h g) → (g[29]? = some (cI 14 f)) → (∀ i, i < 14 → f i = nI (W i)) → (HS N bt W) → (GW W0 W r) → (∀ b', b' < b → Pn / 2 ^ pl N b' t % 2 = 1 → W a / 2 ^ b' % 2 = 1) → (∀ i j, Wb i / 2 ^ j % 2 = 1 → W i / 2 ^ j % 2 = 1) → Rk X am_61 37 [some (.ref 27), some (.ref p), some (.int (nI a)), some (.int bt), some (.int r), c5, some (.int (nI t)), some (.int (nI Pn)), some (.int (nI b)), c9] [] g (P) := by
  intro d
  induction d with
  | zero => intro b g f W r c9 hd hb F c29 hf H G D K; exfalso; omega
  | succ d ih =>
    intro b g f W r c9 hd hb F c29 hf H G D K
    have C2 := C.fr2 F (by omega)
    have d0 := C2.1
    have e27 := (F.2 27 (by omega)).trans d27
    have hn := hN.n
    have h6 := hN.t
    have hp14 := hN.p14
    have F0 : Fr 29 30 h g := F
    have hWa : ∀ i, i < 14 → W i < 16384 := fun i hi => Nat.lt_of_lt_of_le (H.1 i hi) hp14
    have hWaa := hWa a (by omega)
    have hpb : b < N 0 → pl N b t < N 0 := fun y => hN.xpl y ht
    refine rk_iload rfl rfl ?_
    refine rk_iload_n rfl rfl ?_
    refine rk_icmp_gt rfl rfl (fun hc39 => ?_) (fun hc39 => ?_)
    · replace hc39 := (nI_ltI (by omega) (by omega)).mp hc39
      first
        | exact z g f W r _ _ F c29 hf H G (fun b' y1 y2 => D b' (by omega) y2) K
        | exact z g f W r _ _ F c29 hf H G (fun b' y1 y2 => absurd y2 (by rw [hc41]; exact bt_zero _)) K
    · replace hc39 := mt (nI_ltI (by omega) (by omega)).mpr hc39
      refine rk_iload rfl rfl ?_
      refine rk_if_eq rfl rfl (fun hc41 => ?_) (fun hc41 => ?_)
      · replace hc41 := (n0_eq (by omega)).mp hc41
        first
          | exact z g f W r _ _ F c29 hf H G (fun b' y1 y2 => D b' (by omega) y2) K
          | exact z g f W r _ _ F c29 hf H G (fun b' y1 y2 => absurd y2 (by rw [hc41]; exact bt_zero _)) K
      · replace hc41 := mt (n0_eq (by omega)).mpr hc41
        refine rk_aload_n rfl rfl ?_
        refine rk_get rfl (by assumption) rfl ?_
        refine rk_iload_n rfl rfl ?_
        refine rk_iald rfl (by assumption) (rfl) (by omega) (by decide) ?_
        rw [hf a (by omega)]
        refine rk_iload rfl rfl ?_
        refine rk_iushr rfl (b_ushr (by omega) (by omega)) ?_
        refine rk_iconst (v := nI 1) rfl (by decide) ?_
        refine rk_iand rfl (b_and1U _) ?_
        refine rk_if_eq rfl rfl (fun hc50 => ?_) (fun hc50 => ?_)
        · replace hc50 := (n0_eq (by omega)).mp hc50
          refine rk_iconst (v := nI 0) rfl (by decide) ?_
          refine rk_istore rfl (Nat.le_of_ble_eq_true rfl) rfl ?_
          refine rk_iload rfl rfl ?_
          refine rk_if_ne rfl rfl (fun hc56 => ?_) (fun hc56 => ?_)
          · replace hc56 := mt (n0_eq (by omega)).mpr hc56
            omega
          · replace hc56 := Decidable.not_not.mp hc56
            replace hc56 := (n0_eq (by omega)).mp hc56
            refine rk_iload rfl rfl ?_
            refine rk_aload_n rfl rfl ?_
            refine rk_iload rfl rfl ?_
            refine rk_iload rfl rfl ?_
            refine rk_cv2e rfl rfl (by assumption) rfl rfl (Nat.le_of_ble_eq_true rfl) (Nat.le_of_ble_eq_true rfl) (s27N C2 hN (by omega) ht) ?_
            have hpb' := hpb (by omega)
            refine rk_iushr rfl (b_ushr (by omega) (by omega)) ?_
            refine rk_iconst (v := nI 1) rfl (by decide) ?_
            refine rk_iand rfl (b_and1U _) ?_
            refine rk_if_eq rfl rfl (fun hc65 => ?_) (fun hc65 => ?_)
            · replace hc65 := (n0_eq (by omega)).mp hc65
              refine rk_iinc rfl rfl (n_inc _) rfl ?_
              refine rk_goto rfl rfl ?_
              first
                | exact ih (b + 1) _ _ _ _ _ (by omega) (by omega) F c29 hf H G (fun b' h1 h2 => by
                    by_cases y : b' = b
                    · subst y
                      first
                        | omega
                        | exact absurd h2 (by omega)
                    · exact D b' (by omega) h2) K
                | (refine ih (b + 1) _ _ (un (un W a (W a ||| 2 ^ b)) b (un W a (W a ||| 2 ^ b) b ||| 2 ^ a)) _ _ (by omega) (by omega) F0 c29 (fun i hi => ?_) (H.up hN ha (by omega) hRB) ⟨fun i j y => up_bt.mpr (Or.inl (G.1 i j y)), Or.inr rfl⟩ (fun b' y1 y2 => ?_) (fun i j y => up_bt.mpr (Or.inl (K i j y)))
                   · simp only [upd, un]
                     by_cases q1 : i = b
                     · rw [if_pos q1, if_pos q1]
                     · rw [if_neg q1, if_neg q1]
                       exact hf1 i hi
                   · rw [up_bt]
                     by_cases q : b' = b
                     · exact Or.inr (Or.inl ⟨rfl, q⟩)
                     · exact Or.inl (D b' (by omega) y2))
            · replace hc65 := mt (n0_eq (by omega)).mpr hc65
              have hRB : RB N bt (gH N) (a * 14 + b) := by
                rcases hPt with y | y
                · exact absurd y hc41
                · refine RB.s ht y ?_
                  rw [nxP_ab (by omega)]
                  exact hPs _ hpb' (by omega)
              have hf1 : ∀ i, i < 14 → upd f a (nI (W a ||| 2 ^ b)) i = nI (un W a (W a ||| 2 ^ b) i) := fun i hi => by
                simp only [upd, un]
                by_cases q : i = a
                · rw [if_pos q, if_pos q]
                · rw [if_neg q, if_neg q]; exact hf i hi
              refine rk_aload_n rfl rfl ?_
              refine rk_get rfl (by assumption) rfl ?_
              refine rk_iload_n rfl rfl ?_
              refine rk_dup2 rfl ?_
              refine rk_iald rfl (by assumption) (rfl) (by omega) (by decide) ?_
              rw [hf a (by omega)]
              refine rk_iconst (v := nI 1) rfl (by decide) ?_
              refine rk_iload rfl rfl ?_
              refine rk_ishl rfl (b_1shlU (by omega)) ?_
              refine rk_ior rfl (b_orU _ _) ?_
              refine rk_iast rfl c29 (rfl) (by omega) (by decide) ?_
              refine hp_gen c29 (fun h1 g1 hk1 hl1 => ?_)
              replace d0 := (hk1 _ (by omega)).trans d0
              replace e27 := (hk1 _ (by omega)).trans e27
              replace F0 := F0.tr (Fr.mk1 hk1 hl1 (by omega) (by omega))
              replace c29 := g1
              refine rk_aload_n rfl rfl ?_
              refine rk_get rfl (by assumption) rfl ?_
              refine rk_iload rfl rfl ?_
              refine rk_dup2 rfl ?_
              refine rk_iald rfl (by assumption) (rfl) (by omega) (by decide) ?_
              rw [hf1 b (by omega)]
              refine rk_iconst (v := nI 1) rfl (by decide) ?_
              refine rk_iload_n rfl rfl ?_
              refine rk_ishl rfl (b_1shlU (by omega)) ?_
              refine rk_ior rfl (b_orU _ _) ?_
              refine rk_iast rfl c29 (rfl) (by omega) (by decide) ?_
              refine hp_gen c29 (fun h1 g1 hk1 hl1 => ?_)
              replace d0 := (hk1 _ (by omega)).trans d0
              replace e27 := (hk1 _ (by omega)).trans e27
              replace F0 := F0.tr (Fr.mk1 hk1 hl1 (by omega) (by omega))
              replace c29 := g1
              refine rk_iconst (v := nI 1) rfl (by decide) ?_
              refine rk_istore rfl (Nat.le_of_ble_eq_true rfl) rfl ?_
              refine rk_iinc rfl rfl (n_inc _) rfl ?_
              refine rk_goto rfl rfl ?_
              first
                | exact ih (b + 1) _ _ _ _ _ (by omega) (by omega) F c29 hf H G (fun b' h1 h2 => by
                    by_cases y : b' = b
                    · subst y
                      first
                        | omega
                        | exact absurd h2 (by omega)
                    · exact D b' (by omega) h2) K
                | (refine ih (b + 1) _ _ (un (un W a (W a ||| 2 ^ b)) b (un W a (W a ||| 2 ^ b) b ||| 2 ^ a)) _ _ (by omega) (by omega) F0 c29 (fun i hi => ?_) (H.up hN ha (by omega) hRB) ⟨fun i j y => up_bt.mpr (Or.inl (G.1 i j y)), Or.inr rfl⟩ (fun b' y1 y2 => ?_) (fun i j y => up_bt.mpr (Or.inl (K i j y)))
                   · simp only [upd, un]
                     by_cases q1 : i = b
                     · rw [if_pos q1, if_pos q1]
                     · rw [if_neg q1, if_neg q1]
                       exact hf1 i hi
                   · rw [up_bt]
                     by_cases q : b' = b
                     · exact Or.inr (Or.inl ⟨rfl, q⟩)
                     · exact Or.inl (D b' (by omega) y2))
        · replace hc50 := mt (n0_eq (by omega)).mpr hc50
          refine rk_iconst (v := nI 1) rfl (by decide) ?_
          refine rk_goto rfl rfl ?_
          refine rk_istore rfl (Nat.le_of_ble_eq_true rfl) rfl ?_
          refine rk_iload rfl rfl ?_
          refine rk_if_ne rfl rfl (fun hc56 => ?_) (fun hc56 => ?_)
          · replace hc56 := mt (n0_eq (by omega)).mpr hc56
            refine rk_iinc rfl rfl (n_inc _) rfl ?_
            refine rk_goto rfl rfl ?_
            first
              | exact ih (b + 1) _ _ _ _ _ (by omega) (by omega) F c29 hf H G (fun b' h1 h2 => by
                  by_cases y : b' = b
                  · subst y
                    first
                      | omega
                      | exact absurd h2 (by omega)
                  · exact D b' (by omega) h2) K
              | (refine ih (b + 1) _ _ (un (un W a (W a ||| 2 ^ b)) b (un W a (W a ||| 2 ^ b) b ||| 2 ^ a)) _ _ (by omega) (by omega) F0 c29 (fun i hi => ?_) (H.up hN ha (by omega) hRB) ⟨fun i j y => up_bt.mpr (Or.inl (G.1 i j y)), Or.inr rfl⟩ (fun b' y1 y2 => ?_) (fun i j y => up_bt.mpr (Or.inl (K i j y)))
                 · simp only [upd, un]
                   by_cases q1 : i = b
                   · rw [if_pos q1, if_pos q1]
                   · rw [if_neg q1, if_neg q1]
                     exact hf1 i hi
                 · rw [up_bt]
                   by_cases q : b' = b
                   · exact Or.inr (Or.inl ⟨rfl, q⟩)
                   · exact Or.inl (D b' (by omega) y2))
          · replace hc56 := Decidable.not_not.mp hc56
            replace hc56 := (n0_eq (by omega)).mp hc56
            omega
theorem l61 {X : ai_X} {h : ai_H} {p a : Nat} {bt : Int32} {N W0 : Nat → Nat} (hN : HN N) (C : CH h p N) (d27 : h[27]? = some cPa) (hp : p + 6 ≤ 27) (ha : a < N 0) : ∀ (d : Nat) (t : Nat) (g : ai_H) (f : Nat → Int32) (W : Nat → Nat) (r : Int32) (c7 c8 c9 : Option Value), N 1 < t + d → (t ≤ N 1) → (Fr 29 30 h g) → (g[29]? = some (cI 14 f)) → (∀ i, i < 14 → f i = nI (W i)) → (HS N bt W) → (GW W0 W r) → (∀ t', t' < t → ¬ nI t' = bt → ∀ b, b ≤ a → W0 (pl N a t') / 2 ^ pl N b t' % 2 = 1 → W a / 2 ^ b % 2 = 1) → Rk X am_61 10 [some (.ref 27), some (.ref p), some (.int (nI a)), some (.int bt), some (.int r), some (.int (nI (2 * 2 ^ a - 1))), some (.int (nI t)), c7, c8, c9] [] g (Qi (fun r h1 => ∃ f W, Fr 29 30 h h1 ∧ h1[29]? = some (cI 14 f) ∧ (∀ i, i < 14 → f i = nI (W i)) ∧ HS N bt W ∧ GW W0 W r ∧ ∀ t, t < N 1 → ¬ nI t = bt → ∀ b, b ≤ a → W0 (pl N a t) / 2 ^ pl N b t % 2 = 1 → W a / 2 ^ b % 2 = 1)) := by
  intro d
  induction d with
  | zero => intro t g f W r c7 c8 c9 hd ht F c29 hf H G D; exfalso; omega
  | succ d ih =>
    intro t g f W r c7 c8 c9 hd ht F c29 hf H G D
    have C2 := C.fr2 F (by omega)
    have d0 := C2.1
    have e27 := (F.2 27 (by omega)).trans d27
    have hn := hN.n
    have h6 := hN.t
    have hp14 := hN.p14
    have F0 : Fr 29 30 h g := F
    have hWa : ∀ i, i < 14 → W i < 16384 := fun i hi => Nat.lt_of_lt_of_le (H.1 i hi) hp14
    have hWaa := hWa a (by omega)
    have h2a := b_p14 (show a ≤ 14 by omega)
    have h2p := Nat.two_pow_pos a
    have hand : W a &&& (2 * 2 ^ a - 1) ≤ 2 * 2 ^ a - 1 := Nat.and_le_right
    have hpa : t < N 1 → pl N a t < N 0 := fun y => hN.xpl ha y
    refine rk_iload rfl rfl ?_
    refine rk_aload_n rfl rfl ?_
    refine rk_get rfl (by assumption) rfl ?_
    refine rk_icmp_ge rfl rfl (fun hc13 => ?_) (fun hc13 => ?_)
    · replace hc13 := (nI_leI (by omega) (by omega)).mp hc13
      refine rk_iload rfl rfl ?_
      refine rk_ireturn rfl G.rok ⟨_, _, rfl, f, W, F, c29, hf, H, G, fun t' y1 y2 b hb y3 => ?_⟩
      first
        | exact hall b hb
        | exact D t' (by omega) y2 b hb y3
    · replace hc13 := mt (nI_leI (by omega) (by omega)).mpr hc13
      refine rk_aload_n rfl rfl ?_
      refine rk_get rfl (by assumption) rfl ?_
      refine rk_iload_n rfl rfl ?_
      refine rk_iald rfl (by assumption) (rfl) (by omega) (by decide) ?_
      rw [hf a (by omega)]
      refine rk_iload rfl rfl ?_
      refine rk_iand rfl (b_andU _ _) ?_
      refine rk_iload rfl rfl ?_
      refine rk_icmp_eq rfl rfl (fun hc21 => ?_) (fun hc21 => ?_)
      · replace hc21 := (nI_eq (by omega) (by omega)).mp hc21
        have hall : ∀ b, b ≤ a → W a / 2 ^ b % 2 = 1 := fun b hb => by
          have y : (2 ^ (a + 1) - 1) / 2 ^ b % 2 = 1 := bt_ones.mpr (by omega)
          rw [show 2 ^ (a + 1) = 2 * 2 ^ a by rw [Nat.pow_succ, Nat.mul_comm], ← hc21] at y
          exact (bt_and.mp y).1
        refine rk_iload rfl rfl ?_
        refine rk_ireturn rfl G.rok ⟨_, _, rfl, f, W, F, c29, hf, H, G, fun t' y1 y2 b hb y3 => ?_⟩
        first
          | exact hall b hb
          | exact D t' (by omega) y2 b hb y3
      · replace hc21 := mt (nI_eq (by omega) (by omega)).mpr hc21
        refine rk_iload rfl rfl ?_
        refine rk_iload_n rfl rfl ?_
        refine rk_icmp_ne rfl rfl (fun hc24 => ?_) (fun hc24 => ?_)
        · have hpa2 := hpa (by omega)
          have hPn : W (pl N a t) < 2 ^ N 0 := H.1 _ (by omega)
          have hPs : ∀ j, j < N 0 → W (pl N a t) / 2 ^ j % 2 = 1 → RB N bt (gH N) (pl N a t * 14 + j) := fun j hj y => H.2.2 _ j hpa2 hj y
          have hPt : W (pl N a t) = 0 ∨ ¬ nI t = bt := Or.inr hc24
          have hPd : ¬ nI t = bt → ∀ j, W0 (pl N a t) / 2 ^ j % 2 = 1 → W (pl N a t) / 2 ^ j % 2 = 1 := fun _ j y => G.1 _ _ y
          refine rk_aload_n rfl rfl ?_
          refine rk_get rfl (by assumption) rfl ?_
          refine rk_aload_n rfl rfl ?_
          refine rk_iload_n rfl rfl ?_
          refine rk_iload rfl rfl ?_
          refine rk_cv2e rfl rfl (by assumption) rfl rfl (Nat.le_of_ble_eq_true rfl) (Nat.le_of_ble_eq_true rfl) (s27N C2 hN ha (by omega)) ?_
          have hpa' := hpa (by omega)
          refine rk_iald rfl (by assumption) (rfl) (by omega) (by decide) ?_
          rw [hf _ (by omega)]
          have hWq := hWa (pl N a t) (by omega)
          refine rk_istore rfl (Nat.le_of_ble_eq_true rfl) rfl ?_
          refine rk_iconst (v := nI 0) rfl (by decide) ?_
          refine rk_istore rfl (Nat.le_of_ble_eq_true rfl) rfl ?_
          refine l61b (W0 := W0) (Wb := W) hN C d27 hp ha (by omega) hPn hPs hPt (fun g2 f2 W2 r2 c8 c9 F2 c292 hf2 H2 G2 D2 K2 => ?_) (a + 2) 0 g f W r _ (by omega) (by omega) F c29 hf H G (fun b' y => absurd y (by omega)) (fun _ _ y => y)
          refine rk_iinc rfl rfl (n_inc _) rfl ?_
          refine rk_goto rfl rfl ?_
          refine ih (t + 1) g2 f2 W2 r2 _ _ _ (by omega) (by omega) F2 c292 hf2 H2 G2 (fun t' y1 y2 b hb y3 => ?_)
          by_cases y : t' = t
          · subst y
            exact D2 b hb (hPd y2 _ y3)
          · exact K2 _ _ (D t' (by omega) y2 b hb y3)
        · replace hc24 := Decidable.not_not.mp hc24
          have hPn : (0 : Nat) < 2 ^ N 0 := Nat.two_pow_pos _
          have hPs : ∀ j, j < N 0 → 0 / 2 ^ j % 2 = 1 → RB N bt (gH N) (pl N a t * 14 + j) := fun j _ y => absurd y (bt_zero j)
          have hPt : (0 : Nat) = 0 ∨ ¬ nI t = bt := Or.inl rfl
          have hPd : ¬ nI t = bt → ∀ j, W0 (pl N a t) / 2 ^ j % 2 = 1 → 0 / 2 ^ j % 2 = 1 := fun y => absurd hc24 y
          refine rk_iconst (v := nI 0) rfl (by decide) ?_
          refine rk_goto rfl rfl ?_
          refine rk_istore rfl (Nat.le_of_ble_eq_true rfl) rfl ?_
          refine rk_iconst (v := nI 0) rfl (by decide) ?_
          refine rk_istore rfl (Nat.le_of_ble_eq_true rfl) rfl ?_
          refine l61b (W0 := W0) (Wb := W) hN C d27 hp ha (by omega) hPn hPs hPt (fun g2 f2 W2 r2 c8 c9 F2 c292 hf2 H2 G2 D2 K2 => ?_) (a + 2) 0 g f W r _ (by omega) (by omega) F c29 hf H G (fun b' y => absurd y (by omega)) (fun _ _ y => y)
          refine rk_iinc rfl rfl (n_inc _) rfl ?_
          refine rk_goto rfl rfl ?_
          refine ih (t + 1) g2 f2 W2 r2 _ _ _ (by omega) (by omega) F2 c292 hf2 H2 G2 (fun t' y1 y2 b hb y3 => ?_)
          by_cases y : t' = t
          · subst y
            exact D2 b hb (hPd y2 _ y3)
          · exact K2 _ _ (D t' (by omega) y2 b hb y3)
theorem s61 {X : ai_X} {h : ai_H} {p a : Nat} {bt : Int32} {N W0 : Nat → Nat} (hN : HN N) (C : CH h p N) (d27 : h[27]? = some cPa) (hp : p + 6 ≤ 27) (ha : a < N 0) {f : Nat → Int32} (c29 : h[29]? = some (cI 14 f)) (hf : ∀ i, i < 14 → f i = nI (W0 i)) (H : HS N bt W0) : Mt X am_61 [.ref 27, .ref p, .int (nI a), .int bt] h (Qi (fun r h1 => ∃ f W, Fr 29 30 h h1 ∧ h1[29]? = some (cI 14 f) ∧ (∀ i, i < 14 → f i = nI (W i)) ∧ HS N bt W ∧ GW W0 W r ∧ ∀ t, t < N 1 → ¬ nI t = bt → ∀ b, b ≤ a → W0 (pl N a t) / 2 ^ pl N b t % 2 = 1 → W a / 2 ^ b % 2 = 1)) := by
  have h2p := Nat.two_pow_pos a
  have hn := hN.n
  refine rk_iconst (v := nI 0) rfl (by decide) ?_
  refine rk_istore rfl (Nat.le_of_ble_eq_true rfl) rfl ?_
  refine rk_iconst (v := nI 2) rfl (by decide) ?_
  refine rk_iload_n rfl rfl ?_
  refine rk_ishl rfl (b_shlU _ (by omega)) ?_
  refine rk_iconst (v := nI 1) rfl (by decide) ?_
  refine rk_isub rfl (pk_sub (by omega)) ?_
  refine rk_istore rfl (Nat.le_of_ble_eq_true rfl) rfl ?_
  refine rk_iconst (v := nI 0) rfl (by decide) ?_
  refine rk_istore rfl (Nat.le_of_ble_eq_true rfl) rfl ?_
  exact l61 (W0 := W0) hN C d27 hp ha (N 1 + 1) 0 h f W0 _ _ _ _ (by omega) (Nat.zero_le _) Fr.rfl' c29 hf H GW.rfl' (fun t' y => absurd y (by omega))
abbrev WP (W : Nat → Nat) (x : Nat) : Prop := W (x / 14) / 2 ^ (x % 14) % 2 = 1
theorem WP_ab {W : Nat → Nat} {a b : Nat} (hb : b < 14) : WP W (a * 14 + b) ↔ W a / 2 ^ b % 2 = 1 := by
  have e1 : (a * 14 + b) / 14 = a := by omega
  have e2 : (a * 14 + b) % 14 = b := by omega
  show W ((a * 14 + b) / 14) / 2 ^ ((a * 14 + b) % 14) % 2 = 1 ↔ _
  rw [e1, e2]
/-- what a whole round does -/
theorem round_s {N W0 W : Nat → Nat} {bt : Int32} (hN : HN N) (H0 : HS N bt W0) (H : HS N bt W) (D : ∀ a, a < N 0 → ∀ t, t < N 1 → ¬ nI t = bt → ∀ b, b ≤ a → W0 (pl N a t) / 2 ^ pl N b t % 2 = 1 → W a / 2 ^ b % 2 = 1) : ∀ x t, vP N x → t < N 1 → ¬ nI t = bt → WP W0 (nxP N x t) → WP W x := by
  intro x t hx ht hb h
  have hn := hN.n
  obtain ⟨v1, v2, v3⟩ := vP_of hx
  have p1 := hN.xpl v1 ht
  have p2 := hN.xpl v2 ht
  have e : nxP N x t = pl N (x / 14) t * 14 + pl N (x % 14) t := by
    have := nxP_ab (N := N) (a := x / 14) (b := x % 14) (t := t) (by omega)
    rwa [v3] at this
  rw [e, WP_ab (by omega)] at h
  by_cases y : x % 14 ≤ x / 14
  · exact D _ v1 t ht hb _ y h
  · exact (H.2.1 _ _ v1 v2).mpr (D _ v2 t ht hb _ (by omega) ((H0.2.1 _ _ p1 p2).mp h))
theorem l60a {X : ai_X} {h : ai_H} {p : Nat} {bt : Int32} {N : Nat → Nat} (hN : HN N) (C : CH h p N) (d27 : h[27]? = some cPa) (hp : p + 6 ≤ 27) {W0 : Nat → Nat} {i : Nat} {P : ai_O → Prop} (z : ∀ g f W r , Fr 29 30 h g → g[29]? = some (cI 14 f) → (∀ i, i < 14 → f i = nI (W i)) → HS N bt W → GW W0 W r → (∀ a', a' < N 0 → ∀ t, t < N 1 → ¬ nI t = bt → ∀ b, b ≤ a' → W0 (pl N a' t) / 2 ^ pl N b t % 2 = 1 → W a' / 2 ^ b % 2 = 1) → Rk X am_60 40 [some (.ref 27), some (.ref p), some (.int bt), some (.int r), some (.int (nI i)), some (.int (nI (N 0)))] [] g P) : ∀ (d : Nat) (a : Nat) (g : ai_H) (f : Nat → Int32) (W : Nat → Nat) (r : Int32), N 0 < a + d → (a ≤ N 0) → (Fr 29 30 h g) → (g[29]? = some (cI 14 f)) → (∀ i, i < 14 → f i = nI (W i)) → (HS N bt W) → (GW W0 W r) → (∀ a', a' < a → ∀ t, t < N 1 → ¬ nI t = bt → ∀ b, b ≤ a' → W0 (pl N a' t) / 2 ^ pl N b t % 2 = 1 → W a' / 2 ^ b % 2 = 1) → Rk X am_60 26 [some (.ref 27), some (.ref p), some (.int bt), some (.int r), some (.int (nI i)), some (.int (nI a))] [] g (P) := by
  intro d
  induction d with
  | zero => intro a g f W r hd ha F c29 hf H G D; exfalso; omega
  | succ d ih =>
    intro a g f W r hd ha F c29 hf H G D
    have C2 := C.fr2 F (by omega)
    have d0 := C2.1
    have e27 := (F.2 27 (by omega)).trans d27
    have hn := hN.n
    have h6 := hN.t
    have hp14 := hN.p14
    have F0 : Fr 29 30 h g := F
    have hWa : ∀ i, i < 14 → W i < 16384 := fun i hi => Nat.lt_of_lt_of_le (H.1 i hi) hp14
    refine rk_iload rfl rfl ?_
    refine rk_aload_n rfl rfl ?_
    refine rk_get rfl (by assumption) rfl ?_
    refine rk_icmp_ge rfl rfl (fun hc29 => ?_) (fun hc29 => ?_)
    · replace hc29 := (nI_leI (by omega) (by omega)).mp hc29
      have ha2 : a = N 0 := by omega
      subst ha2
      exact z g f W r F c29 hf H G D
    · replace hc29 := mt (nI_leI (by omega) (by omega)).mpr hc29
      refine rk_iload_n rfl rfl ?_
      refine rk_aload_n rfl rfl ?_
      refine rk_aload_n rfl rfl ?_
      refine rk_iload rfl rfl ?_
      refine rk_iload_n rfl rfl ?_
      refine rk_cv3i rfl rfl (by assumption) rfl rfl (Nat.le_of_ble_eq_true rfl) (Nat.le_of_ble_eq_true rfl) (s61 (W0 := W) hN C2 e27 hp (by omega) c29 hf H) (fun w h1 hF => ?_)
      obtain ⟨f2, W2, F2, c292, hf2, H2, G2, D2⟩ := hF
      refine rk_ior rfl rfl ?_
      refine rk_istore_n rfl (Nat.le_of_ble_eq_true rfl) rfl ?_
      refine rk_iinc rfl rfl (n_inc _) rfl ?_
      refine rk_goto rfl rfl ?_
      refine ih (a + 1) _ f2 W2 _ (by omega) (by omega) (F.tr F2) c292 hf2 H2 (G.or G2) (fun a' y1 t y2 y3 b hb y4 => ?_)
      by_cases y : a' = a
      · subst y
        exact D2 t y2 y3 b hb (G.1 _ _ y4)
      · exact G2.1 _ _ (D a' (by omega) t y2 y3 b hb y4)
theorem l60c {X : ai_X} {h : ai_H} {p : Nat} {bt : Int32} {N : Nat → Nat} (hN : HN N) (C : CH h p N) (d27 : h[27]? = some cPa) (hp : p + 6 ≤ 27) {W : Nat → Nat} {f : Nat → Int32} (c29 : h[29]? = some (cI 14 f)) (hf : ∀ i, i < 14 → f i = nI (W i)) (H : HS N bt W) (K : ∀ x, vP N x → RB N bt (gH N) x → WP W x) {x3 : Int32} {x5 : Option Value} : ∀ (d : Nat) (i : Nat), N 0 < i + d → (i ≤ N 0) → (∀ a b, a < i → b < N 0 → W a / 2 ^ b % 2 = 1) → Rk X am_60 44 [some (.ref 27), some (.ref p), some (.int bt), some (.int x3), some (.int (nI i)), x5] [] h (Qi (fun w h1 => w = bI (hm1 N bt = true) ∧ h1 = h)) := by
  intro d
  induction d with
  | zero => intro i hd hi D; exfalso; omega
  | succ d ih =>
    intro i hd hi D
    have d0 := C.1
    have hn := hN.n
    have hp14 := hN.p14
    have h2p := Nat.two_pow_pos (N 0)
    have hWi : i < N 0 → W i < 16384 := fun y => Nat.lt_of_lt_of_le (H.1 i (by omega)) hp14
    refine rk_iload rfl rfl ?_
    refine rk_aload_n rfl rfl ?_
    refine rk_get rfl (by assumption) rfl ?_
    refine rk_icmp_ge rfl rfl (fun hc47 => ?_) (fun hc47 => ?_)
    · replace hc47 := (nI_leI (by omega) (by omega)).mp hc47
      refine rk_iconst (v := nI 1) rfl (by decide) ?_
      refine rk_ireturn rfl rfl ⟨_, _, rfl, ?_, rfl⟩
      rw [bI_t]
      · exact nI_one
      exact (hm1_iff hN).mpr (fun a b y1 y2 => H.2.2 a b y1 y2 (D a b (by omega) y2))
    · replace hc47 := mt (nI_leI (by omega) (by omega)).mpr hc47
      refine rk_aload_n rfl rfl ?_
      refine rk_get rfl (by assumption) rfl ?_
      refine rk_iload rfl rfl ?_
      refine rk_iald rfl (by assumption) (rfl) (by omega) (by decide) ?_
      rw [hf i (by omega)]
      replace hWi := hWi (by omega)
      refine rk_iconst (v := nI 1) rfl (by decide) ?_
      refine rk_aload_n rfl rfl ?_
      refine rk_get rfl (by assumption) rfl ?_
      refine rk_ishl rfl (b_1shlU (by omega)) ?_
      refine rk_iconst (v := nI 1) rfl (by decide) ?_
      refine rk_isub rfl (pk_sub (by omega)) ?_
      refine rk_icmp_eq rfl rfl (fun hc58 => ?_) (fun hc58 => ?_)
      · replace hc58 := (nI_eq (by omega) (by omega)).mp hc58
        refine rk_iinc rfl rfl (n_inc _) rfl ?_
        refine rk_goto rfl rfl ?_
        refine ih (i + 1) (by omega) (by omega) (fun a b y1 y2 => ?_)
        by_cases y : a = i
        · subst y
          rw [hc58]
          exact bt_ones.mpr y2
        · exact D a b (by omega) y2
      · replace hc58 := mt (nI_eq (by omega) (by omega)).mpr hc58
        refine rk_iconst (v := nI 0) rfl (by decide) ?_
        refine rk_ireturn rfl rfl ⟨_, _, rfl, ?_, rfl⟩
        rw [bI_f]
        · exact nI_0
        intro y
        apply hc58
        have yy := (hm1_iff hN).mp y
        refine bs_ext fun j => ?_
        rw [bt_ones]
        constructor
        · exact fun q => bt_lt (H.1 i (by omega)) q
        · exact fun q => (WP_ab (by omega)).mp (K _ (vP_ab hN (by omega) q) (yy i j (by omega) q))
theorem l60 {X : ai_X} {h : ai_H} {p : Nat} {bt : Int32} {N : Nat → Nat} (hN : HN N) (C : CH h p N) (d27 : h[27]? = some cPa) (hp : p + 6 ≤ 27) : ∀ (d : Nat) (i : Nat) (g : ai_H) (f : Nat → Int32) (W : Nat → Nat) (r : Int32) (c5 : Option Value), 197 < i + d → (i ≤ 197) → (Fr 29 30 h g) → (g[29]? = some (cI 14 f)) → (∀ i, i < 14 → f i = nI (W i)) → (HS N bt W) → (DW N bt (gH N) i (WP W)) → (r = nI 0 → ∀ x t, vP N x → t < N 1 → ¬ nI t = bt → WP W (nxP N x t) → WP W x) → (∀ x, vP N x → gH N x = true → WP W x) → Rk X am_60 17 [some (.ref 27), some (.ref p), some (.int bt), some (.int r), some (.int (nI i)), c5] [] g (Qi (fun w h1 => w = bI (hm1 N bt = true) ∧ Fr 29 30 h h1)) := by
  intro d
  induction d with
  | zero => intro i g f W r c5 hd hi F c29 hf H hw hr hb; exfalso; omega
  | succ d ih =>
    intro i g f W r c5 hd hi F c29 hf H hw hr hb
    have C2 := C.fr2 F (by omega)
    have d0 := C2.1
    have e27 := (F.2 27 (by omega)).trans d27
    have hn := hN.n
    have h6 := hN.t
    have hp14 := hN.p14
    have F0 : Fr 29 30 h g := F
    have hWa : ∀ i, i < 14 → W i < 16384 := fun i hi => Nat.lt_of_lt_of_le (H.1 i hi) hp14
    refine rk_iload rfl rfl ?_
    refine rk_sipush (v := nI 196) rfl (by decide) ?_
    refine rk_icmp_gt rfl rfl (fun hc19 => ?_) (fun hc19 => ?_)
    · replace hc19 := (nI_ltI (by omega) (by omega)).mp hc19
      have K : ∀ x, vP N x → RB N bt (gH N) x → WP W x := fun x hx y => hw.all hN (by omega) hx y
      refine rk_iconst (v := nI 0) rfl (by decide) ?_
      refine rk_istore rfl (Nat.le_of_ble_eq_true rfl) rfl ?_
      refine (l60c (h := g) hN C2 e27 hp c29 hf H K (N 0 + 1) 0 (by omega) (Nat.zero_le _) (fun a b y => absurd y (by omega))).mono ?_
      rintro o ⟨w, h2, rfl, q, rfl⟩
      exact ⟨_, _, rfl, q, F⟩
    · replace hc19 := mt (nI_ltI (by omega) (by omega)).mpr hc19
      refine rk_iload_n rfl rfl ?_
      refine rk_if_eq rfl rfl (fun hc21 => ?_) (fun hc21 => ?_)
      · have K : ∀ x, vP N x → RB N bt (gH N) x → WP W x := fun x hx y => RB.min (W := WP W) hN hb (hr (hc21.trans nI_0.symm)) hx y
        refine rk_iconst (v := nI 0) rfl (by decide) ?_
        refine rk_istore rfl (Nat.le_of_ble_eq_true rfl) rfl ?_
        refine (l60c (h := g) hN C2 e27 hp c29 hf H K (N 0 + 1) 0 (by omega) (Nat.zero_le _) (fun a b y => absurd y (by omega))).mono ?_
        rintro o ⟨w, h2, rfl, q, rfl⟩
        exact ⟨_, _, rfl, q, F⟩
      · refine rk_iconst (v := nI 0) rfl (by decide) ?_
        refine rk_istore_n rfl (Nat.le_of_ble_eq_true rfl) rfl ?_
        refine rk_iconst (v := nI 0) rfl (by decide) ?_
        refine rk_istore rfl (Nat.le_of_ble_eq_true rfl) rfl ?_
        refine l60a (W0 := W) hN C d27 hp (fun g2 f2 W2 r2 F2 c292 hf2 H2 G2 D2 => ?_) (N 0 + 1) 0 g f W _ (by omega) (Nat.zero_le _) F c29 hf H GW.rfl' (fun a' y => absurd y (by omega))
        refine rk_iinc rfl rfl (n_inc _) rfl ?_
        refine rk_goto rfl rfl ?_
        have hrs := round_s hN H H2 D2
        refine ih (i + 1) g2 f2 W2 r2 _ (by omega) (by omega) F2 c292 hf2 H2 (hw.s hN (fun x _ y => G2.1 _ _ y) hrs) (fun y => ?_) (fun x hx y => G2.1 _ _ (hb x hx y))
        rcases G2.2 with ⟨-, q⟩ | q
        · rw [q] at hrs ⊢
          exact hrs
        · rw [q] at y
          exact absurd y (by decide)
theorem s60 {X : ai_X} {h : ai_H} {p : Nat} {bt : Int32} {N : Nat → Nat} (hN : HN N) (C : CH h p N) (d27 : h[27]? = some cPa) (hp : p + 6 ≤ 27) (h0 : ¬ N 0 = 0) (S29 : ShI h 29 14) : Mt X am_60 [.ref 27, .ref p, .int bt] h (Qi (fun w h1 => w = bI (hm1 N bt = true) ∧ Fr 29 30 h h1)) := by
  obtain ⟨f29, c29⟩ := S29
  have d0 := C.1
  have hn := hN.n
  have hpn := hN.pan
  have hpl : N 270 < N 0 := by have := hN.2.2.1; omega
  refine rk_aload_n rfl rfl ?_
  refine rk_get rfl (by assumption) rfl ?_
  refine rk_iconst (v := nI 0) rfl (by decide) ?_
  refine rk_cs2v rfl rfl rfl (Nat.le_of_ble_eq_true rfl) (Nat.le_of_ble_eq_true rfl) (s292 (v := nI 0) (by decide) c29) (fun h1 hF => ?_)
  obtain ⟨F1, f1, d29, hf1⟩ := hF
  have e27 := (F1.2 27 (by omega)).trans d27
  have C2 := C.fr2 F1 (by omega)
  have e0 := C2.1
  have F2 := F1
  refine rk_aload_n rfl rfl ?_
  refine rk_get rfl (by assumption) rfl ?_
  refine rk_aload_n rfl rfl ?_
  refine rk_get rfl (by assumption) rfl ?_
  refine rk_iconst (v := nI 1) rfl (by decide) ?_
  refine rk_aload_n rfl rfl ?_
  refine rk_get rfl (by assumption) rfl ?_
  refine rk_ishl rfl (b_1shlU (by omega)) ?_
  refine rk_iast rfl d29 (rfl) (by omega) (by decide) ?_
  refine hp_gen d29 (fun h1 g1 hk1 hl1 => ?_)
  replace e0 := (hk1 _ (by omega)).trans e0
  replace e27 := (hk1 _ (by omega)).trans e27
  replace F2 := F2.tr (Fr.mk1 hk1 hl1 (by omega) (by omega))
  have C3 : CH h1 p N := C2.fr2 (Fr.mk1 hk1 hl1 (Nat.le_refl 29) (show 29 < 30 by omega)) (by omega)
  replace d29 := g1
  refine rk_iconst (v := nI 1) rfl (by decide) ?_
  refine rk_istore_n rfl (Nat.le_of_ble_eq_true rfl) rfl ?_
  refine rk_iconst (v := nI 0) rfl (by decide) ?_
  refine rk_istore rfl (Nat.le_of_ble_eq_true rfl) rfl ?_
  have hW : ∀ i j, un (fun _ => 0) (N 270) (2 ^ N 270) i / 2 ^ j % 2 = 1 ↔ i = N 270 ∧ j = N 270 := fun i j => by
    by_cases y : i = N 270
    · subst y; rw [un_s, bt_pow]; omega
    · rw [un_n y]
      constructor
      · exact fun q => absurd q (bt_zero j)
      · exact fun q => absurd q.1 y
  have hb : ∀ x, vP N x → gH N x = true → WP (un (fun _ => 0) (N 270) (2 ^ N 270)) x := fun x hx y => by
    have := of_decide_eq_true y
    rw [this, WP_ab (by omega), hW]
    exact ⟨rfl, rfl⟩
  refine (l60 (h := h1) hN C3 e27 hp 198 0 _ _ (un (fun _ => 0) (N 270) (2 ^ N 270)) _ _ (by omega) (by omega) Fr.rfl' d29 (fun i hi => ?_) ⟨fun i hi => bs_lt fun j q => ?_, fun a b y1 y2 => ?_, fun a b y1 y2 y3 => ?_⟩ (DW.z hb) (fun y => absurd y (by decide)) hb).mono ?_
  · simp only [upd, un]
    by_cases y : i = N 270
    · rw [if_pos y, if_pos y]
    · rw [if_neg y, if_neg y]; exact hf1 i hi
  · have := (hW i j).mp q
    omega
  · rw [hW, hW]; omega
  · have := (hW a b).mp y3
    refine RB.z (decide_eq_true ?_)
    rw [this.1, this.2]
  · rintro o ⟨w, h3, rfl, q, F5⟩
    exact ⟨_, _, rfl, q, F2.tr F5⟩
