/-! SIGHT: what is told by signs; the class -/
def bsel (p : Nat → Bool) : Nat → Nat
  | 0 => 0
  | n + 1 => if p n = true then bsel p n ||| 2 ^ n else bsel p n
theorem bt_bsel {p : Nat → Bool} {b : Nat} : ∀ n, bsel p n / 2 ^ b % 2 = 1 ↔ b < n ∧ p b = true
  | 0 => ⟨fun h => absurd h (bt_zero b), fun h => absurd h.1 (by omega)⟩
  | n + 1 => by
    have ih := bt_bsel (p := p) (b := b) n
    rw [bsel]
    by_cases h : p n = true
    · rw [if_pos h, bt_or, bt_pow, ih]
      constructor
      · rintro (z | z)
        · exact ⟨by omega, z.2⟩
        · subst z; exact ⟨by omega, h⟩
      · rintro ⟨z1, z2⟩
        by_cases q : b = n
        · exact Or.inr q.symm
        · exact Or.inl ⟨by omega, z2⟩
    · rw [if_neg h, ih]
      constructor
      · exact fun z => ⟨by omega, z.2⟩
      · rintro ⟨z1, z2⟩
        by_cases q : b = n
        · subst q; exact absurd z2 h
        · exact ⟨by omega, z2⟩
theorem bsel_lt {p : Nat → Bool} {n m : Nat} (h : n ≤ m) : bsel p n < 2 ^ m := bs_lt fun k hk => by
  have := (bt_bsel n).mp hk
  omega
theorem bsel_14 {N : Nat → Nat} {p : Nat → Bool} {n : Nat} (hN : HN N) (h : n ≤ N 0) : bsel p n < 16384 := Nat.lt_of_lt_of_le (bsel_lt h) hN.p14
theorem bsel_f {p : Nat → Bool} (h : ∀ i, ¬ p i = true) : ∀ n, bsel p n = 0
  | 0 => rfl
  | n + 1 => by rw [bsel, if_neg (h n)]; exact bsel_f h n
theorem bsel_and {p q r : Nat → Bool} {n : Nat} (h : ∀ b, b < n → (r b = true ↔ p b = true ∧ q b = true)) : bsel p n &&& bsel q n = bsel r n := bs_ext fun k => by
  rw [bt_and, bt_bsel, bt_bsel, bt_bsel]
  constructor
  · rintro ⟨⟨a, b⟩, -, c⟩
    exact ⟨a, (h k a).mpr ⟨b, c⟩⟩
  · rintro ⟨a, b⟩
    have := (h k a).mp b
    exact ⟨⟨a, this.1⟩, a, this.2⟩
def dif (a b : Nat) : Nat := a ^^^ (a &&& b)
theorem bt_dif {a b k : Nat} : dif a b / 2 ^ k % 2 = 1 ↔ a / 2 ^ k % 2 = 1 ∧ ¬ b / 2 ^ k % 2 = 1 := by
  rw [← bt_tb, ← bt_tb, ← bt_tb, dif, Nat.testBit_xor, Nat.testBit_and]
  cases a.testBit k <;> cases b.testBit k <;> simp
theorem and_notI (x y : Int32) : x &&& (y ^^^ (-1)) = x ^^^ (x &&& y) := by
  apply Int32.toBitVec_inj.mp
  rw [Int32.toBitVec_and, Int32.toBitVec_xor, Int32.toBitVec_xor, Int32.toBitVec_and]
  apply BitVec.eq_of_getLsbD_eq
  intro i hi
  have h1 : (Int32.toBitVec (-1)).getLsbD i = true := by
    have : (Int32.toBitVec (-1)) = BitVec.allOnes 32 := by decide
    rw [this, BitVec.getLsbD_allOnes]
    exact decide_eq_true hi
  rw [BitVec.getLsbD_and, BitVec.getLsbD_xor, BitVec.getLsbD_xor, BitVec.getLsbD_and, h1]
  cases x.toBitVec.getLsbD i <;> cases y.toBitVec.getLsbD i <;> rfl
theorem and_not (a b : Nat) : nI a &&& (nI b ^^^ (-1)) = nI (dif a b) := by
  rw [and_notI, b_andU, b_xorU]; rfl
theorem dif_lt {a b n : Nat} (h : a < 2 ^ n) : dif a b < 2 ^ n := bs_lt fun k hk => bt_lt h (bt_dif.mp hk).1
theorem bs_ne {a : Nat} : ¬ a = 0 ↔ ∃ k, a / 2 ^ k % 2 = 1 := by
  constructor
  · intro h
    apply Classical.byContradiction
    intro z
    apply h
    refine bs_ext fun k => ⟨fun y => absurd ⟨k, y⟩ z, fun y => absurd y (bt_zero k)⟩
  · rintro ⟨k, hk⟩ z
    rw [z] at hk
    exact bt_zero k hk
/-- the same signs up to here -/
def sab (N x : Nat → Nat) (r b : Nat) : Nat → Bool
  | 0 => decide (sg N b = sg N r)
  | k + 1 => sab N x r b k && decide (sg N (bh N x b (k + 1)) = sg N (bh N x r (k + 1)))
def ut (N : Nat → Nat) (S : Nat) (x : Nat → Nat) (k r : Nat) : Nat := bsel (fun b => decide (S / 2 ^ b % 2 = 1) && sab N x r b k) (N 0)
theorem ut_0 {N x : Nat → Nat} {S r : Nat} (hS : S < 2 ^ N 0) : S &&& bsel (fun b => decide (sg N b = sg N r)) (N 0) = ut N S x 0 r := bs_ext fun k => by
  rw [bt_and, bt_bsel, ut, bt_bsel, Bool.and_eq_true]
  exact ⟨fun z => ⟨z.2.1, decide_eq_true z.1, z.2.2⟩, fun z => ⟨of_decide_eq_true z.2.1, z.1, z.2.2⟩⟩
theorem ut_s {N x : Nat → Nat} {S k r : Nat} : ut N S x k r &&& bsel (fun b => decide (sg N (bh N x b (k + 1)) = sg N (bh N x r (k + 1)))) (N 0) = ut N S x (k + 1) r := bsel_and fun b _ => by
  show (decide (S / 2 ^ b % 2 = 1) && (sab N x r b k && decide (sg N (bh N x b (k + 1)) = sg N (bh N x r (k + 1))))) = true ↔ _
  rw [Bool.and_eq_true, Bool.and_eq_true, Bool.and_eq_true]
  exact ⟨fun z => ⟨⟨z.1, z.2.1⟩, z.2.2⟩, fun z => ⟨z.1.1, z.1.2, z.2⟩⟩
theorem bh_cg {N x y : Nat → Nat} {r : Nat} : ∀ k, (∀ i, i < k → x i = y i) → bh N x r k = bh N y r k
  | 0, _ => rfl
  | k + 1, h => by rw [bh, bh, bh_cg k (fun i hi => h i (by omega)), h k (by omega)]
theorem sab_cg {N x y : Nat → Nat} {r b : Nat} : ∀ k, (∀ i, i < k → x i = y i) → sab N x r b k = sab N y r b k
  | 0, _ => rfl
  | k + 1, h => by rw [sab, sab, sab_cg k (fun i hi => h i (by omega)), bh_cg (k + 1) h, bh_cg (k + 1) h]
theorem ut_cg {N x y : Nat → Nat} {S k r : Nat} (h : ∀ i, i < k → x i = y i) : ut N S x k r = ut N S y k r := by
  unfold ut
  rw [show (fun b => decide (S / 2 ^ b % 2 = 1) && sab N x r b k) = fun b => decide (S / 2 ^ b % 2 = 1) && sab N y r b k from funext fun b => by rw [sab_cg k h]]
def dcn (p : Nat → Bool) : Nat → Nat
  | 0 => 0
  | n + 1 => dcn p n + (if p n = true then 1 else 0)
theorem dcn_cg {p q : Nat → Bool} : ∀ n, (∀ i, i < n → p i = q i) → dcn p n = dcn q n
  | 0, _ => rfl
  | n + 1, h => by rw [dcn, dcn, dcn_cg n (fun i hi => h i (by omega)), h n (by omega)]
theorem dcn_le (p : Nat → Bool) : ∀ n, dcn p n ≤ n
  | 0 => Nat.le_refl _
  | n + 1 => by have := dcn_le p n; rw [dcn]; split <;> omega
/-- one in doubt -/
def dbt (N : Nat → Nat) (S : Nat) (x : Nat → Nat) (k : Nat) (now : Bool) (r : Nat) : Bool := decide (S / 2 ^ r % 2 = 1) && any (fun b => (decide (S / 2 ^ b % 2 = 1) && sab N x r b k) && (decide (¬ b = r) && !(now && decide (bh N x b k = bh N x r k)))) (N 0)
abbrev dbs (N : Nat → Nat) (S : Nat) (x : Nat → Nat) (k : Nat) (now : Bool) : Nat := dcn (dbt N S x k now) (N 0)
theorem dbs_cg {N x y : Nat → Nat} {S k : Nat} {now : Bool} (h : ∀ i, i < k → x i = y i) : dbs N S x k now = dbs N S y k now := by
  refine dcn_cg _ (fun i _ => ?_)
  unfold dbt
  rw [show (fun b => (decide (S / 2 ^ b % 2 = 1) && sab N x i b k) && (decide (¬ b = i) && !(now && decide (bh N x b k = bh N x i k)))) = fun b => (decide (S / 2 ^ b % 2 = 1) && sab N y i b k) && (decide (¬ b = i) && !(now && decide (bh N y b k = bh N y i k))) from funext fun b => by rw [sab_cg k h, bh_cg k h, bh_cg k h]]
def bsp (sp : Nat → Nat) (now : Bool) (y n : Nat) : Nat := bsel (fun b => now && decide (sp b = y)) n
/-- as the class counts it -/
def dbc (S : Nat) (U sp : Nat → Nat) (now : Bool) (n r : Nat) : Bool := decide (S / 2 ^ r % 2 = 1) && decide (¬ dif (dif (U r) (2 ^ r)) (bsp sp now (sp r) n) = 0)
theorem dbc_dbt {N x : Nat → Nat} {S k r : Nat} {now : Bool} : dbc S (ut N S x k) (fun r => bh N x r k) now (N 0) r = dbt N S x k now r := by
  unfold dbc dbt
  congr 1
  rw [Bool.eq_iff_iff, decide_eq_true_iff, bs_ne, any_iff]
  constructor
  · rintro ⟨b, hb⟩
    rw [bt_dif, bt_dif, ut, bt_bsel, bt_pow, bsp, bt_bsel] at hb
    obtain ⟨⟨⟨b1, b2⟩, b3⟩, b4⟩ := hb
    refine ⟨b, b1, ?_⟩
    rw [b2, Bool.true_and, Bool.and_eq_true, decide_eq_true_iff, Bool.not_eq_true']
    refine ⟨fun z => b3 z.symm, ?_⟩
    rw [Bool.eq_false_iff]
    exact fun z => b4 ⟨b1, z⟩
  · rintro ⟨b, hb, h2⟩
    obtain ⟨h2a, h2b⟩ := (Bool.and_eq_true _ _ ▸ h2 : _ ∧ _)
    obtain ⟨h2c, h2d⟩ := (Bool.and_eq_true _ _ ▸ h2b : _ ∧ _)
    rw [Bool.not_eq_true', Bool.eq_false_iff] at h2d
    refine ⟨b, ?_⟩
    rw [bt_dif, bt_dif, ut, bt_bsel, bt_pow, bsp, bt_bsel]
    exact ⟨⟨⟨hb, h2a⟩, fun z => of_decide_eq_true h2c z.symm⟩, fun z => h2d z.2⟩
abbrev cSg : ai_C := .inr (9, [.ref 3, .ref 37, .ref 38, .ref 39, .ref 40])
theorem l125a {X : ai_X} {h : ai_H} {N : Nat → Nat} {lev : Nat} {sp u : Nat → Nat} {f37 f38 : Nat → Int32} (hN : HN N) (C : CH h 3 N) (d36 : h[36]? = some cSg) (hlev : lev < 6) (c37 : h[37]? = some (cI 84 f37)) (h37 : ∀ r, r < N 0 → f37 (lev * 14 + r) = nI (sp r)) (hsp : ∀ r, r < N 0 → sp r < N 0) {P : ai_O → Prop} (z : ∀ g f39 c2, Fr 39 40 h g → g[39]? = some (cI 10 f39) → (∀ s, s < 10 → f39 s = nI (bsel (fun b => decide (sg N (sp b) = s)) (N 0))) → Rk X am_125 33 [some (.ref 36), some (.int (nI lev)), c2] [] g P) : ∀ (d : Nat) (r : Nat) (g : ai_H) (f39 : Nat → Int32), N 0 < r + d → (r ≤ N 0) → (Fr 39 40 h g) → (g[39]? = some (cI 10 f39)) → (∀ s, s < 10 → f39 s = nI (bsel (fun b => decide (sg N (sp b) = s)) r)) → Rk X am_125 6 [some (.ref 36), some (.int (nI lev)), some (.int (nI r))] [] g (P) := by
  intro d
  induction d with
  | zero => intro r g f39 hd hr F c39 h39; exfalso; omega
  | succ d ih =>
    intro r g f39 hd hr F c39 h39
    have C2 := C.fr2 F (by omega)
    have e3 := C2.1
    have e36 := (F.2 36 (by omega)).trans d36
    have e37 := (F.2 37 (by omega)).trans c37
    have hn := hN.n
    have F0 : Fr 39 40 h g := F
    refine rk_iload_n rfl rfl ?_
    refine rk_aload_n rfl rfl ?_
    refine rk_get rfl (by assumption) rfl ?_
    refine rk_get rfl (by assumption) rfl ?_
    refine rk_icmp_ge rfl rfl (fun hc10 => ?_) (fun hc10 => ?_)
    · replace hc10 := (nI_leI (by omega) (by omega)).mp hc10
      have hr2 : r = N 0 := by omega
      subst hr2
      exact z g f39 _ F c39 h39
    · replace hc10 := mt (nI_leI (by omega) (by omega)).mpr hc10
      refine rk_aload_n rfl rfl ?_
      refine rk_get rfl (by assumption) rfl ?_
      refine rk_aload_n rfl rfl ?_
      refine rk_get rfl (by assumption) rfl ?_
      refine rk_aload_n rfl rfl ?_
      refine rk_get rfl (by assumption) rfl ?_
      refine rk_iload_n rfl rfl ?_
      refine rk_bipush (v := nI 14) rfl (by decide) ?_
      refine rk_imul rfl (pk_mul _ _) ?_
      refine rk_iload_n rfl rfl ?_
      refine rk_iadd rfl (nI_add _ _) ?_
      refine rk_iald rfl (by assumption) (rfl) (by omega) (by decide) ?_
      rw [h37 r (by omega)]
      have hspr := hsp r (by omega)
      have hsg := hN.xsg (r := sp r) (by omega)
      refine rk_cv1e rfl rfl (by assumption) rfl rfl (Nat.le_of_ble_eq_true rfl) (Nat.le_of_ble_eq_true rfl) (s30N C2 (by omega)) ?_
      refine rk_dup2 rfl ?_
      refine rk_iald rfl (by assumption) (rfl) (by omega) (by decide) ?_
      rw [h39 _ hsg]
      refine rk_iconst (v := nI 1) rfl (by decide) ?_
      refine rk_iload_n rfl rfl ?_
      refine rk_ishl rfl (b_1shlU (by omega)) ?_
      refine rk_ior rfl (b_orU _ _) ?_
      refine rk_iast rfl c39 (rfl) (by omega) (by decide) ?_
      refine hp_gen c39 (fun h1 g1 hk1 hl1 => ?_)
      replace e3 := (hk1 _ (by omega)).trans e3
      replace e36 := (hk1 _ (by omega)).trans e36
      replace e37 := (hk1 _ (by omega)).trans e37
      replace C2 := C2.fr (fun q _ _ => hk1 q (by omega))
      replace F0 := F0.tr (Fr.mk1 hk1 hl1 (by omega) (by omega))
      replace c39 := g1
      refine rk_iinc rfl rfl (n_inc _) rfl ?_
      refine rk_goto rfl rfl ?_
      refine ih (r + 1) _ _ (by omega) (by omega) F0 c39 (fun s hs => ?_)
      simp only [upd]
      rw [bsel]
      by_cases q : s = sg N (sp r)
      · rw [if_pos q, if_pos (decide_eq_true q.symm), q]
      · rw [if_neg q, if_neg (fun y => q (of_decide_eq_true y).symm)]
        exact h39 s hs
theorem l125b {X : ai_X} {h : ai_H} {N : Nat → Nat} {lev : Nat} {sp u : Nat → Nat} {f37 f38 : Nat → Int32} (hN : HN N) (C : CH h 3 N) (d36 : h[36]? = some cSg) (hlev : lev < 6) (c37 : h[37]? = some (cI 84 f37)) (h37 : ∀ r, r < N 0 → f37 (lev * 14 + r) = nI (sp r)) (hsp : ∀ r, r < N 0 → sp r < N 0) {f39 : Nat → Int32} (c39 : h[39]? = some (cI 10 f39)) (h39 : ∀ s, s < 10 → f39 s = nI (bsel (fun b => decide (sg N (sp b) = s)) (N 0))) : ∀ (d : Nat) (r : Nat) (g : ai_H) (f : Nat → Int32), N 0 < r + d → (r ≤ N 0) → (Fr 38 39 h g) → (g[38]? = some (cI 84 f)) → (∀ r', r' < N 0 → f (lev * 14 + r') = nI (if r' < r then (u r' &&& bsel (fun b => decide (sg N (sp b) = sg N (sp r'))) (N 0)) else u r')) → (∀ q, q < lev * 14 → f q = f38 q) → Rk X am_125 35 [some (.ref 36), some (.int (nI lev)), some (.int (nI r))] [] g (Qv (fun h1 => Fr 38 39 h h1 ∧ ∃ f, h1[38]? = some (cI 84 f) ∧ (∀ r, r < N 0 → f (lev * 14 + r) = nI (u r &&& bsel (fun b => decide (sg N (sp b) = sg N (sp r))) (N 0))) ∧ ∀ q, q < lev * 14 → f q = f38 q)) := by
  intro d
  induction d with
  | zero => intro r g f hd hr F c38 h38 hq; exfalso; omega
  | succ d ih =>
    intro r g f hd hr F c38 h38 hq
    have C2 := C.fr2 F (by omega)
    have e3 := C2.1
    have e36 := (F.2 36 (by omega)).trans d36
    have e37 := (F.2 37 (by omega)).trans c37
    have hn := hN.n
    have F0 : Fr 38 39 h g := F
    have e39 := (F.2 39 (by omega)).trans c39
    refine rk_iload_n rfl rfl ?_
    refine rk_aload_n rfl rfl ?_
    refine rk_get rfl (by assumption) rfl ?_
    refine rk_get rfl (by assumption) rfl ?_
    refine rk_icmp_ge rfl rfl (fun hc39 => ?_) (fun hc39 => ?_)
    · replace hc39 := (nI_leI (by omega) (by omega)).mp hc39
      exact rk_return rfl rfl ⟨_, rfl, F, f, c38, fun r' hr' => (h38 r' hr').trans (by rw [if_pos (by omega)]), hq⟩
    · replace hc39 := mt (nI_leI (by omega) (by omega)).mpr hc39
      refine rk_aload_n rfl rfl ?_
      refine rk_get rfl (by assumption) rfl ?_
      refine rk_iload_n rfl rfl ?_
      refine rk_bipush (v := nI 14) rfl (by decide) ?_
      refine rk_imul rfl (pk_mul _ _) ?_
      refine rk_iload_n rfl rfl ?_
      refine rk_iadd rfl (nI_add _ _) ?_
      refine rk_dup2 rfl ?_
      refine rk_iald rfl (by assumption) (rfl) (by omega) (by decide) ?_
      rw [h38 r (by omega), if_neg (by omega)]
      refine rk_aload_n rfl rfl ?_
      refine rk_get rfl (by assumption) rfl ?_
      refine rk_aload_n rfl rfl ?_
      refine rk_get rfl (by assumption) rfl ?_
      refine rk_aload_n rfl rfl ?_
      refine rk_get rfl (by assumption) rfl ?_
      refine rk_iload_n rfl rfl ?_
      refine rk_bipush (v := nI 14) rfl (by decide) ?_
      refine rk_imul rfl (pk_mul _ _) ?_
      refine rk_iload_n rfl rfl ?_
      refine rk_iadd rfl (nI_add _ _) ?_
      refine rk_iald rfl (by assumption) (rfl) (by omega) (by decide) ?_
      rw [h37 r (by omega)]
      have hspr := hsp r (by omega)
      have hsg := hN.xsg (r := sp r) (by omega)
      refine rk_cv1e rfl rfl (by assumption) rfl rfl (Nat.le_of_ble_eq_true rfl) (Nat.le_of_ble_eq_true rfl) (s30N C2 (by omega)) ?_
      refine rk_iald rfl (by assumption) (rfl) (by omega) (by decide) ?_
      rw [h39 _ hsg]
      refine rk_iand rfl (b_andU _ _) ?_
      refine rk_iast rfl c38 (rfl) (by omega) (by decide) ?_
      refine hp_gen c38 (fun h1 g1 hk1 hl1 => ?_)
      replace e3 := (hk1 _ (by omega)).trans e3
      replace e36 := (hk1 _ (by omega)).trans e36
      replace e37 := (hk1 _ (by omega)).trans e37
      replace e39 := (hk1 _ (by omega)).trans e39
      replace C2 := C2.fr (fun q _ _ => hk1 q (by omega))
      replace F0 := F0.tr (Fr.mk1 hk1 hl1 (by omega) (by omega))
      replace c38 := g1
      refine rk_iinc rfl rfl (n_inc _) rfl ?_
      refine rk_goto rfl rfl ?_
      refine ih (r + 1) _ _ (by omega) (by omega) F0 c38 (fun r' hr' => ?_) (fun q hq1 => ?_)
      · simp only [upd]
        by_cases q : r' = r
        · subst q; rw [if_pos rfl, if_pos (by omega)]
        · rw [if_neg (by omega), h38 r' hr']
          by_cases y : r' < r
          · rw [if_pos y, if_pos (by omega)]
          · rw [if_neg y, if_neg (by omega)]
      · simp only [upd]; rw [if_neg (by omega)]; exact hq q hq1
theorem s125 {X : ai_X} {h : ai_H} {N : Nat → Nat} {lev : Nat} {sp u : Nat → Nat} {f37 f38 : Nat → Int32} (hN : HN N) (C : CH h 3 N) (d36 : h[36]? = some cSg) (hlev : lev < 6) (c37 : h[37]? = some (cI 84 f37)) (h37 : ∀ r, r < N 0 → f37 (lev * 14 + r) = nI (sp r)) (hsp : ∀ r, r < N 0 → sp r < N 0) (c38 : h[38]? = some (cI 84 f38)) (h38 : ∀ r, r < N 0 → f38 (lev * 14 + r) = nI (u r)) (S39 : ShI h 39 10) : Mt X am_125 [.ref 36, .int (nI lev)] h (Qv (fun h1 => Fr 38 40 h h1 ∧ ∃ f, h1[38]? = some (cI 84 f) ∧ (∀ r, r < N 0 → f (lev * 14 + r) = nI (u r &&& bsel (fun b => decide (sg N (sp b) = sg N (sp r))) (N 0))) ∧ ∀ q, q < lev * 14 → f q = f38 q)) := by
  obtain ⟨f39, c39⟩ := S39
  have e3 := C.1
  refine rk_aload_n rfl rfl ?_
  refine rk_get rfl (by assumption) rfl ?_
  refine rk_iconst (v := nI 0) rfl (by decide) ?_
  refine rk_cs2v rfl rfl rfl (Nat.le_of_ble_eq_true rfl) (Nat.le_of_ble_eq_true rfl) (s292 (v := nI 0) (by decide) c39) (fun h1 hF => ?_)
  obtain ⟨F1, f1, d39, hf1⟩ := hF
  refine rk_iconst (v := nI 0) rfl (by decide) ?_
  refine rk_istore_n rfl (Nat.le_of_ble_eq_true rfl) rfl ?_
  refine l125a (h := h) (f38 := f38) (u := u) hN C d36 hlev c37 h37 hsp (fun g f2 c2 F2 e39 hf2 => ?_) (N 0 + 1) 0 _ f1 (by omega) (Nat.zero_le _) (F1.mono (by omega) (by omega)) d39 (fun s hs => hf1 s hs)
  refine rk_iconst (v := nI 0) rfl (by decide) ?_
  refine rk_istore_n rfl (Nat.le_of_ble_eq_true rfl) rfl ?_
  refine (l125b (h := g) (f38 := f38) (u := u) hN (C.fr2 F2 (by omega)) ((F2.2 36 (by omega)).trans d36) hlev ((F2.2 37 (by omega)).trans c37) h37 hsp e39 hf2 (N 0 + 1) 0 _ f38 (by omega) (Nat.zero_le _) Fr.rfl' ((F2.2 38 (by omega)).trans c38) (fun r' hr' => by rw [if_neg (by omega)]; exact h38 r' hr') (fun _ _ => rfl)).mono ?_
  rintro o ⟨h3, rfl, F3, f, y1, y2, y3⟩
  exact ⟨_, rfl, (F2.mono (by omega) (by omega)).tr (F3.mono (by omega) (by omega)), f, y1, y2, y3⟩
theorem l123 {X : ai_X} {h : ai_H} {N : Nat → Nat} {S : Nat} (hN : HN N) (C : CH h 3 N) (d36 : h[36]? = some cSg) {P : ai_O → Prop} (z : ∀ g f37 f38 c2, Fr 37 39 h g → g[37]? = some (cI 84 f37) → g[38]? = some (cI 84 f38) → (∀ r, r < N 0 → f37 r = nI r ∧ f38 r = nI S) → Rk X am_123 19 [some (.ref 36), some (.int (nI S)), c2] [] g P) : ∀ (d : Nat) (r : Nat) (g : ai_H) (f37 f38 : Nat → Int32), N 0 < r + d → (r ≤ N 0) → (Fr 37 39 h g) → (g[37]? = some (cI 84 f37)) → (g[38]? = some (cI 84 f38)) → (∀ r', r' < r → f37 r' = nI r' ∧ f38 r' = nI S) → Rk X am_123 2 [some (.ref 36), some (.int (nI S)), some (.int (nI r))] [] g (P) := by
  intro d
  induction d with
  | zero => intro r g f37 f38 hd hr F c37 c38 hf; exfalso; omega
  | succ d ih =>
    intro r g f37 f38 hd hr F c37 c38 hf
    have C2 := C.fr2 F (by omega)
    have e3 := C2.1
    have e36 := (F.2 36 (by omega)).trans d36
    have hn := hN.n
    have F0 : Fr 37 39 h g := F
    refine rk_iload_n rfl rfl ?_
    refine rk_aload_n rfl rfl ?_
    refine rk_get rfl (by assumption) rfl ?_
    refine rk_get rfl (by assumption) rfl ?_
    refine rk_icmp_ge rfl rfl (fun hc6 => ?_) (fun hc6 => ?_)
    · replace hc6 := (nI_leI (by omega) (by omega)).mp hc6
      have hr2 : r = N 0 := by omega
      subst hr2
      exact z g f37 f38 _ F c37 c38 hf
    · replace hc6 := mt (nI_leI (by omega) (by omega)).mpr hc6
      refine rk_aload_n rfl rfl ?_
      refine rk_get rfl (by assumption) rfl ?_
      refine rk_iload_n rfl rfl ?_
      refine rk_iload_n rfl rfl ?_
      refine rk_iast rfl c37 (rfl) (by omega) (by decide) ?_
      refine hp_gen c37 (fun h1 g1 hk1 hl1 => ?_)
      replace e3 := (hk1 _ (by omega)).trans e3
      replace e36 := (hk1 _ (by omega)).trans e36
      replace C2 := C2.fr (fun q _ _ => hk1 q (by omega))
      replace F0 := F0.tr (Fr.mk1 hk1 hl1 (by omega) (by omega))
      replace c38 := (hk1 _ (by omega)).trans c38
      replace c37 := g1
      refine rk_aload_n rfl rfl ?_
      refine rk_get rfl (by assumption) rfl ?_
      refine rk_iload_n rfl rfl ?_
      refine rk_iload_n rfl rfl ?_
      refine rk_iast rfl c38 (rfl) (by omega) (by decide) ?_
      refine hp_gen c38 (fun h1 g1 hk1 hl1 => ?_)
      replace e3 := (hk1 _ (by omega)).trans e3
      replace e36 := (hk1 _ (by omega)).trans e36
      replace C2 := C2.fr (fun q _ _ => hk1 q (by omega))
      replace F0 := F0.tr (Fr.mk1 hk1 hl1 (by omega) (by omega))
      replace c37 := (hk1 _ (by omega)).trans c37
      replace c38 := g1
      refine rk_iinc rfl rfl (n_inc _) rfl ?_
      refine rk_goto rfl rfl ?_
      refine ih (r + 1) _ _ _ (by omega) (by omega) F0 c37 c38 (fun r' hr' => ?_)
      simp only [upd]
      by_cases q : r' = r
      · rw [if_pos q, if_pos q, q]; exact ⟨rfl, rfl⟩
      · rw [if_neg q, if_neg q]; exact hf r' (by omega)
/-- at a level: behind k tones -/
def SSt (h : ai_H) (N : Nat → Nat) (S : Nat) (x : Nat → Nat) (lev k : Nat) : Prop := ∃ f37 f38, h[37]? = some (cI 84 f37) ∧ h[38]? = some (cI 84 f38) ∧ ∀ r, r < N 0 → f37 (lev * 14 + r) = nI (bh N x r k) ∧ f38 (lev * 14 + r) = nI (ut N S x k r)
theorem s123 {X : ai_X} {h : ai_H} {N : Nat → Nat} {S : Nat} (hN : HN N) (C : CH h 3 N) (d36 : h[36]? = some cSg) {x : Nat → Nat} (hS : S < 2 ^ N 0) (S37 : ShI h 37 84) (S38 : ShI h 38 84) (S39 : ShI h 39 10) : Mt X am_123 [.ref 36, .int (nI S)] h (Qv (fun h1 => Fr 37 40 h h1 ∧ SSt h1 N S x 0 0)) := by
  obtain ⟨f37, c37⟩ := S37
  obtain ⟨f38, c38⟩ := S38
  have hn := hN.n
  refine rk_iconst (v := nI 0) rfl (by decide) ?_
  refine rk_istore_n rfl (Nat.le_of_ble_eq_true rfl) rfl ?_
  refine l123 (h := h) hN C d36 (fun g f1 f2 c2 F d37 d38 hf => ?_) (N 0 + 1) 0 h f37 f38 (by omega) (Nat.zero_le _) Fr.rfl' c37 c38 (fun r' y => absurd y (by omega))
  have e36 := (F.2 36 (by omega)).trans d36
  refine rk_aload_n rfl rfl ?_
  refine rk_iconst (v := nI 0) rfl (by decide) ?_
  refine rk_cv1v rfl rfl (by assumption) rfl rfl (Nat.le_of_ble_eq_true rfl) (Nat.le_of_ble_eq_true rfl) (s125 (lev := 0) (sp := fun r => r) (u := fun _ => S) hN (C.fr2 F (by omega)) e36 (by omega) d37 (fun r hr => by rw [Nat.zero_mul, Nat.zero_add]; exact (hf r hr).1) (fun r hr => hr) d38 (fun r hr => by rw [Nat.zero_mul, Nat.zero_add]; exact (hf r hr).2) (S39.fr (F.2 39 (by omega)))) (fun h1 hF => ?_)
  obtain ⟨F2, f3, y1, y2, y3⟩ := hF
  refine rk_return rfl rfl ⟨_, rfl, (F.mono (by omega) (by omega)).tr (F2.mono (by omega) (by omega)), f1, f3, (F2.2 37 (by omega)).trans d37, y1, fun r hr => ⟨?_, ?_⟩⟩
  · rw [Nat.zero_mul, Nat.zero_add]; exact (hf r hr).1
  · rw [y2 r hr, ut_0 (x := x) hS]
theorem l124 {X : ai_X} {h : ai_H} {N : Nat → Nat} {la lb t : Nat} {sp u : Nat → Nat} {f37 f38 : Nat → Int32} (hN : HN N) (C : CH h 3 N) (d36 : h[36]? = some cSg) (hla : lb < 6) (hlb : lb = la ∨ lb = la + 1) (ht : t < N 1) (h37 : ∀ r, r < N 0 → f37 (la * 14 + r) = nI (sp r)) (h38 : ∀ r, r < N 0 → f38 (la * 14 + r) = nI (u r)) (hsp : ∀ r, r < N 0 → sp r < N 0) {P : ai_O → Prop} (z : ∀ g g37 g38 c4, Fr 37 39 h g → g[37]? = some (cI 84 g37) → g[38]? = some (cI 84 g38) → (∀ r, r < N 0 → g37 (lb * 14 + r) = nI (pl N (sp r) t) ∧ g38 (lb * 14 + r) = nI (u r)) → (∀ q, q < lb * 14 → g37 q = f37 q ∧ g38 q = f38 q) → Rk X am_124 45 [some (.ref 36), some (.int (nI la)), some (.int (nI lb)), some (.int (nI t)), c4] [] g P) : ∀ (d : Nat) (r : Nat) (g : ai_H) (g37 g38 : Nat → Int32), N 0 < r + d → (r ≤ N 0) → (Fr 37 39 h g) → (g[37]? = some (cI 84 g37)) → (g[38]? = some (cI 84 g38)) → (∀ r', r' < r → g37 (lb * 14 + r') = nI (pl N (sp r') t) ∧ g38 (lb * 14 + r') = nI (u r')) → (∀ r', r ≤ r' → r' < N 0 → g37 (la * 14 + r') = nI (sp r') ∧ g38 (la * 14 + r') = nI (u r')) → (∀ q, q < lb * 14 → g37 q = f37 q ∧ g38 q = f38 q) → Rk X am_124 2 [some (.ref 36), some (.int (nI la)), some (.int (nI lb)), some (.int (nI t)), some (.int (nI r))] [] g (P) := by
  intro d
  induction d with
  | zero => intro r g g37 g38 hd hr F c37 c38 hd hn2 hq; exfalso; omega
  | succ d ih =>
    intro r g g37 g38 hd hr F c37 c38 hd hn2 hq
    have C2 := C.fr2 F (by omega)
    have e3 := C2.1
    have e36 := (F.2 36 (by omega)).trans d36
    have hn := hN.n
    have F0 : Fr 37 39 h g := F
    refine rk_iload rfl rfl ?_
    refine rk_aload_n rfl rfl ?_
    refine rk_get rfl (by assumption) rfl ?_
    refine rk_get rfl (by assumption) rfl ?_
    refine rk_icmp_ge rfl rfl (fun hc6 => ?_) (fun hc6 => ?_)
    · replace hc6 := (nI_leI (by omega) (by omega)).mp hc6
      have hr2 : r = N 0 := by omega
      subst hr2
      exact z g g37 g38 _ F c37 c38 hd hq
    · replace hc6 := mt (nI_leI (by omega) (by omega)).mpr hc6
      refine rk_aload_n rfl rfl ?_
      refine rk_get rfl (by assumption) rfl ?_
      refine rk_iload_n rfl rfl ?_
      refine rk_bipush (v := nI 14) rfl (by decide) ?_
      refine rk_imul rfl (pk_mul _ _) ?_
      refine rk_iload rfl rfl ?_
      refine rk_iadd rfl (nI_add _ _) ?_
      refine rk_aload_n rfl rfl ?_
      refine rk_get rfl (by assumption) rfl ?_
      refine rk_aload_n rfl rfl ?_
      refine rk_get rfl (by assumption) rfl ?_
      refine rk_iload_n rfl rfl ?_
      refine rk_bipush (v := nI 14) rfl (by decide) ?_
      refine rk_imul rfl (pk_mul _ _) ?_
      refine rk_iload rfl rfl ?_
      refine rk_iadd rfl (nI_add _ _) ?_
      refine rk_iald rfl (by assumption) (rfl) (by omega) (by decide) ?_
      rw [(hn2 r (Nat.le_refl _) (by omega)).1]
      have hspr := hsp r (by omega)
      refine rk_iload_n rfl rfl ?_
      refine rk_cv2e rfl rfl (by assumption) rfl rfl (Nat.le_of_ble_eq_true rfl) (Nat.le_of_ble_eq_true rfl) (s27N C2 hN hspr ht) ?_
      refine rk_iast rfl c37 (rfl) (by omega) (by decide) ?_
      refine hp_gen c37 (fun h1 g1 hk1 hl1 => ?_)
      replace e3 := (hk1 _ (by omega)).trans e3
      replace e36 := (hk1 _ (by omega)).trans e36
      replace C2 := C2.fr (fun q _ _ => hk1 q (by omega))
      replace F0 := F0.tr (Fr.mk1 hk1 hl1 (by omega) (by omega))
      replace c38 := (hk1 _ (by omega)).trans c38
      replace c37 := g1
      refine rk_aload_n rfl rfl ?_
      refine rk_get rfl (by assumption) rfl ?_
      refine rk_iload_n rfl rfl ?_
      refine rk_bipush (v := nI 14) rfl (by decide) ?_
      refine rk_imul rfl (pk_mul _ _) ?_
      refine rk_iload rfl rfl ?_
      refine rk_iadd rfl (nI_add _ _) ?_
      have hu1 : g38 (la * 14 + r) = nI (u r) := (hn2 r (Nat.le_refl _) (by omega)).2
      refine rk_aload_n rfl rfl ?_
      refine rk_get rfl (by assumption) rfl ?_
      refine rk_iload_n rfl rfl ?_
      refine rk_bipush (v := nI 14) rfl (by decide) ?_
      refine rk_imul rfl (pk_mul _ _) ?_
      refine rk_iload rfl rfl ?_
      refine rk_iadd rfl (nI_add _ _) ?_
      refine rk_iald rfl (by assumption) (rfl) (by omega) (by decide) ?_
      rw [hu1]
      refine rk_iast rfl c38 (rfl) (by omega) (by decide) ?_
      refine hp_gen c38 (fun h1 g1 hk1 hl1 => ?_)
      replace e3 := (hk1 _ (by omega)).trans e3
      replace e36 := (hk1 _ (by omega)).trans e36
      replace C2 := C2.fr (fun q _ _ => hk1 q (by omega))
      replace F0 := F0.tr (Fr.mk1 hk1 hl1 (by omega) (by omega))
      replace c37 := (hk1 _ (by omega)).trans c37
      replace c38 := g1
      refine rk_iinc rfl rfl (n_inc _) rfl ?_
      refine rk_goto rfl rfl ?_
      refine ih (r + 1) _ _ _ (by omega) (by omega) F0 c37 c38 (fun r' hr' => ?_) (fun r' a1 a2 => ?_) (fun q hq1 => ?_)
      · simp only [upd]
        by_cases q : r' = r
        · subst q; rw [if_pos rfl, if_pos rfl]; exact ⟨rfl, rfl⟩
        · rw [if_neg (by omega), if_neg (by omega)]; exact hd r' (by omega)
      · simp only [upd]
        rw [if_neg (by omega), if_neg (by omega)]
        exact hn2 r' (by omega) a2
      · simp only [upd]
        rw [if_neg (by omega), if_neg (by omega)]
        exact hq q hq1
theorem s124 {X : ai_X} {h : ai_H} {N : Nat → Nat} {la lb t : Nat} {sp u : Nat → Nat} {f37 f38 : Nat → Int32} (hN : HN N) (C : CH h 3 N) (d36 : h[36]? = some cSg) (hla : lb < 6) (hlb : lb = la ∨ lb = la + 1) (ht : t < N 1) (h37 : ∀ r, r < N 0 → f37 (la * 14 + r) = nI (sp r)) (h38 : ∀ r, r < N 0 → f38 (la * 14 + r) = nI (u r)) (hsp : ∀ r, r < N 0 → sp r < N 0) (c37 : h[37]? = some (cI 84 f37)) (c38 : h[38]? = some (cI 84 f38)) (S39 : ShI h 39 10) : Mt X am_124 [.ref 36, .int (nI la), .int (nI lb), .int (nI t)] h (Qv (fun h1 => Fr 37 40 h h1 ∧ ∃ g37 g38, h1[37]? = some (cI 84 g37) ∧ h1[38]? = some (cI 84 g38) ∧ (∀ r, r < N 0 → g37 (lb * 14 + r) = nI (pl N (sp r) t) ∧ g38 (lb * 14 + r) = nI (u r &&& bsel (fun b => decide (sg N (pl N (sp b) t) = sg N (pl N (sp r) t))) (N 0))) ∧ ∀ q, q < lb * 14 → g37 q = f37 q ∧ g38 q = f38 q)) := by
  have hn := hN.n
  refine rk_iconst (v := nI 0) rfl (by decide) ?_
  refine rk_istore rfl (Nat.le_of_ble_eq_true rfl) rfl ?_
  refine l124 (h := h) (f37 := f37) (f38 := f38) hN C d36 hla hlb ht h37 h38 hsp (fun g g37 g38 c4 F d37 d38 hd hq => ?_) (N 0 + 1) 0 h f37 f38 (by omega) (Nat.zero_le _) Fr.rfl' c37 c38 (fun r' y => absurd y (by omega)) (fun r' _ hr' => ⟨h37 r' hr', h38 r' hr'⟩) (fun _ _ => ⟨rfl, rfl⟩)
  have e36 := (F.2 36 (by omega)).trans d36
  refine rk_aload_n rfl rfl ?_
  refine rk_iload_n rfl rfl ?_
  refine rk_cv1v rfl rfl (by assumption) rfl rfl (Nat.le_of_ble_eq_true rfl) (Nat.le_of_ble_eq_true rfl) (s125 (lev := lb) (sp := fun r => pl N (sp r) t) (u := u) hN (C.fr2 F (by omega)) e36 hla d37 (fun r hr => (hd r hr).1) (fun r hr => hN.xpl (hsp r hr) ht) d38 (fun r hr => (hd r hr).2) (S39.fr (F.2 39 (by omega)))) (fun h1 hF => ?_)
  obtain ⟨F2, f3, y1, y2, y3⟩ := hF
  exact rk_return rfl rfl ⟨_, rfl, (F.mono (by omega) (by omega)).tr (F2.mono (by omega) (by omega)), g37, f3, (F2.2 37 (by omega)).trans d37, y1, fun r hr => ⟨(hd r hr).1, y2 r hr⟩, fun q hq1 => ⟨(hq q hq1).1, (y3 q hq1).trans (hq q hq1).2⟩⟩
theorem l126a {X : ai_X} {h : ai_H} {N : Nat → Nat} {S lev : Nat} {sp U : Nat → Nat} {now : Bool} {f37 f38 : Nat → Int32} (hN : HN N) (C : CH h 3 N) (d36 : h[36]? = some cSg) (hlev : lev < 6) (c37 : h[37]? = some (cI 84 f37)) (c38 : h[38]? = some (cI 84 f38)) (h37 : ∀ r, r < N 0 → f37 (lev * 14 + r) = nI (sp r)) (h38 : ∀ r, r < N 0 → f38 (lev * 14 + r) = nI (U r)) (hsp : ∀ r, r < N 0 → sp r < N 0) (hU : ∀ r, r < N 0 → U r < 2 ^ N 0) (hS : S < 2 ^ N 0) {x5 x6 : Option Value} {P : ai_O → Prop} (z : ∀ g f40 c4, Fr 40 41 h g → g[40]? = some (cI 14 f40) → (∀ y, y < 14 → f40 y = nI (bsp sp now y (N 0))) → Rk X am_126 32 [some (.ref 36), some (.int (nI lev)), some (.int (nI S)), some (.int (bI (now = true))), c4, x5, x6] [] g P) : ∀ (d : Nat) (r : Nat) (g : ai_H) (f40 : Nat → Int32), N 0 < r + d → (r ≤ N 0) → (Fr 40 41 h g) → (g[40]? = some (cI 14 f40)) → (∀ y, y < 14 → f40 y = nI (bsp sp now y r)) → Rk X am_126 6 [some (.ref 36), some (.int (nI lev)), some (.int (nI S)), some (.int (bI (now = true))), some (.int (nI r)), x5, x6] [] g (P) := by
  intro d
  induction d with
  | zero => intro r g f40 hd hr F c40 h40; exfalso; omega
  | succ d ih =>
    intro r g f40 hd hr F c40 h40
    have C2 := C.fr2 F (by omega)
    have e3 := C2.1
    have e36 := (F.2 36 (by omega)).trans d36
    have e37 := (F.2 37 (by omega)).trans c37
    have e38 := (F.2 38 (by omega)).trans c38
    have hn := hN.n
    have hp14 := hN.p14
    have F0 : Fr 40 41 h g := F
    refine rk_iload rfl rfl ?_
    refine rk_aload_n rfl rfl ?_
    refine rk_get rfl (by assumption) rfl ?_
    refine rk_get rfl (by assumption) rfl ?_
    refine rk_icmp_ge rfl rfl (fun hc10 => ?_) (fun hc10 => ?_)
    · replace hc10 := (nI_leI (by omega) (by omega)).mp hc10
      refine z g f40 _ F c40 (fun y hy => ?_)
      rw [h40 y hy]
      first
        | rw [show r = N 0 by omega]
        | (have hf : ∀ i, ¬ (now && decide (sp i = y)) = true := fun i q => hc12 (Bool.and_eq_true _ _ ▸ q).1
           rw [bsp, bsp, bsel_f hf, bsel_f hf])
    · replace hc10 := mt (nI_leI (by omega) (by omega)).mpr hc10
      refine rk_iload_n rfl rfl ?_
      refine rk_if_eq rfl rfl (fun hc12 => ?_) (fun hc12 => ?_)
      · replace hc12 := (bI_0).mp hc12
        refine z g f40 _ F c40 (fun y hy => ?_)
        rw [h40 y hy]
        first
          | rw [show r = N 0 by omega]
          | (have hf : ∀ i, ¬ (now && decide (sp i = y)) = true := fun i q => hc12 (Bool.and_eq_true _ _ ▸ q).1
             rw [bsp, bsp, bsel_f hf, bsel_f hf])
      · replace hc12 := Decidable.not_not.mp (mt bI_0.mpr hc12)
        refine rk_aload_n rfl rfl ?_
        refine rk_get rfl (by assumption) rfl ?_
        refine rk_aload_n rfl rfl ?_
        refine rk_get rfl (by assumption) rfl ?_
        refine rk_iload_n rfl rfl ?_
        refine rk_bipush (v := nI 14) rfl (by decide) ?_
        refine rk_imul rfl (pk_mul _ _) ?_
        refine rk_iload rfl rfl ?_
        refine rk_iadd rfl (nI_add _ _) ?_
        refine rk_iald rfl (by assumption) (rfl) (by omega) (by decide) ?_
        rw [h37 r (by omega)]
        have hspr := hsp r (by omega)
        refine rk_dup2 rfl ?_
        refine rk_iald rfl (by assumption) (rfl) (by omega) (by decide) ?_
        rw [h40 _ (by omega)]
        refine rk_iconst (v := nI 1) rfl (by decide) ?_
        refine rk_iload rfl rfl ?_
        refine rk_ishl rfl (b_1shlU (by omega)) ?_
        refine rk_ior rfl (b_orU _ _) ?_
        refine rk_iast rfl c40 (rfl) (by omega) (by decide) ?_
        refine hp_gen c40 (fun h1 g1 hk1 hl1 => ?_)
        replace e3 := (hk1 _ (by omega)).trans e3
        replace e36 := (hk1 _ (by omega)).trans e36
        replace e37 := (hk1 _ (by omega)).trans e37
        replace e38 := (hk1 _ (by omega)).trans e38
        replace C2 := C2.fr (fun q _ _ => hk1 q (by omega))
        replace F0 := F0.tr (Fr.mk1 hk1 hl1 (by omega) (by omega))
        replace c40 := g1
        refine rk_iinc rfl rfl (n_inc _) rfl ?_
        refine rk_goto rfl rfl ?_
        refine ih (r + 1) _ _ (by omega) (by omega) F0 c40 (fun y hy => ?_)
        simp only [upd]
        rw [show bsp sp now y (r + 1) = if (now && decide (sp r = y)) = true then bsp sp now y r ||| 2 ^ r else bsp sp now y r from rfl]
        by_cases q : y = sp r
        · rw [if_pos q, if_pos (by rw [hc12, q]; exact decide_eq_true rfl), q]
        · rw [if_neg q, if_neg (by rw [hc12]; exact fun z => q (of_decide_eq_true z).symm)]
          exact h40 y hy
theorem l126b {X : ai_X} {h : ai_H} {N : Nat → Nat} {S lev : Nat} {sp U : Nat → Nat} {now : Bool} {f37 f38 : Nat → Int32} (hN : HN N) (C : CH h 3 N) (d36 : h[36]? = some cSg) (hlev : lev < 6) (c37 : h[37]? = some (cI 84 f37)) (c38 : h[38]? = some (cI 84 f38)) (h37 : ∀ r, r < N 0 → f37 (lev * 14 + r) = nI (sp r)) (h38 : ∀ r, r < N 0 → f38 (lev * 14 + r) = nI (U r)) (hsp : ∀ r, r < N 0 → sp r < N 0) (hU : ∀ r, r < N 0 → U r < 2 ^ N 0) (hS : S < 2 ^ N 0) {f40 : Nat → Int32} (c40 : h[40]? = some (cI 14 f40)) (h40 : ∀ y, y < 14 → f40 y = nI (bsp sp now y (N 0))) : ∀ (d : Nat) (r : Nat) (c6 : Option Value), N 0 < r + d → (r ≤ N 0) → Rk X am_126 36 [some (.ref 36), some (.int (nI lev)), some (.int (nI S)), some (.int (bI (now = true))), some (.int (nI (dcn (dbc S U sp now (N 0)) r))), some (.int (nI r)), c6] [] h (Qe (nI (dcn (dbc S U sp now (N 0)) (N 0))) h) := by
  intro d
  induction d with
  | zero => intro r c6 hd hr; exfalso; omega
  | succ d ih =>
    intro r c6 hd hr
    have F : Fr 40 41 h h := Fr.rfl'
    have C2 := C.fr2 F (by omega)
    have e3 := C2.1
    have e36 := (F.2 36 (by omega)).trans d36
    have e37 := (F.2 37 (by omega)).trans c37
    have e38 := (F.2 38 (by omega)).trans c38
    have hn := hN.n
    have hp14 := hN.p14
    have hdl := dcn_le (dbc S U sp now (N 0)) r
    have hb1 : r < N 0 → dif (dif (U r) (2 ^ r)) (bsp sp now (sp r) (N 0)) < 2 ^ N 0 := fun y => dif_lt (dif_lt (hU r y))
    refine rk_iload rfl rfl ?_
    refine rk_aload_n rfl rfl ?_
    refine rk_get rfl (by assumption) rfl ?_
    refine rk_get rfl (by assumption) rfl ?_
    refine rk_icmp_ge rfl rfl (fun hc40 => ?_) (fun hc40 => ?_)
    · replace hc40 := (nI_leI (by omega) (by omega)).mp hc40
      refine rk_iload rfl rfl ?_
      exact rk_ireturn rfl rfl (Qe_of (by rw [show r = N 0 by omega]))
    · replace hc40 := mt (nI_leI (by omega) (by omega)).mpr hc40
      refine rk_aload_n rfl rfl ?_
      refine rk_get rfl (by assumption) rfl ?_
      refine rk_iload_n rfl rfl ?_
      refine rk_bipush (v := nI 14) rfl (by decide) ?_
      refine rk_imul rfl (pk_mul _ _) ?_
      refine rk_iload rfl rfl ?_
      refine rk_iadd rfl (nI_add _ _) ?_
      refine rk_iald rfl (by assumption) (rfl) (by omega) (by decide) ?_
      rw [h38 r (by omega)]
      refine rk_iconst (v := nI 1) rfl (by decide) ?_
      refine rk_iload rfl rfl ?_
      refine rk_ishl rfl (b_1shlU (by omega)) ?_
      refine rk_iconst (v := (-1)) rfl (by decide) ?_
      refine rk_ixor rfl rfl ?_
      refine rk_iand rfl (and_not _ _) ?_
      refine rk_istore rfl (Nat.le_of_ble_eq_true rfl) rfl ?_
      refine rk_iload rfl rfl ?_
      refine rk_aload_n rfl rfl ?_
      refine rk_get rfl (by assumption) rfl ?_
      refine rk_aload_n rfl rfl ?_
      refine rk_get rfl (by assumption) rfl ?_
      refine rk_iload_n rfl rfl ?_
      refine rk_bipush (v := nI 14) rfl (by decide) ?_
      refine rk_imul rfl (pk_mul _ _) ?_
      refine rk_iload rfl rfl ?_
      refine rk_iadd rfl (nI_add _ _) ?_
      refine rk_iald rfl (by assumption) (rfl) (by omega) (by decide) ?_
      rw [h37 r (by omega)]
      have hspr := hsp r (by omega)
      replace hb1 := hb1 (by omega)
      refine rk_iald rfl (by assumption) (rfl) (by omega) (by decide) ?_
      rw [h40 _ (by omega)]
      refine rk_iconst (v := (-1)) rfl (by decide) ?_
      refine rk_ixor rfl rfl ?_
      refine rk_iand rfl (and_not _ _) ?_
      refine rk_istore rfl (Nat.le_of_ble_eq_true rfl) rfl ?_
      refine rk_iload_n rfl rfl ?_
      refine rk_iload rfl rfl ?_
      refine rk_iushr rfl (b_ushr (by omega) (by omega)) ?_
      refine rk_iconst (v := nI 1) rfl (by decide) ?_
      refine rk_iand rfl (b_and1U _) ?_
      refine rk_if_eq rfl rfl (fun hc77 => ?_) (fun hc77 => ?_)
      · replace hc77 := (n0_eq (by omega)).mp hc77
        refine rk_iinc rfl rfl (n_inc _) rfl ?_
        refine rk_goto rfl rfl ?_
        first
          | (have hd1 : dbc S U sp now (N 0) r = true := by
               unfold dbc
               rw [Bool.and_eq_true, decide_eq_true_iff, decide_eq_true_iff]
               exact ⟨by omega, hc79⟩
             have zz := ih (r + 1) (some (.int (nI (dif (dif (U r) (2 ^ r)) (bsp sp now (sp r) (N 0)))))) (by omega) (by omega)
             rw [dcn, if_pos hd1] at zz
             exact zz)
          | (have hd0 : ¬ dbc S U sp now (N 0) r = true := by
               unfold dbc
               rw [Bool.and_eq_true, decide_eq_true_iff, decide_eq_true_iff]
               first
                 | exact fun q => absurd q.1 (by omega)
                 | exact fun q => q.2 hc79
             have zz := ih (r + 1) (some (.int (nI (dif (dif (U r) (2 ^ r)) (bsp sp now (sp r) (N 0)))))) (by omega) (by omega)
             rw [dcn, if_neg hd0, Nat.add_zero] at zz
             exact zz)
      · replace hc77 := mt (n0_eq (by omega)).mpr hc77
        refine rk_iload rfl rfl ?_
        refine rk_if_eq rfl rfl (fun hc79 => ?_) (fun hc79 => ?_)
        · replace hc79 := (n0_eq (by omega)).mp hc79
          refine rk_iinc rfl rfl (n_inc _) rfl ?_
          refine rk_goto rfl rfl ?_
          first
            | (have hd1 : dbc S U sp now (N 0) r = true := by
                 unfold dbc
                 rw [Bool.and_eq_true, decide_eq_true_iff, decide_eq_true_iff]
                 exact ⟨by omega, hc79⟩
               have zz := ih (r + 1) (some (.int (nI (dif (dif (U r) (2 ^ r)) (bsp sp now (sp r) (N 0)))))) (by omega) (by omega)
               rw [dcn, if_pos hd1] at zz
               exact zz)
            | (have hd0 : ¬ dbc S U sp now (N 0) r = true := by
                 unfold dbc
                 rw [Bool.and_eq_true, decide_eq_true_iff, decide_eq_true_iff]
                 first
                   | exact fun q => absurd q.1 (by omega)
                   | exact fun q => q.2 hc79
               have zz := ih (r + 1) (some (.int (nI (dif (dif (U r) (2 ^ r)) (bsp sp now (sp r) (N 0)))))) (by omega) (by omega)
               rw [dcn, if_neg hd0, Nat.add_zero] at zz
               exact zz)
        · replace hc79 := mt (n0_eq (by omega)).mpr hc79
          refine rk_iinc rfl rfl (n_inc _) rfl ?_
          refine rk_iinc rfl rfl (n_inc _) rfl ?_
          refine rk_goto rfl rfl ?_
          first
            | (have hd1 : dbc S U sp now (N 0) r = true := by
                 unfold dbc
                 rw [Bool.and_eq_true, decide_eq_true_iff, decide_eq_true_iff]
                 exact ⟨by omega, hc79⟩
               have zz := ih (r + 1) (some (.int (nI (dif (dif (U r) (2 ^ r)) (bsp sp now (sp r) (N 0)))))) (by omega) (by omega)
               rw [dcn, if_pos hd1] at zz
               exact zz)
            | (have hd0 : ¬ dbc S U sp now (N 0) r = true := by
                 unfold dbc
                 rw [Bool.and_eq_true, decide_eq_true_iff, decide_eq_true_iff]
                 first
                   | exact fun q => absurd q.1 (by omega)
                   | exact fun q => q.2 hc79
               have zz := ih (r + 1) (some (.int (nI (dif (dif (U r) (2 ^ r)) (bsp sp now (sp r) (N 0)))))) (by omega) (by omega)
               rw [dcn, if_neg hd0, Nat.add_zero] at zz
               exact zz)
theorem s126 {X : ai_X} {h : ai_H} {N : Nat → Nat} {S lev : Nat} {sp U : Nat → Nat} {now : Bool} {f37 f38 : Nat → Int32} (hN : HN N) (C : CH h 3 N) (d36 : h[36]? = some cSg) (hlev : lev < 6) (c37 : h[37]? = some (cI 84 f37)) (c38 : h[38]? = some (cI 84 f38)) (h37 : ∀ r, r < N 0 → f37 (lev * 14 + r) = nI (sp r)) (h38 : ∀ r, r < N 0 → f38 (lev * 14 + r) = nI (U r)) (hsp : ∀ r, r < N 0 → sp r < N 0) (hU : ∀ r, r < N 0 → U r < 2 ^ N 0) (hS : S < 2 ^ N 0) (S40 : ShI h 40 14) : Mt X am_126 [.ref 36, .int (nI lev), .int (nI S), .int (bI (now = true))] h (Qi (fun w h1 => w = nI (dcn (dbc S U sp now (N 0)) (N 0)) ∧ Fr 40 41 h h1)) := by
  obtain ⟨f40, c40⟩ := S40
  refine rk_aload_n rfl rfl ?_
  refine rk_get rfl (by assumption) rfl ?_
  refine rk_iconst (v := nI 0) rfl (by decide) ?_
  refine rk_cs2v rfl rfl rfl (Nat.le_of_ble_eq_true rfl) (Nat.le_of_ble_eq_true rfl) (s292 (v := nI 0) (by decide) c40) (fun h1 hF => ?_)
  obtain ⟨F1, f1, d40, hf1⟩ := hF
  refine rk_iconst (v := nI 0) rfl (by decide) ?_
  refine rk_istore rfl (Nat.le_of_ble_eq_true rfl) rfl ?_
  refine l126a (h := h) hN C d36 hlev c37 c38 h37 h38 hsp hU hS (fun g f2 c4 F2 e40 hf2 => ?_) (N 0 + 1) 0 _ f1 (by omega) (Nat.zero_le _) (F1.mono (by omega) (by omega)) d40 (fun y hy => hf1 y hy)
  refine rk_iconst (v := nI 0) rfl (by decide) ?_
  refine rk_istore rfl (Nat.le_of_ble_eq_true rfl) rfl ?_
  refine rk_iconst (v := nI 0) rfl (by decide) ?_
  refine rk_istore rfl (Nat.le_of_ble_eq_true rfl) rfl ?_
  refine (l126b (h := g) hN (C.fr2 F2 (by omega)) ((F2.2 36 (by omega)).trans d36) hlev ((F2.2 37 (by omega)).trans c37) ((F2.2 38 (by omega)).trans c38) h37 h38 hsp hU hS e40 hf2 (N 0 + 1) 0 _ (by omega) (Nat.zero_le _)).mono ?_
  rintro o ⟨w, h3, rfl, rfl, rfl⟩
  exact ⟨_, _, rfl, rfl, F2⟩
theorem s124S {X : ai_X} {h : ai_H} {N x : Nat → Nat} {S la lb k : Nat} (hN : HN N) (C : CH h 3 N) (d36 : h[36]? = some cSg) (hla : lb < 6) (hlb : lb = la ∨ lb = la + 1) (hx : ∀ i, i < k + 1 → x i < N 1) (H : SSt h N S x la k) (S39 : ShI h 39 10) : Mt X am_124 [.ref 36, .int (nI la), .int (nI lb), .int (nI (x k))] h (Qv (fun h1 => Fr 37 40 h h1 ∧ SSt h1 N S x lb (k + 1))) := by
  obtain ⟨f37, f38, c37, c38, hf⟩ := H
  refine (s124 (sp := fun r => bh N x r k) (u := ut N S x k) hN C d36 hla hlb (hx k (by omega)) (fun r hr => (hf r hr).1) (fun r hr => (hf r hr).2) (fun r hr => bh_lt hN hr k (fun j hj => hx j (by omega))) c37 c38 S39).mono ?_
  rintro o ⟨h1, rfl, F, g37, g38, y1, y2, y3, -⟩
  refine ⟨_, rfl, F, g37, g38, y1, y2, fun r hr => ⟨(y3 r hr).1, ?_⟩⟩
  rw [(y3 r hr).2]
  exact congrArg nI (ut_s (N := N) (x := x) (S := S) (k := k) (r := r))
theorem s126S {X : ai_X} {h : ai_H} {N x : Nat → Nat} {S lev k : Nat} {now : Bool} (hN : HN N) (C : CH h 3 N) (d36 : h[36]? = some cSg) (hlev : lev < 6) (hx : ∀ i, i < k → x i < N 1) (H : SSt h N S x lev k) (hS : S < 2 ^ N 0) (S40 : ShI h 40 14) : Mt X am_126 [.ref 36, .int (nI lev), .int (nI S), .int (bI (now = true))] h (Qi (fun w h1 => w = nI (dbs N S x k now) ∧ Fr 40 41 h h1)) := by
  obtain ⟨f37, f38, c37, c38, hf⟩ := H
  refine (s126 (sp := fun r => bh N x r k) (U := ut N S x k) hN C d36 hlev c37 c38 (fun r hr => (hf r hr).1) (fun r hr => (hf r hr).2) (fun r hr => bh_lt hN hr k hx) (fun r hr => bsel_lt (Nat.le_refl _)) hS S40).mono ?_
  rintro o ⟨w, h1, rfl, rfl, F⟩
  exact ⟨_, _, rfl, congrArg nI (dcn_cg _ (fun r _ => dbc_dbt)), F⟩
theorem SSt.fr {h h1 : ai_H} {N x : Nat → Nat} {S lev k : Nat} (a : h1[37]? = h[37]?) (b : h1[38]? = h[38]?) (H : SSt h N S x lev k) : SSt h1 N S x lev k := by
  obtain ⟨f37, f38, c37, c38, hf⟩ := H
  exact ⟨f37, f38, a.trans c37, b.trans c38, hf⟩
theorem l122 {X : ai_X} {h : ai_H} {N x : Nat → Nat} {S L : Nat} {now : Bool} (hN : HN N) (C : CH h 3 N) (d36 : h[36]? = some cSg) (R : RtAt h 17 L x) (hL : L ≤ 40) (hx : ∀ i, i < L → x i < N 1) (hS : S < 2 ^ N 0) (S40 : ShI h 40 14) : ∀ (d : Nat) (k : Nat) (g : ai_H), L < k + d → (k ≤ L) → (Fr 37 40 h g) → (SSt g N S x 0 k) → (ShI g 39 10) → Rk X am_122 5 [some (.ref 36), some (.ref 17), some (.int (nI S)), some (.int (bI (now = true))), some (.int (nI k))] [] g (Qi (fun w h1 => w = nI (dbs N S x L now) ∧ Fr 37 41 h h1)) := by
  intro d
  induction d with
  | zero => intro k g hd hk F H S39; exfalso; omega
  | succ d ih =>
    intro k g hd hk F H S39
    have C2 := C.fr2 F (by omega)
    have e36 := (F.2 36 (by omega)).trans d36
    have R2 : RtAt g 17 L x := R.fr' (fun q _ _ => F.2 q (by omega))
    have r0 := R2.choose_spec.1.1
    refine rk_iload rfl rfl ?_
    refine rk_aload_n rfl rfl ?_
    refine rk_get rfl (by assumption) rfl ?_
    refine rk_icmp_ge rfl rfl (fun hc8 => ?_) (fun hc8 => ?_)
    · replace hc8 := (nI_leI (by omega) (by omega)).mp hc8
      refine rk_aload_n rfl rfl ?_
      refine rk_iconst (v := nI 0) rfl (by decide) ?_
      refine rk_iload_n rfl rfl ?_
      refine rk_iload_n rfl rfl ?_
      refine rk_cv3i rfl rfl (by assumption) rfl rfl (Nat.le_of_ble_eq_true rfl) (Nat.le_of_ble_eq_true rfl) (s126S (now := now) hN C2 e36 (by omega) (fun i hi => hx i (by omega)) H hS (S40.fr (F.2 40 (by omega)))) (fun w h1 hF => ?_)
      obtain ⟨rfl, F2⟩ := hF
      exact rk_ireturn rfl rfl ⟨_, _, rfl, by rw [show k = L by omega], (F.mono (by omega) (by omega)).tr (F2.mono (by omega) (by omega))⟩
    · replace hc8 := mt (nI_leI (by omega) (by omega)).mpr hc8
      refine rk_aload_n rfl rfl ?_
      refine rk_iconst (v := nI 0) rfl (by decide) ?_
      refine rk_iconst (v := nI 0) rfl (by decide) ?_
      refine rk_aload_n rfl rfl ?_
      refine rk_iload rfl rfl ?_
      refine rk_cv1e rfl rfl (by assumption) rfl rfl (Nat.le_of_ble_eq_true rfl) (Nat.le_of_ble_eq_true rfl) (s90N R2 (by omega) (by omega)) ?_
      refine rk_cv3v rfl rfl (by assumption) rfl rfl (Nat.le_of_ble_eq_true rfl) (Nat.le_of_ble_eq_true rfl) ((s124S (la := 0) (lb := 0) hN C2 e36 (by omega) (Or.inl rfl) (fun i hi => hx i (by omega)) H S39).skv) (fun h1 hF => ?_)
      obtain ⟨⟨F1, H1⟩, k1⟩ := hF
      refine rk_iinc rfl rfl (n_inc _) rfl ?_
      refine rk_goto rfl rfl ?_
      exact ih (k + 1) _ (by omega) (by omega) (F.tr F1) H1 (S39.sk k1)
theorem s122 {X : ai_X} {h : ai_H} {N x : Nat → Nat} {S L : Nat} {now : Bool} (hN : HN N) (C : CH h 3 N) (d36 : h[36]? = some cSg) (R : RtAt h 17 L x) (hL : L ≤ 40) (hx : ∀ i, i < L → x i < N 1) (hS : S < 2 ^ N 0) (S37 : ShI h 37 84) (S38 : ShI h 38 84) (S39 : ShI h 39 10) (S40 : ShI h 40 14) : Mt X am_122 [.ref 36, .ref 17, .int (nI S), .int (bI (now = true))] h (Qi (fun w h1 => w = nI (dbs N S x L now) ∧ Fr 37 41 h h1)) := by
  refine rk_aload_n rfl rfl ?_
  refine rk_iload_n rfl rfl ?_
  refine rk_cv1v rfl rfl (by assumption) rfl rfl (Nat.le_of_ble_eq_true rfl) (Nat.le_of_ble_eq_true rfl) ((s123 (x := x) hN C d36 hS S37 S38 S39).skv) (fun h1 hF => ?_)
  obtain ⟨⟨F1, H1⟩, k1⟩ := hF
  have e36 := (F1.2 36 (by omega)).trans d36
  refine rk_iconst (v := nI 0) rfl (by decide) ?_
  refine rk_istore rfl (Nat.le_of_ble_eq_true rfl) rfl ?_
  exact l122 (h := h) hN C d36 R hL hx hS S40 (L + 1) 0 _ (by omega) (Nat.zero_le _) F1 H1 (S39.sk k1)
