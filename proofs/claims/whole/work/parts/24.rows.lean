/-! ROWS OF NUMBERS AS ROWS OF TONES -/
theorem l64_tri (x y : Int64) : x < y ∨ x = y ∨ y < x := by
  rw [Int64.lt_iff_toInt_lt, Int64.lt_iff_toInt_lt, ← Int64.toInt_inj]
  omega
theorem l64_irr {x y : Int64} (h : x < y) : ¬ y < x ∧ ¬ x = y := by
  rw [Int64.lt_iff_toInt_lt] at h
  refine ⟨?_, ?_⟩
  · rw [Int64.lt_iff_toInt_lt]; omega
  · rintro rfl; omega
theorem l64_le {x y : Int64} : y ≤ x ↔ ¬ x < y := by
  rw [Int64.le_iff_toInt_le, Int64.lt_iff_toInt_lt]; omega
theorem lcmpL_v (x y : Int64) : lg_cmp x y = if y < x then 1 else if x = y then 0 else -1 := by
  unfold lg_cmp
  rcases l64_tri x y with h | h | h
  · have := l64_irr h
    simp [h, this]
  · subst h
    simp
  · have := l64_irr h
    simp [h, this]
theorem lcmpL_lt (x y : Int64) : lg_cmp x y < 0 ↔ x < y := by
  rw [lcmpL_v]
  rcases l64_tri x y with h | h | h
  · have := l64_irr h
    rw [if_neg this.1, if_neg this.2]
    exact ⟨fun _ => h, fun _ => by decide⟩
  · subst h
    have hn : ¬ x < x := fun z => (l64_irr z).1 z
    rw [if_neg hn, if_pos rfl]
    exact ⟨fun z => absurd z (by decide), fun z => absurd z hn⟩
  · rw [if_pos h]
    exact ⟨fun z => absurd z (by decide), fun z => absurd h (l64_irr z).1⟩
theorem lcmpL_gt (x y : Int64) : 0 < lg_cmp x y ↔ y < x := by
  rw [lcmpL_v]
  rcases l64_tri x y with h | h | h
  · have := l64_irr h
    rw [if_neg this.1, if_neg this.2]
    exact ⟨fun z => absurd z (by decide), fun z => absurd z this.1⟩
  · subst h
    have hn : ¬ x < x := fun z => (l64_irr z).1 z
    rw [if_neg hn, if_pos rfl]
    exact ⟨fun z => absurd z (by decide), fun z => absurd z hn⟩
  · rw [if_pos h]
    exact ⟨fun _ => h, fun _ => by decide⟩
/-- v is one of t tones -/
def okT (v : Int64) (t : Nat) : Prop := ¬ v < 0 ∧ v < (nI t).toInt64
theorem okT_iff {v : Int64} {t : Nat} (ht : t < 2 ^ 30) : (¬ v < 0 ∧ ¬ (nI t - nI 1).toInt64 < v) ↔ okT v t := by
  have e : (nI t - nI 1).toInt64 < v ↔ ¬ v < (nI t).toInt64 := by
    rw [Int64.lt_iff_toInt_lt, Int64.lt_iff_toInt_lt, Int32.toInt_toInt64, Int32.toInt_toInt64, pk_sub_toInt ht (by decide), nI_toInt (by omega)]
    omega
  unfold okT
  rw [e]
  constructor
  · rintro ⟨a, b⟩; exact ⟨a, Decidable.not_not.mp b⟩
  · rintro ⟨a, b⟩; exact ⟨a, fun z => z b⟩
theorem okT_nat {v : Int64} {t : Nat} (ht : t < 2 ^ 30) (h : okT v t) : ∃ x, x < t ∧ v = (nI x).toInt64 := by
  obtain ⟨a, b⟩ := h
  rw [Int64.lt_iff_toInt_lt] at a b
  rw [Int32.toInt_toInt64, nI_toInt (by omega)] at b
  have a' : ¬ v.toInt < 0 := a
  refine ⟨v.toInt.toNat, by omega, ?_⟩
  apply Int64.toInt_inj.mp
  rw [Int32.toInt_toInt64, nI_toInt (by omega)]
  omega
theorem okT_mk {x t : Nat} (ht : t < 2 ^ 30) (h : x < t) : okT (nI x).toInt64 t := by
  unfold okT
  rw [Int64.lt_iff_toInt_lt, Int64.lt_iff_toInt_lt, Int32.toInt_toInt64, Int32.toInt_toInt64, nI_toInt (by omega), nI_toInt (by omega)]
  have : (0 : Int64).toInt = 0 := by decide
  omega
theorem tone_of (x : Nat) : (nI x).toInt64.toInt32 = nI x := Int32.toInt32_toInt64 _
noncomputable def fb (v : Nat → Int64) (t : Nat) : Nat → Nat → Int32
  | 0, _ => -1
  | d + 1, i => haveI := Classical.propDecidable (okT (v i) t); if okT (v i) t then fb v t d (i + 1) else nI i
theorem fb_0 (v : Nat → Int64) (t i : Nat) : fb v t 0 i = -1 := rfl
theorem fb_t {v : Nat → Int64} {t d i : Nat} (h : okT (v i) t) : fb v t (d + 1) i = fb v t d (i + 1) := by
  rw [fb]; exact if_pos h
theorem fb_f {v : Nat → Int64} {t d i : Nat} (h : ¬ okT (v i) t) : fb v t (d + 1) i = nI i := by
  rw [fb]; exact if_neg h
theorem fb_congr {v v' : Nat → Int64} {t : Nat} : ∀ (d i : Nat), (∀ k, k < d → v (i + k) = v' (i + k)) → fb v t d i = fb v' t d i := by
  intro d
  induction d with
  | zero => intro i _; rfl
  | succ d ih =>
    intro i h
    have h0 : v i = v' i := h 0 (by omega)
    by_cases hv : okT (v i) t
    · rw [fb_t hv, fb_t (h0 ▸ hv)]
      exact ih _ (fun k hk => by have := h (k + 1) (by omega); rw [show i + 1 + k = i + (k + 1) by omega]; exact this)
    · rw [fb_f hv, fb_f (h0 ▸ hv)]
theorem fb_none {v : Nat → Int64} {t : Nat} : ∀ (d i : Nat), i + d < 2 ^ 31 → fb v t d i = -1 → ∀ k, k < d → okT (v (i + k)) t := by
  intro d
  induction d with
  | zero => intro i _ _ k hk; omega
  | succ d ih =>
    intro i hi h k hk
    by_cases hv : okT (v i) t
    · rw [fb_t hv] at h
      rcases k with _ | k
      · exact hv
      · have := ih (i + 1) (by omega) h k (by omega)
        rw [show i + (k + 1) = i + 1 + k by omega]; exact this
    · rw [fb_f hv] at h
      exact absurd h (nm_eq (by omega))
/-- nothing but the cells from a to b was written -/
def Fr (a b : Nat) (h h1 : ai_H) : Prop := h1.length = h.length ∧ ∀ q : Nat, ¬ (a ≤ q ∧ q < b) → h1[q]? = h[q]?
theorem Fr.rfl' {a b : Nat} {h : ai_H} : Fr a b h h := ⟨rfl, fun _ _ => rfl⟩
theorem Fr.tr {a b : Nat} {h h1 h2 : ai_H} (x : Fr a b h h1) (y : Fr a b h1 h2) : Fr a b h h2 := ⟨y.1.trans x.1, fun q hq => (y.2 q hq).trans (x.2 q hq)⟩
theorem Fr.mono {a b a' b' : Nat} {h h1 : ai_H} (x : Fr a b h h1) (ha : a' ≤ a) (hb : b ≤ b') : Fr a' b' h h1 := ⟨x.1, fun q hq => x.2 q (by omega)⟩
theorem Fr.mk1 {a : Nat} {h h1 : ai_H} (hk : ∀ q : Nat, q ≠ a → h1[q]? = h[q]?) (hl : h1.length = h.length) {b c : Nat} (hb : b ≤ a) (hc : a < c) : Fr b c h h1 := ⟨hl, fun q hq => hk q (by omega)⟩
theorem CH.fr2 {a b : Nat} {h h1 : ai_H} {p : Nat} {N : Nat → Nat} (F : Fr a b h h1) (hp : p + 6 ≤ a ∨ b ≤ p) (H : CH h p N) : CH h1 p N := H.fr (fun q _ _ => F.2 q (by omega))
/-- a route that holds the tones x -/
def RtAt (h : ai_H) (p L : Nat) (x : Nat → Nat) : Prop := ∃ f, RouteAt h p (nI L) f ∧ ∀ k, k < L → f k = nI (x k)
theorem RtAt.fr {h h1 : ai_H} {p L : Nat} {x : Nat → Nat} (hk : ∀ q, p ≤ q → q < p + 2 → h1[q]? = h[q]?) (H : RtAt h p L x) : RtAt h1 p L x := by
  obtain ⟨f, a, b⟩ := H
  exact ⟨f, a.fr hk, b⟩
theorem RtAt.fr2 {a b : Nat} {h h1 : ai_H} {p L : Nat} {x : Nat → Nat} (F : Fr a b h h1) (hp : p + 2 ≤ a ∨ b ≤ p) (H : RtAt h p L x) : RtAt h1 p L x := H.fr (fun q _ _ => F.2 q (by omega))
theorem s181L {X : ai_X} {h : ai_H} (x lo hi : Int64) : Mt X am_181 [.long x, .long lo, .long hi] h (Qe (bI (¬ x < lo ∧ ¬ hi < x)) h) := by
  refine rk_lload_n rfl rfl ?_
  refine rk_lload_n rfl rfl ?_
  refine rk_lcmp rfl rfl ?_
  refine rk_if_lt rfl rfl (fun hc3 => ?_) (fun hc3 => ?_)
  · refine rk_iconst (v := nI 0) rfl (by decide) ?_
    exact rk_ireturn rfl (by decide) (Qe_of (by first | (rw [lcmpL_lt] at hc3; rw [lcmpL_gt] at hc7; simp [bI, nI_0, nI_one, hc3, hc7]; done) | (rw [lcmpL_lt] at hc3; simp [bI, nI_0, hc3]; done)))
  · refine rk_lload_n rfl rfl ?_
    refine rk_lload rfl rfl ?_
    refine rk_lcmp rfl rfl ?_
    refine rk_if_gt rfl rfl (fun hc7 => ?_) (fun hc7 => ?_)
    · refine rk_iconst (v := nI 0) rfl (by decide) ?_
      exact rk_ireturn rfl (by decide) (Qe_of (by first | (rw [lcmpL_lt] at hc3; rw [lcmpL_gt] at hc7; simp [bI, nI_0, nI_one, hc3, hc7]; done) | (rw [lcmpL_lt] at hc3; simp [bI, nI_0, hc3]; done)))
    · refine rk_iconst (v := nI 1) rfl (by decide) ?_
      refine rk_goto rfl rfl ?_
      exact rk_ireturn rfl (by decide) (Qe_of (by first | (rw [lcmpL_lt] at hc3; rw [lcmpL_gt] at hc7; simp [bI, nI_0, nI_one, hc3, hc7]; done) | (rw [lcmpL_lt] at hc3; simp [bI, nI_0, hc3]; done)))
theorem s179 {X : ai_X} {h : ai_H} {p : Nat} (x : Int32) : Mt X am_179 [.ref p, .int x] h (Qe (bI (¬ x < 0 ∧ ¬ nI 4 ≤ x)) h) := by
  refine rk_iload_n rfl rfl ?_
  refine rk_if_lt rfl rfl (fun hc1 => ?_) (fun hc1 => ?_)
  · refine rk_iconst (v := nI 0) rfl (by decide) ?_
    exact rk_ireturn rfl (by decide) (Qe_of (by first | (simp [bI, nI_0, nI_one, *]; done) | (rw [bI, if_pos ⟨by assumption, by assumption⟩]; rfl) | (rw [bI, if_neg (fun z => z.2 (by assumption))]; rfl)))
  · refine rk_iload_n rfl rfl ?_
    refine rk_iconst (v := nI 4) rfl (by decide) ?_
    refine rk_icmp_ge rfl rfl (fun hc4 => ?_) (fun hc4 => ?_)
    · refine rk_iconst (v := nI 0) rfl (by decide) ?_
      exact rk_ireturn rfl (by decide) (Qe_of (by first | (simp [bI, nI_0, nI_one, *]; done) | (rw [bI, if_pos ⟨by assumption, by assumption⟩]; rfl) | (rw [bI, if_neg (fun z => z.2 (by assumption))]; rfl)))
    · refine rk_iconst (v := nI 1) rfl (by decide) ?_
      refine rk_goto rfl rfl ?_
      exact rk_ireturn rfl (by decide) (Qe_of (by first | (simp [bI, nI_0, nI_one, *]; done) | (rw [bI, if_pos ⟨by assumption, by assumption⟩]; rfl) | (rw [bI, if_neg (fun z => z.2 (by assumption))]; rfl)))
theorem l48 {X : ai_X} {h : ai_H} {p L t : Nat} {so : Int32} {f : Nat → Int64} (c0 : h[p]? = some (cNum p (nI L) so)) (c1 : h[p + 1]? = some (cJ 40 f)) (hL : L ≤ 40) : ∀ (d : Nat) (i : Nat), L < i + d → (i ≤ L) → Rk X am_48 2 [some (.ref p), some (.int (nI t)), some (.int (nI i))] [] h (Qe (fb f t (L - i) i) h) := by
  intro d
  induction d with
  | zero => intro i hd hi; exfalso; omega
  | succ d ih =>
    intro i hd hi
    refine rk_iload_n rfl rfl ?_
    refine rk_aload_n rfl rfl ?_
    refine rk_get rfl (by assumption) rfl ?_
    refine rk_icmp_ge rfl rfl (fun hc5 => ?_) (fun hc5 => ?_)
    · replace hc5 := (nI_leI (by omega) (by omega)).mp hc5
      refine rk_iconst (v := (-1)) rfl (by decide) ?_
      exact rk_ireturn rfl rfl (Qe_of (by rw [show L - i = 0 by omega]; rfl))
    · replace hc5 := mt (nI_leI (by omega) (by omega)).mpr hc5
      refine rk_aload_n rfl rfl ?_
      refine rk_get rfl (by assumption) rfl ?_
      refine rk_iload_n rfl rfl ?_
      refine rk_lald rfl (by assumption) (rfl) (by omega) (by decide) ?_
      refine rk_lconst (v := 0) rfl (by decide) ?_
      refine rk_lcmp rfl rfl ?_
      refine rk_if_lt rfl rfl (fun hc12 => ?_) (fun hc12 => ?_)
      · have hk : ¬ okT (f i) t := fun z => z.1 ((lcmpL_lt _ _).mp hc12)
        refine rk_iload_n rfl rfl ?_
        exact rk_ireturn rfl rfl (Qe_of (by rw [show L - i = L - (i + 1) + 1 by omega, fb_f hk]))
      · refine rk_aload_n rfl rfl ?_
        refine rk_get rfl (by assumption) rfl ?_
        refine rk_iload_n rfl rfl ?_
        refine rk_lald rfl (by assumption) (rfl) (by omega) (by decide) ?_
        refine rk_iload_n rfl rfl ?_
        refine rk_i2l rfl rfl ?_
        refine rk_lcmp rfl rfl ?_
        refine rk_if_lt rfl rfl (fun hc20 => ?_) (fun hc20 => ?_)
        · have hk : okT (f i) t := ⟨fun z => hc12 ((lcmpL_lt _ _).mpr z), (lcmpL_lt _ _).mp hc20⟩
          rw [show L - i = L - (i + 1) + 1 by omega, fb_t hk]
          refine rk_iinc rfl rfl (n_inc _) rfl ?_
          refine rk_goto rfl rfl ?_
          exact ih (i + 1) (by omega) (by omega)
        · have hk : ¬ okT (f i) t := fun z => hc20 ((lcmpL_lt _ _).mpr z.2)
          refine rk_iload_n rfl rfl ?_
          exact rk_ireturn rfl rfl (Qe_of (by rw [show L - i = L - (i + 1) + 1 by omega, fb_f hk]))
theorem s48 {X : ai_X} {h : ai_H} {p L t : Nat} {so : Int32} {f : Nat → Int64} (c0 : h[p]? = some (cNum p (nI L) so)) (c1 : h[p + 1]? = some (cJ 40 f)) (hL : L ≤ 40) : Mt X am_48 [.ref p, .int (nI t)] h (Qe (fb f t L 0) h) := by
  refine rk_iconst (v := nI 0) rfl (by decide) ?_
  refine rk_istore_n rfl (Nat.le_of_ble_eq_true rfl) rfl ?_
  exact l48 c0 c1 hL (L + 1) 0 (by omega) (by omega)
theorem l219 {X : ai_X} {h : ai_H} {v A rm : Nat → Int32} {nu : Nat → Int64} {i L t : Nat} (c0 : h[52]? = some (cMdl v)) (c1 : h[53]? = some (cI 2346 A)) (c3 : h[78]? = some (cI 4 rm)) (c4 : h[79]? = some (cJ 160 nu)) (a1 : A 1 = nI t) (ht : t ≤ 6) (hi : i < 4) (hm : rm i = nI L) (hL : L ≤ 40) : ∀ (d : Nat) (k : Nat), L < k + d → (k ≤ L) → Rk X am_219 2 [some (.ref 52), some (.int (nI i)), some (.int (nI k))] [] h (Qe (fb (fun k => nu (40 * i + k)) t (L - k) k) h) := by
  intro d
  induction d with
  | zero => intro k hd hk; exfalso; omega
  | succ d ih =>
    intro k hd hk
    refine rk_iload_n rfl rfl ?_
    refine rk_aload_n rfl rfl ?_
    refine rk_get rfl (by assumption) rfl ?_
    refine rk_iload_n rfl rfl ?_
    refine rk_iald rfl (by assumption) (rfl) (by omega) (by decide) ?_
    rw [hm]
    refine rk_icmp_ge rfl rfl (fun hc7 => ?_) (fun hc7 => ?_)
    · replace hc7 := (nI_leI (by omega) (by omega)).mp hc7
      refine rk_iconst (v := (-1)) rfl (by decide) ?_
      exact rk_ireturn rfl rfl (Qe_of (by rw [show L - k = 0 by omega]; rfl))
    · replace hc7 := mt (nI_leI (by omega) (by omega)).mpr hc7
      refine rk_aload_n rfl rfl ?_
      refine rk_get rfl (by assumption) rfl ?_
      refine rk_bipush (v := nI 40) rfl (by decide) ?_
      refine rk_iload_n rfl rfl ?_
      refine rk_imul rfl (pk_mul _ _) ?_
      refine rk_iload_n rfl rfl ?_
      refine rk_iadd rfl (nI_add _ _) ?_
      refine rk_lald rfl (by assumption) (rfl) (by omega) (by decide) ?_
      refine rk_lconst (v := 0) rfl (by decide) ?_
      refine rk_aload_n rfl rfl ?_
      refine rk_get rfl (by assumption) rfl ?_
      refine rk_iconst (v := nI 1) rfl (by decide) ?_
      refine rk_iald rfl (by assumption) (rfl) (by omega) (by decide) ?_
      rw [a1]
      refine rk_iconst (v := nI 1) rfl (by decide) ?_
      refine rk_isub rfl rfl ?_
      refine rk_i2l rfl rfl ?_
      refine rk_cs3e rfl rfl rfl (Nat.le_of_ble_eq_true rfl) (Nat.le_of_ble_eq_true rfl) (s181L _ _ _) ?_
      refine rk_if_ne rfl rfl (fun hc25 => ?_) (fun hc25 => ?_)
      · replace hc25 := Decidable.not_not.mp (mt bI_0.mpr hc25)
        rw [show L - k = L - (k + 1) + 1 by omega, fb_t (v := fun k => nu (40 * i + k)) ((okT_iff (by omega)).mp hc25)]
        refine rk_iinc rfl rfl (n_inc _) rfl ?_
        refine rk_goto rfl rfl ?_
        exact ih (k + 1) (by omega) (by omega)
      · replace hc25 := Decidable.not_not.mp hc25
        replace hc25 := (bI_0).mp hc25
        refine rk_iload_n rfl rfl ?_
        exact rk_ireturn rfl rfl (Qe_of (by rw [show L - k = L - (k + 1) + 1 by omega, fb_f (v := fun k => nu (40 * i + k)) (fun z => hc25 ((okT_iff (by omega)).mpr z))]))
theorem s219 {X : ai_X} {h : ai_H} {v A rm : Nat → Int32} {nu : Nat → Int64} {i L t : Nat} (c0 : h[52]? = some (cMdl v)) (c1 : h[53]? = some (cI 2346 A)) (c3 : h[78]? = some (cI 4 rm)) (c4 : h[79]? = some (cJ 160 nu)) (a1 : A 1 = nI t) (ht : t ≤ 6) (hi : i < 4) (hm : rm i = nI L) (hL : L ≤ 40) : Mt X am_219 [.ref 52, .int (nI i)] h (Qe (fb (fun k => nu (40 * i + k)) t L 0) h) := by
  refine rk_iconst (v := nI 0) rfl (by decide) ?_
  refine rk_istore_n rfl (Nat.le_of_ble_eq_true rfl) rfl ?_
  exact l219 c0 c1 c3 c4 a1 ht hi hm hL (L + 1) 0 (by omega) (by omega)
/-- a row of the class, of the model: missing, no row of tones, or the tones x -/
def CRow (h : ai_H) (i t : Nat) (code : Int32) (L : Nat) (x : Nat → Nat) : Prop :=
  (code = -6 ∧ ∃ so f, NumAt h (44 + 2 * i) (-1) so f) ∨ ∃ so f, NumAt h (44 + 2 * i) (nI L) so f ∧ L ≤ 40 ∧ ((code = -3 ∧ ¬ fb f t L 0 = -1) ∨ (code = 0 ∧ fb f t L 0 = -1 ∧ ∀ k, k < L → x k < t ∧ f k = (nI (x k)).toInt64))
def MRow (h : ai_H) (i t : Nat) (code : Int32) (L : Nat) (x : Nat → Nat) : Prop := ∃ rs rm nu,
  h[77]? = some (cI 4 rs) ∧ h[78]? = some (cI 4 rm) ∧ h[79]? = some (cJ 160 nu) ∧ ((code = -6 ∧ rs i = -1) ∨ (¬ rs i = -1 ∧ rm i = nI L ∧ L ≤ 40 ∧ ((code = -3 ∧ ¬ fb (fun k => nu (40 * i + k)) t L 0 = -1) ∨ (code = 0 ∧ fb (fun k => nu (40 * i + k)) t L 0 = -1 ∧ ∀ k, k < L → x k < t ∧ nu (40 * i + k) = (nI (x k)).toInt64))))
theorem CRow.x {h : ai_H} {i t L : Nat} {x : Nat → Nat} (H : CRow h i t 0 L x) : L ≤ 40 ∧ ∀ k, k < L → x k < t := by
  rcases H with ⟨z, -⟩ | ⟨so, f, -, hL, ⟨z, -⟩ | ⟨-, -, hx⟩⟩
  · exact absurd z (by decide)
  · exact absurd z (by decide)
  · exact ⟨hL, fun k hk => (hx k hk).1⟩
theorem CRow.fr {a b : Nat} {h h1 : ai_H} {i t L : Nat} {code : Int32} {x : Nat → Nat} (hk : ∀ q : Nat, 44 ≤ q → q < 52 → h1[q]? = h[q]?) (hi : i < 4) (H : CRow h i t code L x) : CRow h1 i t code L x := by
  rcases H with ⟨z, so, f, c⟩ | ⟨so, f, c, r⟩
  · exact Or.inl ⟨z, so, f, c.fr (fun q _ _ => hk q (by omega) (by omega))⟩
  · exact Or.inr ⟨so, f, c.fr (fun q _ _ => hk q (by omega) (by omega)), r⟩
theorem MRow.fr {h h1 : ai_H} {i t L : Nat} {code : Int32} {x : Nat → Nat} (hk : ∀ q : Nat, 77 ≤ q → q < 80 → h1[q]? = h[q]?) (H : MRow h i t code L x) : MRow h1 i t code L x := by
  obtain ⟨rs, rm, nu, a, b, c, r⟩ := H
  exact ⟨rs, rm, nu, (hk _ (by omega) (by omega)).trans a, (hk _ (by omega) (by omega)).trans b, (hk _ (by omega) (by omega)).trans c, r⟩
theorem row_nat {h : ai_H} {rs rm : Nat → Int32} {nu : Nat → Int64} {i t : Nat} (hi : i < 4) (ht : t ≤ 6) (R : InvR h rs rm nu) (c77 : h[77]? = some (cI 4 rs)) (c78 : h[78]? = some (cI 4 rm)) (c79 : h[79]? = some (cJ 160 nu)) : ∃ code L x, CRow h i t code L x ∧ MRow h i t code L x := by
  obtain ⟨sz, so, f, hN, hC⟩ := R.2 i hi
  rcases hC with ⟨h1, rfl, -⟩ | ⟨n, hn, rfl, hm, hs, h4, hf⟩
  · exact ⟨-6, 0, fun _ => 0, Or.inl ⟨rfl, so, f, hN⟩, rs, rm, nu, c77, c78, c79, Or.inl ⟨rfl, h1⟩⟩
  · have hr : ¬ rs i = -1 := by
      rw [← hs]
      rcases h4 with z | z | z | z <;> (rw [z]; decide)
    have e : fb (fun k => nu (40 * i + k)) t n 0 = fb f t n 0 := fb_congr n 0 (fun k hk => by simp only [Nat.zero_add]; exact (hf k hk).symm)
    by_cases hb : fb f t n 0 = -1
    · have hx : ∃ x : Nat → Nat, ∀ k, k < n → x k < t ∧ f k = (nI (x k)).toInt64 := by
        refine ⟨fun k => (f k).toInt.toNat, fun k hk => ?_⟩
        have h1 := fb_none n 0 (by omega) hb k hk
        rw [Nat.zero_add] at h1
        obtain ⟨y, hy, e⟩ := okT_nat (by omega) h1
        simp only [e]
        rw [Int32.toInt_toInt64, nI_toInt (by omega)]
        exact ⟨by omega, rfl⟩
      obtain ⟨x, hx⟩ := hx
      exact ⟨0, n, x, Or.inr ⟨so, f, hN, hn, Or.inr ⟨rfl, hb, hx⟩⟩, rs, rm, nu, c77, c78, c79, Or.inr ⟨hr, hm, hn, Or.inr ⟨rfl, e.trans hb, fun k hk => ⟨(hx k hk).1, (hf k hk).symm.trans (hx k hk).2⟩⟩⟩⟩
    · exact ⟨-3, n, fun _ => 0, Or.inr ⟨so, f, hN, hn, Or.inl ⟨rfl, hb⟩⟩, rs, rm, nu, c77, c78, c79, Or.inr ⟨hr, hm, hn, Or.inl ⟨rfl, by rw [e]; exact hb⟩⟩⟩
theorem s221 {X : ai_X} {h : ai_H} {v A : Nat → Int32} {code : Int32} {i L t : Nat} {x : Nat → Nat} (c0 : h[52]? = some (cMdl v)) (c1 : h[53]? = some (cI 2346 A)) (a1 : A 1 = nI t) (ht : t ≤ 6) (hi : i < 4) (R : MRow h i t code L x) : Mt X am_221 [.ref 52, .int (nI i)] h (Qe code h) := by
  obtain ⟨rs, rm, nu, c2, c3, c4, R⟩ := R
  refine rk_aload_n rfl rfl ?_
  refine rk_get rfl (by assumption) rfl ?_
  refine rk_iload_n rfl rfl ?_
  refine rk_iald rfl (by assumption) (rfl) (by omega) (by decide) ?_
  refine rk_iconst (v := (-1)) rfl (by decide) ?_
  refine rk_icmp_ne rfl rfl (fun hc5 => ?_) (fun hc5 => ?_)
  · have hR := R.resolve_left (fun z => hc5 z.2)
    refine rk_aload_n rfl rfl ?_
    refine rk_iload_n rfl rfl ?_
    refine rk_cv1e rfl rfl (by assumption) rfl rfl (Nat.le_of_ble_eq_true rfl) (Nat.le_of_ble_eq_true rfl) (s219 c0 c1 c3 c4 a1 ht hi hR.2.1 hR.2.2.1) ?_
    refine rk_iconst (v := (-1)) rfl (by decide) ?_
    refine rk_icmp_ne rfl rfl (fun hc12 => ?_) (fun hc12 => ?_)
    · have hS := hR.2.2.2.resolve_right (fun z => hc12 z.2.1)
      refine rk_bipush (v := (-3)) rfl (by decide) ?_
      exact rk_ireturn rfl rfl (Qe_of (by first | exact hS.1.symm | exact hR.1.symm))
    · replace hc12 := Decidable.not_not.mp hc12
      have hS := hR.2.2.2.resolve_left (fun z => z.2 hc12)
      refine rk_iconst (v := nI 0) rfl (by decide) ?_
      refine rk_goto rfl rfl ?_
      exact rk_ireturn rfl rfl (Qe_of (by first | exact hS.1.symm | exact hR.1.symm))
  · replace hc5 := Decidable.not_not.mp hc5
    have hR := R.resolve_right (fun z => z.1 hc5)
    refine rk_bipush (v := (-6)) rfl (by decide) ?_
    refine rk_goto rfl rfl ?_
    exact rk_ireturn rfl rfl (Qe_of (by first | exact hS.1.symm | exact hR.1.symm))
theorem s222 {X : ai_X} {h : ai_H} {v : Nat → Int32} {nu : Nat → Int64} {i k x : Nat} (c0 : h[52]? = some (cMdl v)) (c4 : h[79]? = some (cJ 160 nu)) (hi : i < 4) (hk : k < 40) (hx : nu (40 * i + k) = (nI x).toInt64) : Mt X am_222 [.ref 52, .int (nI i), .int (nI k)] h (Qe (nI x) h) := by
  refine rk_aload_n rfl rfl ?_
  refine rk_get rfl (by assumption) rfl ?_
  refine rk_bipush (v := nI 40) rfl (by decide) ?_
  refine rk_iload_n rfl rfl ?_
  refine rk_imul rfl (pk_mul _ _) ?_
  refine rk_iload_n rfl rfl ?_
  refine rk_iadd rfl (nI_add _ _) ?_
  refine rk_lald rfl (by assumption) (rfl) (by omega) (by decide) ?_
  refine rk_l2i rfl rfl ?_
  exact rk_ireturn rfl rfl (Qe_of (by rw [hx, tone_of]))
theorem s88 {X : ai_X} {h : ai_H} {p : Nat} {n : Int32} {f : Nat → Int32} (H : RouteAt h p n f) : Mt X am_88 [.ref p] h (Qv (fun h1 => Fr p (p + 2) h h1 ∧ RouteAt h1 p (nI 0) f)) := by
  obtain ⟨c0, c1⟩ := H
  refine rk_aload_n rfl rfl ?_
  refine rk_iconst (v := nI 0) rfl (by decide) ?_
  refine rk_put rfl c0 (Nat.le_of_ble_eq_true rfl) ft_6_0 rfl (Or.inl rfl) rfl ?_
  refine hp_gen c0 (fun h1 g1 hk1 hl1 => ?_)
  replace c1 := (hk1 _ (by omega)).trans c1
  replace c0 := g1
  exact rk_return rfl rfl ⟨_, rfl, ⟨hl1, fun q hq => hk1 q (by omega)⟩, c0, c1⟩
theorem s89 {X : ai_X} {h : ai_H} {p n : Nat} {x : Int32} {f : Nat → Int32} (H : RouteAt h p (nI n) f) (hn : n < 500) : Mt X am_89 [.ref p, .int x] h (Qv (fun h1 => Fr p (p + 2) h h1 ∧ RouteAt h1 p (nI (n + 1)) (upd f n x))) := by
  obtain ⟨c0, c1⟩ := H
  have F0 : Fr p (p + 2) h h := Fr.rfl'
  refine rk_aload_n rfl rfl ?_
  refine rk_get rfl (by assumption) rfl ?_
  refine rk_if_lt rfl rfl (fun hc2 => ?_) (fun hc2 => ?_)
  · replace hc2 := (n0_lt (by omega)).mp hc2
    exact hc2.elim
  · replace hc2 := mt (n0_lt (by omega)).mpr hc2
    refine rk_aload_n rfl rfl ?_
    refine rk_get rfl (by assumption) rfl ?_
    refine rk_sipush (v := nI 500) rfl (by decide) ?_
    refine rk_icmp_ge rfl rfl (fun hc6 => ?_) (fun hc6 => ?_)
    · replace hc6 := (nI_leI (by omega) (by omega)).mp hc6
      omega
    · replace hc6 := mt (nI_leI (by omega) (by omega)).mpr hc6
      refine rk_aload_n rfl rfl ?_
      refine rk_get rfl (by assumption) rfl ?_
      refine rk_aload_n rfl rfl ?_
      refine rk_get rfl (by assumption) rfl ?_
      refine rk_iload_n rfl rfl ?_
      refine rk_iast rfl c1 (rfl) (by omega) (by decide) ?_
      refine hp_gen c1 (fun h1 g1 hk1 hl1 => ?_)
      replace c0 := (hk1 _ (by omega)).trans c0
      replace F0 := F0.tr (Fr.mk1 hk1 hl1 (by omega) (by omega))
      replace c1 := g1
      refine rk_aload_n rfl rfl ?_
      refine rk_dup_a rfl ?_
      refine rk_get rfl (by assumption) rfl ?_
      refine rk_iconst (v := nI 1) rfl (by decide) ?_
      refine rk_iadd rfl (nI_add _ _) ?_
      refine rk_put rfl c0 (Nat.le_of_ble_eq_true rfl) ft_6_0 rfl (Or.inl rfl) rfl ?_
      refine hp_gen c0 (fun h1 g1 hk1 hl1 => ?_)
      replace c1 := (hk1 _ (by omega)).trans c1
      replace F0 := F0.tr (Fr.mk1 hk1 hl1 (by omega) (by omega))
      replace c0 := g1
      exact rk_return rfl rfl ⟨_, rfl, F0, c0, c1⟩
theorem s90N {X : ai_X} {h : ai_H} {p L k : Nat} {x : Nat → Nat} (H : RtAt h p L x) (hk : k < L) (hL : L ≤ 500) : Mt X am_90 [.ref p, .int (nI k)] h (Qe (nI (x k)) h) := by
  obtain ⟨f, ⟨c0, c1⟩, hf⟩ := H
  refine rk_iload_n rfl rfl ?_
  refine rk_if_lt rfl rfl (fun hc1 => ?_) (fun hc1 => ?_)
  · replace hc1 := (n0_lt (by omega)).mp hc1
    exact hc1.elim
  · replace hc1 := mt (n0_lt (by omega)).mpr hc1
    refine rk_iload_n rfl rfl ?_
    refine rk_sipush (v := nI 500) rfl (by decide) ?_
    refine rk_icmp_ge rfl rfl (fun hc4 => ?_) (fun hc4 => ?_)
    · replace hc4 := (nI_leI (by omega) (by omega)).mp hc4
      omega
    · replace hc4 := mt (nI_leI (by omega) (by omega)).mpr hc4
      refine rk_aload_n rfl rfl ?_
      refine rk_get rfl (by assumption) rfl ?_
      refine rk_iload_n rfl rfl ?_
      refine rk_iald rfl (by assumption) (rfl) (by omega) (by decide) ?_
      rw [hf k hk]
      refine rk_goto rfl rfl ?_
      exact rk_ireturn rfl rfl Qe_mk
theorem RtAt.add {h1 : ai_H} {p n : Nat} {x : Nat → Nat} {f : Nat → Int32} {y : Nat} (hf : ∀ k, k < n → f k = nI (x k)) (R : RouteAt h1 p (nI (n + 1)) (upd f n (nI y))) (hy : y = x n) : RtAt h1 p (n + 1) x := by
  refine ⟨_, R, fun k hk => ?_⟩
  simp only [upd]
  by_cases e : k = n
  · subst e; subst hy; rw [if_pos rfl]
  · rw [if_neg e]; exact hf k (by omega)
theorem l180 {X : ai_X} {h : ai_H} {tp : Int32} {i L : Nat} {so : Int32} {ro : Nat → Option Nat} {f : Nat → Int64} {x : Nat → Nat} (c0 : h[0]? = some (cOne tp)) (c19 : h[19]? = some (cR 3 4 ro)) (hro : ∀ i, i < 4 → ro i = some (44 + 2 * i)) (hi : i < 4) (N1 : h[44 + 2 * i]? = some (cNum (44 + 2 * i) (nI L) so)) (N2 : h[44 + 2 * i + 1]? = some (cJ 40 f)) (hL : L ≤ 40) (hx : ∀ k, k < L → f k = (nI (x k)).toInt64) : ∀ (d : Nat) (k : Nat) (g : ai_H), L < k + d → (k ≤ L) → (Fr 17 19 h g) → (RtAt g 17 k x) → Rk X am_180 25 [some (.ref 0), some (.int (nI i)), some (.int (nI k))] [] g (Qi (fun w h2 => w = 0 ∧ Fr 17 19 h h2 ∧ RtAt h2 17 L x)) := by
  intro d
  induction d with
  | zero => intro k g hd hk F R; exfalso; omega
  | succ d ih =>
    intro k g hd hk F R
    obtain ⟨f1, R, hf⟩ := R
    have r0 := R.1
    have d0 := (F.2 0 (by omega)).trans c0
    have d19 := (F.2 19 (by omega)).trans c19
    have e1 := (F.2 _ (by omega)).trans N1
    have e2 := (F.2 _ (by omega)).trans N2
    refine rk_iload_n rfl rfl ?_
    refine rk_aload_n rfl rfl ?_
    refine rk_get rfl (by assumption) rfl ?_
    refine rk_iload_n rfl rfl ?_
    refine rk_aald (w := .ref (44 + 2 * i)) rfl (by assumption) (by decide) rfl (by omega) (by decide) (by rw [hro i hi]; rfl) ?_
    refine rk_get rfl (by assumption) rfl ?_
    refine rk_icmp_ge rfl rfl (fun hc31 => ?_) (fun hc31 => ?_)
    · replace hc31 := (nI_leI (by omega) (by omega)).mp hc31
      refine rk_iconst (v := nI 0) rfl (by decide) ?_
      exact rk_ireturn rfl rfl ⟨_, _, rfl, rfl, F, (show k = L by omega) ▸ ⟨f1, R, hf⟩⟩
    · replace hc31 := mt (nI_leI (by omega) (by omega)).mpr hc31
      refine rk_aload_n rfl rfl ?_
      refine rk_get rfl (by assumption) rfl ?_
      refine rk_aload_n rfl rfl ?_
      refine rk_get rfl (by assumption) rfl ?_
      refine rk_iload_n rfl rfl ?_
      refine rk_aald (w := .ref (44 + 2 * i)) rfl (by assumption) (by decide) rfl (by omega) (by decide) (by rw [hro i hi]; rfl) ?_
      refine rk_iload_n rfl rfl ?_
      refine rk_cv1e rfl rfl (by assumption) rfl rfl (Nat.le_of_ble_eq_true rfl) (Nat.le_of_ble_eq_true rfl) (s47 ⟨e1, e2⟩ (by omega)) ?_
      rw [hx k (by omega), tone_of]
      refine rk_cv1v rfl rfl (by assumption) rfl rfl (Nat.le_of_ble_eq_true rfl) (Nat.le_of_ble_eq_true rfl) (s89 R (by omega)) (fun h1 hF => ?_)
      refine rk_iinc rfl rfl (n_inc _) rfl ?_
      refine rk_goto rfl rfl ?_
      obtain ⟨F1, R1⟩ := hF
      exact ih (k + 1) h1 (by omega) (by omega) (F.tr F1) (RtAt.add hf R1 rfl)
theorem s180 {X : ai_X} {h : ai_H} {tp : Int32} {i L t : Nat} {code : Int32} {ro : Nat → Option Nat} {x : Nat → Nat} {N : Nat → Nat} (c0 : h[0]? = some (cOne tp)) (c19 : h[19]? = some (cR 3 4 ro)) (hro : ∀ i, i < 4 → ro i = some (44 + 2 * i)) (hi : i < 4) (C : CH h 3 N) (ht : N 1 = t) (Q : ∃ n f, RouteAt h 17 n f) (R : CRow h i t code L x) : Mt X am_180 [.ref 0, .int (nI i)] h (Qi (fun w h1 => w = code ∧ Fr 17 19 h h1 ∧ (∃ n f, RouteAt h1 17 n f) ∧ (code = 0 → RtAt h1 17 L x))) := by
  subst ht
  obtain ⟨n0, f0, Q⟩ := Q
  have r0 := Q.1
  have d3 := C.1
  rcases R with ⟨rfl, so, f, H⟩ | ⟨so, f, H, hL, R⟩
  · have e1 := H.1
    have e2 := H.2
    refine rk_aload_n rfl rfl ?_
    refine rk_get rfl (by assumption) rfl ?_
    refine rk_iload_n rfl rfl ?_
    refine rk_aald (w := .ref (44 + 2 * i)) rfl (by assumption) (by decide) rfl (by omega) (by decide) (by rw [hro i hi]; rfl) ?_
    refine rk_cv0e rfl rfl (by assumption) rfl rfl (Nat.le_of_ble_eq_true rfl) (Nat.le_of_ble_eq_true rfl) (s43 H) ?_
    refine rk_if_eq rfl rfl (fun hc5 => ?_) (fun hc5 => ?_)
    · replace hc5 := (bI_0).mp hc5
      exact absurd rfl hc5
    · replace hc5 := Decidable.not_not.mp (mt bI_0.mpr hc5)
      refine rk_bipush (v := (-6)) rfl (by decide) ?_
      exact rk_ireturn rfl rfl ⟨_, _, rfl, rfl, Fr.rfl', ⟨_, _, Q⟩, fun z => absurd z (by decide)⟩
  · have e1 := H.1
    have e2 := H.2
    rcases R with ⟨rfl, hb⟩ | ⟨rfl, hb, hx⟩
    · refine rk_aload_n rfl rfl ?_
      refine rk_get rfl (by assumption) rfl ?_
      refine rk_iload_n rfl rfl ?_
      refine rk_aald (w := .ref (44 + 2 * i)) rfl (by assumption) (by decide) rfl (by omega) (by decide) (by rw [hro i hi]; rfl) ?_
      refine rk_cv0e rfl rfl (by assumption) rfl rfl (Nat.le_of_ble_eq_true rfl) (Nat.le_of_ble_eq_true rfl) (s43 H) ?_
      refine rk_if_eq rfl rfl (fun hc5 => ?_) (fun hc5 => ?_)
      · replace hc5 := (bI_0).mp hc5
        refine rk_aload_n rfl rfl ?_
        refine rk_get rfl (by assumption) rfl ?_
        refine rk_iload_n rfl rfl ?_
        refine rk_aald (w := .ref (44 + 2 * i)) rfl (by assumption) (by decide) rfl (by omega) (by decide) (by rw [hro i hi]; rfl) ?_
        refine rk_aload_n rfl rfl ?_
        refine rk_get rfl (by assumption) rfl ?_
        refine rk_get rfl (by assumption) rfl ?_
        refine rk_cv1e rfl rfl (by assumption) rfl rfl (Nat.le_of_ble_eq_true rfl) (Nat.le_of_ble_eq_true rfl) (s48 e1 e2 hL) ?_
        refine rk_iconst (v := (-1)) rfl (by decide) ?_
        refine rk_icmp_eq rfl rfl (fun hc17 => ?_) (fun hc17 => ?_)
        · exact absurd hc17 hb
        · refine rk_bipush (v := (-3)) rfl (by decide) ?_
          exact rk_ireturn rfl rfl ⟨_, _, rfl, rfl, Fr.rfl', ⟨_, _, Q⟩, fun z => absurd z (by decide)⟩
      · replace hc5 := Decidable.not_not.mp (mt bI_0.mpr hc5)
        exact absurd hc5 (nm_eq (by omega))
    · refine rk_aload_n rfl rfl ?_
      refine rk_get rfl (by assumption) rfl ?_
      refine rk_iload_n rfl rfl ?_
      refine rk_aald (w := .ref (44 + 2 * i)) rfl (by assumption) (by decide) rfl (by omega) (by decide) (by rw [hro i hi]; rfl) ?_
      refine rk_cv0e rfl rfl (by assumption) rfl rfl (Nat.le_of_ble_eq_true rfl) (Nat.le_of_ble_eq_true rfl) (s43 H) ?_
      refine rk_if_eq rfl rfl (fun hc5 => ?_) (fun hc5 => ?_)
      · replace hc5 := (bI_0).mp hc5
        refine rk_aload_n rfl rfl ?_
        refine rk_get rfl (by assumption) rfl ?_
        refine rk_iload_n rfl rfl ?_
        refine rk_aald (w := .ref (44 + 2 * i)) rfl (by assumption) (by decide) rfl (by omega) (by decide) (by rw [hro i hi]; rfl) ?_
        refine rk_aload_n rfl rfl ?_
        refine rk_get rfl (by assumption) rfl ?_
        refine rk_get rfl (by assumption) rfl ?_
        refine rk_cv1e rfl rfl (by assumption) rfl rfl (Nat.le_of_ble_eq_true rfl) (Nat.le_of_ble_eq_true rfl) (s48 e1 e2 hL) ?_
        refine rk_iconst (v := (-1)) rfl (by decide) ?_
        refine rk_icmp_eq rfl rfl (fun hc17 => ?_) (fun hc17 => ?_)
        · refine rk_aload_n rfl rfl ?_
          refine rk_get rfl (by assumption) rfl ?_
          refine rk_cv0v rfl rfl (by assumption) rfl rfl (Nat.le_of_ble_eq_true rfl) (Nat.le_of_ble_eq_true rfl) (s88 Q) (fun h1 hF => ?_)
          obtain ⟨F1, Q1⟩ := hF
          refine rk_iconst (v := nI 0) rfl (by decide) ?_
          refine rk_istore_n rfl (Nat.le_of_ble_eq_true rfl) rfl ?_
          refine (l180 c0 c19 hro hi e1 e2 hL (fun k hk => (hx k hk).2) (L + 1) 0 h1 (by omega) (by omega) F1 ⟨_, Q1, fun k hk => absurd hk (by omega)⟩).mono ?_
          rintro o ⟨w, h2, rfl, rfl, F2, R2⟩
          exact ⟨_, _, rfl, rfl, F2, ⟨_, _, R2.choose_spec.1⟩, fun _ => R2⟩
        · exact absurd hb hc17
      · replace hc5 := Decidable.not_not.mp (mt bI_0.mpr hc5)
        exact absurd hc5 (nm_eq (by omega))
