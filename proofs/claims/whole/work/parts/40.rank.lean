/-! ALL SETS THAT COME ABOUT: rank -/
def okA : Nat → Bool := fun _ => true
abbrev al (N : Nat → Nat) : Nat := 2 ^ N 0 - 1
theorem al_bd {N : Nat → Nat} (h : ¬ N 0 = 0) : 0 < al N ∧ al N < 2 ^ N 0 := by
  have : 2 ^ 1 ≤ 2 ^ N 0 := Nat.pow_le_pow_right (by decide) (by omega)
  unfold al
  omega
abbrev bz (N : Nat → Nat) : Bf := bfK (img N) okA (N 1) (al N) 16384
def mnp (f : Nat → Nat) (d : Nat) : Nat → Nat
  | 0 => d
  | i + 1 => if pop (f i) 14 < mnp f d i then pop (f i) 14 else mnp f d i
theorem mnp_le (f : Nat → Nat) {d : Nat} (hd : d ≤ 14) : ∀ i, mnp f d i ≤ 14
  | 0 => hd
  | i + 1 => by
    have := mnp_le f hd i
    rw [mnp]
    split <;> omega
theorem pop_full : ∀ n, n < 15 → pop (2 ^ n - 1) 14 = n := by decide
theorem mnp_eq {f : Nat → Nat} {n : Nat} (hn : n ≤ 14) (h0 : pop (f 0) 14 = n) : ∀ i, mnp f 14 (i + 1) = mnp f n (i + 1)
  | 0 => by
    show (if pop (f 0) 14 < 14 then pop (f 0) 14 else 14) = if pop (f 0) 14 < n then pop (f 0) 14 else n
    rw [h0]
    split <;> split <;> omega
  | i + 1 => by
    rw [mnp, mnp_eq hn h0 i]
    rfl
theorem mnp_s {f : Nat → Nat} {d i : Nat} : mnp f d (i + 1) = if pop (f i) 14 < mnp f d i then pop (f i) 14 else mnp f d i := rfl
theorem min_nI {x y : Nat} (hx : x < 2 ^ 31) (hy : y < 2 ^ 31) : (if nI y < nI x then nI y else nI x) = nI (if y < x then y else x) := by
  by_cases h : y < x
  · rw [if_pos h, if_pos ((nI_ltI hy hx).mpr h)]
  · rw [if_neg h, if_neg (mt (nI_ltI hy hx).mp h)]
theorem l109i {X : ai_X} {h : ai_H} {N : Nat → Nat} {n1 n2 : Int32} {xa xb : Value} {p : Nat} (hN : HN N) (C : CH h 3 N) (d24 : h[24]? = some (cSets n1 n2 xa xb)) (I : IM h (tf N true) (N 1)) (hp : 80 ≤ p) (h0 : ¬ N 0 = 0) {k : Nat} {B : Bf} (hB : BI (img N) okA (N 1) (al N) B) (hk : k < B.m) {P : ai_O → Prop} (z1 : ∀ g, FrS 22 p h g → SB g 22 p 16384 16384 (bfT (img N) okA B k (N 1)) → Rk X am_109 51 [some (.ref 24), some (.int (nI k)), some (.int (nI (N 1)))] [] g P) : ∀ (d : Nat) (t : Nat) (g : ai_H), N 1 < t + d → (t ≤ N 1) → (FrS 22 p h g) → (SB g 22 p 16384 16384 (bfT (img N) okA B k t)) → Rk X am_109 31 [some (.ref 24), some (.int (nI k)), some (.int (nI t))] [] g (P) := by
  intro d
  induction d with
  | zero => intro t g hd ht F S; exfalso; omega
  | succ d ih =>
    intro t g hd ht F S
    have C2 : CH g 3 N := C.fr (fun q _ _ => F.2 q (by omega) (by omega))
    have e3 := C2.1
    have e24 := (F.2 24 (by omega) (by omega)).trans d24
    have I2 : IM g (tf N true) (N 1) := I.fr (F.2 25 (by omega) (by omega))
    obtain ⟨base, e22⟩ := S.obj
    have h6 := hN.t
    have hn := hN.n
    have hp14 := hN.p14
    have hBt := hB.tones hk t ht
    have hkt : k < (bfT (img N) okA B k t).m := Nat.lt_of_lt_of_le hk (bfT_pre _ _ B k t).1
    obtain ⟨hst, hm16⟩ := set_bd hN (al_bd h0) hBt
    have hs16 := (hst k hkt).2
    have hT1 := bfT_ok (nx := img N) (ok := okA) (B := B) (k := k) (t := t) rfl
    refine rk_iload_n rfl rfl ?_
    refine rk_aload_n rfl rfl ?_
    refine rk_get rfl (by assumption) rfl ?_
    refine rk_get rfl (by assumption) rfl ?_
    refine rk_icmp_ge rfl rfl (fun hc35 => ?_) (fun hc35 => ?_)
    · replace hc35 := (nI_leI (by omega) (by omega)).mp hc35
      have ht2 : t = N 1 := by omega
      subst ht2
      exact z1 g F S
    · replace hc35 := mt (nI_leI (by omega) (by omega)).mpr hc35
      refine rk_aload_n rfl rfl ?_
      refine rk_get rfl (by assumption) rfl ?_
      refine rk_aload_n rfl rfl ?_
      refine rk_aload_n rfl rfl ?_
      refine rk_get rfl (by assumption) rfl ?_
      refine rk_iload_n rfl rfl ?_
      refine rk_cv1e rfl rfl (by assumption) rfl rfl (Nat.le_of_ble_eq_true rfl) (Nat.le_of_ble_eq_true rfl) (s98B S hkt) ?_
      refine rk_iload_n rfl rfl ?_
      refine rk_cv2e rfl rfl (by assumption) rfl rfl (Nat.le_of_ble_eq_true rfl) (Nat.le_of_ble_eq_true rfl) (s105 (may := true) hN e24 I2 (by omega) (by omega)) ?_
      rw [if_pos rfl]
      have hy := img_lt (s := (bfT (img N) okA B k t).st k) (t := t) hN (by omega)
      refine rk_iload_n rfl rfl ?_
      refine rk_iload_n rfl rfl ?_
      refine rk_cv3i rfl rfl (by assumption) rfl rfl (Nat.le_of_ble_eq_true rfl) (Nat.le_of_ble_eq_true rfl) (s101B S hBt.1 (by omega) (by omega) (by omega) (by omega)) (fun w h1 hF => ?_)
      obtain ⟨rfl, F1, S1⟩ := hF
      rw [← hT1] at S1
      refine rk_pop rfl ?_
      refine rk_iinc rfl rfl (n_inc _) rfl ?_
      refine rk_goto rfl rfl ?_
      exact ih (t + 1) _ (by omega) (by omega) (F.tr F1) S1
theorem l109 {X : ai_X} {h : ai_H} {N : Nat → Nat} {n1 n2 : Int32} {xa xb : Value} {p : Nat} (hN : HN N) (C : CH h 3 N) (d24 : h[24]? = some (cSets n1 n2 xa xb)) (I : IM h (tf N true) (N 1)) (hp : 80 ≤ p) (h0 : ¬ N 0 = 0) : ∀ (d : Nat) (k : Nat) (g : ai_H) (c2 : Option Value), 16384 < k + d → (k ≤ (bfK (img N) okA (N 1) (al N) k).m) → (k ≤ 16384) → (FrS 22 p h g) → (SB g 22 p 16384 16384 (bfK (img N) okA (N 1) (al N) k)) → Rk X am_109 21 [some (.ref 24), some (.int (nI k)), c2] [] g (Qv (fun h1 => FrS 22 p h h1 ∧ SB h1 22 p 16384 16384 (bz N))) := by
  intro d
  induction d with
  | zero => intro k g c2 hd hk hk2 F S; exfalso; omega
  | succ d ih =>
    intro k g c2 hd hk hk2 F S
    have C2 : CH g 3 N := C.fr (fun q _ _ => F.2 q (by omega) (by omega))
    have e3 := C2.1
    have e24 := (F.2 24 (by omega) (by omega)).trans d24
    have I2 : IM g (tf N true) (N 1) := I.fr (F.2 25 (by omega) (by omega))
    obtain ⟨base, e22⟩ := S.obj
    have h6 := hN.t
    have hn := hN.n
    have hp14 := hN.p14
    have hBk := BI.heads (nx := img N) (ok := okA) (T := N 1) (x := al N) k
    obtain ⟨hst, hm16⟩ := set_bd hN (al_bd h0) hBk
    refine rk_iload_n rfl rfl ?_
    refine rk_sipush (v := nI 16384) rfl (by decide) ?_
    refine rk_icmp_ge rfl rfl (fun hc23 => ?_) (fun hc23 => ?_)
    · replace hc23 := (nI_leI (by omega) (by omega)).mp hc23
      omega
    · replace hc23 := mt (nI_leI (by omega) (by omega)).mpr hc23
      refine rk_iload_n rfl rfl ?_
      refine rk_aload_n rfl rfl ?_
      refine rk_get rfl (by assumption) rfl ?_
      refine rk_cv0e rfl rfl (by assumption) rfl rfl (Nat.le_of_ble_eq_true rfl) (Nat.le_of_ble_eq_true rfl) (s97B S) ?_
      refine rk_icmp_ge rfl rfl (fun hc28 => ?_) (fun hc28 => ?_)
      · replace hc28 := (nI_leI (by omega) (by omega)).mp hc28
        refine rk_return rfl rfl ⟨_, rfl, F, ?_⟩
        unfold bz
        rw [bfK_end (W := 16384) (by omega) (by omega)]
        exact S
      · replace hc28 := mt (nI_leI (by omega) (by omega)).mpr hc28
        refine rk_iconst (v := nI 0) rfl (by decide) ?_
        refine rk_istore_n rfl (Nat.le_of_ble_eq_true rfl) rfl ?_
        refine l109i (B := (bfK (img N) okA (N 1) (al N) k)) hN C d24 I hp h0 hBk (by omega) ?_ (N 1 + 1) 0 g (by omega) (by omega) F S
        intro g2 F2 S2
        rw [← bfK_s (by omega)] at S2
        refine rk_iinc rfl rfl (n_inc _) rfl ?_
        refine rk_goto rfl rfl ?_
        exact ih (k + 1) g2 _ (by omega) (by have := (bfK_1 (img N) okA (N 1) (al N) k).1; omega) (by omega) F2 S2
theorem r109 {X : ai_X} {h : ai_H} {N : Nat → Nat} {n1 n2 : Int32} {xa xb : Value} {p : Nat} (hN : HN N) (C : CH h 3 N) (d24 : h[24]? = some (cSets n1 n2 xa xb)) (I : IM h (tf N true) (N 1)) (hp : 80 ≤ p) (h0 : ¬ N 0 = 0) (E : SE h 22 p 16384 16384) : Rk X am_109 6 [some (.ref 24), none, none] [] h (Qv (fun h1 => FrS 22 p h h1 ∧ SB h1 22 p 16384 16384 (bz N))) := by
  obtain ⟨base, e22⟩ := E.obj
  have e3 := C.1
  have hp14 := hN.p14
  have h6 := hN.t
  have hn := hN.n
  obtain ⟨ha1, ha2⟩ := al_bd h0
  refine rk_aload_n rfl rfl ?_
  refine rk_get rfl (by assumption) rfl ?_
  refine rk_iconst (v := nI 1) rfl (by decide) ?_
  refine rk_aload_n rfl rfl ?_
  refine rk_get rfl (by assumption) rfl ?_
  refine rk_get rfl (by assumption) rfl ?_
  refine rk_ishl rfl (b_1shlU (by omega)) ?_
  refine rk_iconst (v := nI 1) rfl (by decide) ?_
  refine rk_isub rfl (pk_sub (by omega)) ?_
  refine rk_iconst (v := (-1)) rfl (by decide) ?_
  refine rk_iconst (v := nI 0) rfl (by decide) ?_
  refine rk_cv3i rfl rfl (by assumption) rfl rfl (Nat.le_of_ble_eq_true rfl) (Nat.le_of_ble_eq_true rfl) (s101R E (by omega) (by omega)) (fun w h1 hF => ?_)
  obtain ⟨rfl, F1, S1⟩ := hF
  refine rk_pop rfl ?_
  refine rk_iconst (v := nI 0) rfl (by decide) ?_
  refine rk_istore_n rfl (Nat.le_of_ble_eq_true rfl) rfl ?_
  exact l109 hN C d24 I hp h0 16385 0 _ _ (by omega) (by omega) (by omega) F1 S1
theorem s109 {X : ai_X} {h : ai_H} {N : Nat → Nat} {n1 n2 : Int32} {xa xb : Value} {f25 : Nat → Int32} {b : Option Nat} (hN : HN N) (C : CH h 3 N) (d24 : h[24]? = some (cSets n1 n2 xa xb)) (c25 : h[25]? = some (cI 1536 f25)) (hf : ∀ j, j < 12 → f25 (128 * j) = 0) (h0 : ¬ N 0 = 0) (S : SrchAt h 22 16384 16384 b) (hb : ∀ p, b = some p → 80 ≤ p) (hl : 80 ≤ h.length) : Mt X am_109 [.ref 24] h (Qn (nc b) (ns b 49152) (Qv (fun h1 => h1.length = h.length + nc b ∧ (∀ q : Nat, q < h.length → q ≠ 22 → q ≠ 25 → ¬ (np b h.length ≤ q ∧ q < np b h.length + 3) → h1[q]? = h[q]?) ∧ IM h1 (tf N true) (N 1) ∧ SB h1 22 (np b h.length) 16384 16384 (bz N)))) := by
  have hp80 := np_80 hb hl
  refine rk_aload_n rfl rfl ?_
  refine rk_iconst (v := nI 1) rfl (by decide) ?_
  refine rk_cv1v rfl rfl d24 rfl rfl (Nat.le_of_ble_eq_true rfl) (Nat.le_of_ble_eq_true rfl) (s104 (may := true) hN C d24 c25 hf (by rw [bI_t rfl]; exact nI_one)) (fun h1 hF => ?_)
  obtain ⟨F1, I1⟩ := hF
  have e24 := (F1.2 24 (by omega)).trans d24
  have C1 := C.fr2 F1 (by omega)
  have S1 : SrchAt h1 22 16384 16384 b := S.fr (F1.2 22 (by omega)) (fun p e q _ _ => F1.2 q (by have := hb p e; omega))
  have E1 := s96b (X := X) S1 (fun p e => by have := hb p e; omega) (Or.inl rfl) (by omega) (by rw [F1.1]; omega)
  rw [F1.1] at E1
  refine rk_aload_n rfl rfl ?_
  refine rk_get rfl e24 rfl ?_
  obtain ⟨y, hy⟩ : ∃ fs, h1[22]? = some (.inr (7, fs)) := by
    rcases S1 with ⟨-, z⟩ | ⟨p, base, many, sl, s1, s2, -, z, -⟩
    · exact ⟨_, z⟩
    · exact ⟨_, z⟩
  refine rk_cq0v rfl rfl hy rfl rfl (Nat.le_of_ble_eq_true rfl) (Nat.le_of_ble_eq_true rfl) E1 (fun h2 hF => ?_)
  obtain ⟨F2, E2⟩ := hF
  have hl1 := F1.1
  have hl2 := F2.1
  have k2 : ∀ q : Nat, q < 80 → q ≠ 22 → h2[q]? = h1[q]? := fun q hq h22 => F2.2 q (by omega) h22 (by omega)
  refine (r109 hN (C1.fr (fun q _ _ => k2 q (by omega) (by omega))) ((k2 24 (by omega) (by omega)).trans e24) (I1.fr (k2 25 (by omega) (by omega))) hp80 h0 E2).mono ?_
  rintro o ⟨h3, rfl, F3, S3⟩
  refine ⟨_, rfl, by rw [F3.1, hl2, hl1], fun q a b1 c f => ?_, ?_, S3⟩
  · exact (F3.2 q b1 f).trans ((F2.2 q (by omega) b1 f).trans (F1.2 q (by omega)))
  · exact I1.fr ((F3.2 25 (by omega) (by omega)).trans (k2 25 (by omega) (by omega)))
theorem l110 {X : ai_X} {h : ai_H} {N : Nat → Nat} {n1 n2 : Int32} {xa xb : Value} {p : Nat} {B : Bf} (d24 : h[24]? = some (cSets n1 n2 xa xb)) (S : SB h 22 p 16384 16384 B) (hst : ∀ i, i < B.m → B.st i < 16384) (hm16 : B.m ≤ 16384) : ∀ (d : Nat) (i : Nat), B.m < i + d → (i ≤ B.m) → Rk X am_110 6 [some (.ref 24), some (.int (nI (mnp B.st 14 i))), some (.int (nI i))] [] h (Qe (nI (mnp B.st 14 B.m)) h) := by
  intro d
  induction d with
  | zero => intro i hd hi; exfalso; omega
  | succ d ih =>
    intro i hd hi
    obtain ⟨base, e22⟩ := S.obj
    have hml := mnp_le B.st (d := 14) (by omega) i
    have hpl := pop_le (B.st i) 14
    refine rk_iload_n rfl rfl ?_
    refine rk_aload_n rfl rfl ?_
    refine rk_get rfl (by assumption) rfl ?_
    refine rk_cv0e rfl rfl (by assumption) rfl rfl (Nat.le_of_ble_eq_true rfl) (Nat.le_of_ble_eq_true rfl) (s97B S) ?_
    refine rk_icmp_ge rfl rfl (fun hc10 => ?_) (fun hc10 => ?_)
    · replace hc10 := (nI_leI (by omega) (by omega)).mp hc10
      refine rk_iload_n rfl rfl ?_
      exact rk_ireturn rfl rfl (Qe_of (by rw [show i = B.m by omega]))
    · replace hc10 := mt (nI_leI (by omega) (by omega)).mpr hc10
      refine rk_iload_n rfl rfl ?_
      refine rk_aload_n rfl rfl ?_
      refine rk_get rfl (by assumption) rfl ?_
      refine rk_iload_n rfl rfl ?_
      refine rk_cv1e rfl rfl (by assumption) rfl rfl (Nat.le_of_ble_eq_true rfl) (Nat.le_of_ble_eq_true rfl) (s98B S (by omega)) ?_
      have hs16 := hst i (by omega)
      refine rk_cs1e rfl rfl rfl (Nat.le_of_ble_eq_true rfl) (Nat.le_of_ble_eq_true rfl) (s290 (by omega)) ?_
      refine rk_min rfl (Nat.le_of_ble_eq_true rfl) (min_nI (by omega) (by omega)) ?_
      refine rk_istore_n rfl (Nat.le_of_ble_eq_true rfl) rfl ?_
      refine rk_iinc rfl rfl (n_inc _) rfl ?_
      refine rk_goto rfl rfl ?_
      rw [← mnp_s]
      exact ih (i + 1) (by omega) (by omega)
theorem bz_bd' {N : Nat → Nat} {B : Bf} (hN : HN N) (h0 : ¬ N 0 = 0) (hB : BI (img N) okA (N 1) (al N) B) : (∀ i, i < B.m → B.st i < 16384) ∧ B.m < 16384 ∧ BI (img N) okA (N 1) (al N) B := by
  obtain ⟨h1, h2⟩ := set_bd hN (al_bd h0) hB
  have hp := hN.p14
  exact ⟨fun i hi => by have := (h1 i hi).2; omega, h2, hB⟩
theorem bz_bd {N : Nat → Nat} (hN : HN N) (h0 : ¬ N 0 = 0) : (∀ i, i < (bz N).m → (bz N).st i < 16384) ∧ (bz N).m < 16384 ∧ BI (img N) okA (N 1) (al N) (bz N) := bz_bd' hN h0 (BI.heads 16384)
theorem s110 {X : ai_X} {h : ai_H} {N : Nat → Nat} {n1 n2 : Int32} {xa xb : Value} {f25 : Nat → Int32} {b : Option Nat} (hN : HN N) (C : CH h 3 N) (d24 : h[24]? = some (cSets n1 n2 xa xb)) (c25 : h[25]? = some (cI 1536 f25)) (hf : ∀ j, j < 12 → f25 (128 * j) = 0) (h0 : ¬ N 0 = 0) (S : SrchAt h 22 16384 16384 b) (hb : ∀ p, b = some p → 80 ≤ p) (hl : 80 ≤ h.length) : Mt X am_110 [.ref 24] h (Qn (nc b) (ns b 49152) (Qi (fun w h1 => w = nI (mnp (bz N).st 14 (bz N).m) ∧ h1.length = h.length + nc b ∧ (∀ q : Nat, q < h.length → q ≠ 22 → q ≠ 25 → ¬ (np b h.length ≤ q ∧ q < np b h.length + 3) → h1[q]? = h[q]?) ∧ IM h1 (tf N true) (N 1) ∧ SB h1 22 (np b h.length) 16384 16384 (bz N)))) := by
  have hp80 := np_80 hb hl
  refine rk_aload_n rfl rfl ?_
  refine rk_cq0v rfl rfl d24 rfl rfl (Nat.le_of_ble_eq_true rfl) (Nat.le_of_ble_eq_true rfl) (s109 hN C d24 c25 hf h0 S hb hl) (fun h1 hF => ?_)
  obtain ⟨y1, y2, y3, y4⟩ := hF
  obtain ⟨b1, b2, b3⟩ := bz_bd hN h0
  refine rk_bipush (v := nI 14) rfl (by decide) ?_
  refine rk_istore_n rfl (Nat.le_of_ble_eq_true rfl) rfl ?_
  refine rk_iconst (v := nI 0) rfl (by decide) ?_
  refine rk_istore_n rfl (Nat.le_of_ble_eq_true rfl) rfl ?_
  refine (l110 (N := N) ((y2 24 (by omega) (by omega) (by omega) (by omega)).trans d24) y4 b1 (by omega) ((bz N).m + 1) 0 (by omega) (by omega)).mono ?_
  rintro o ⟨w, h2, rfl, rfl, rfl⟩
  exact ⟨_, _, rfl, rfl, y1, y2, y3, y4⟩
theorem s146 {X : ai_X} {h : ai_H} {tp n1 n2 : Int32} {N : Nat → Nat} {xa xb : Value} {f25 : Nat → Int32} {b : Option Nat} (d0 : h[0]? = some (cOne tp)) (hN : HN N) (C : CH h 3 N) (d24 : h[24]? = some (cSets n1 n2 xa xb)) (c25 : h[25]? = some (cI 1536 f25)) (hf : ∀ j, j < 12 → f25 (128 * j) = 0) (S : SrchAt h 22 16384 16384 b) (hb : ∀ p, b = some p → 80 ≤ p) (hl : 80 ≤ h.length) (O33 : ∃ n, h[33]? = some (.inr (1, [.ref 3, .ref 22, .ref 34, .ref 35, .int n]))) (h0 : ¬ N 0 = 0) : Mt X am_146 [.ref 0] h (Qn (nc b) (ns b 49152) (Qi (fun w h1 => w = nI (mnp (bz N).st 14 (bz N).m) ∧ CE h h1 b (-1) (bz N) (fun _ => false)))) := by
  have e3 := C.1
  have hn := hN.n
  have h80p := np_80 hb hl
  obtain ⟨n33, o33⟩ := O33
  refine rk_aload_n rfl rfl ?_
  refine rk_get rfl (by assumption) rfl ?_
  refine rk_get rfl (by assumption) rfl ?_
  refine rk_if_ne rfl rfl (fun hc3 => ?_) (fun hc3 => ?_)
  · replace hc3 := mt (n0_eq (by omega)).mpr hc3
    refine rk_aload_n rfl rfl ?_
    refine rk_get rfl (by assumption) rfl ?_
    refine rk_cq0i rfl rfl d24 rfl rfl (Nat.le_of_ble_eq_true rfl) (Nat.le_of_ble_eq_true rfl) (s110 hN C d24 c25 hf h0 S hb hl) (fun w h1 hF => ?_)
    obtain ⟨rfl, y1, y2, ⟨f, g1, g2, -⟩, y4⟩ := hF
    exact rk_ireturn rfl rfl ⟨_, _, rfl, rfl, y1, fun q a1 a2 a3 a4 a5 _ _ a8 => y2 q a1 a4 a5 a8, ⟨f, g1, g2⟩, ⟨n33, (y2 33 (by omega) (by omega) (by omega) (by omega)).trans o33⟩, y4.at', CF.none (fun i _ z => Bool.noConfusion z) (y2 15 (by omega) (by omega) (by omega) (by omega)) (y2 16 (by omega) (by omega) (by omega) (by omega))⟩
  · replace hc3 := Decidable.not_not.mp hc3
    replace hc3 := (n0_eq (by omega)).mp hc3
    exact absurd hc3 h0
theorem s146x {X : ai_X} {h : ai_H} {tp : Int32} {N : Nat → Nat} (d0 : h[0]? = some (cOne tp)) (hN : HN N) (C : CH h 3 N) (h0 : N 0 = 0) : Mt X am_146 [.ref 0] h (Qe (-5) h) := by
  have e3 := C.1
  have hn := hN.n
  refine rk_aload_n rfl rfl ?_
  refine rk_get rfl (by assumption) rfl ?_
  refine rk_get rfl (by assumption) rfl ?_
  refine rk_if_ne rfl rfl (fun hc3 => ?_) (fun hc3 => ?_)
  · replace hc3 := mt (n0_eq (by omega)).mpr hc3
    exact absurd h0 hc3
  · replace hc3 := Decidable.not_not.mp hc3
    replace hc3 := (n0_eq (by omega)).mp hc3
    refine rk_bipush (v := (-5)) rfl (by decide) ?_
    refine rk_goto rfl rfl ?_
    exact rk_ireturn rfl rfl Qe_mk
theorem l240i {X : ai_X} {h : ai_H} {w A : Nat → Int32} {N : Nat → Nat} {mk : Nat} (c53 : h[53]? = some (cI 2346 A)) (hN : HN N) (M : MH A N) (h0 : ¬ N 0 = 0) {k L n3 : Nat} {B : Bf} (hB : BI (img N) okA (N 1) (al N) B) (hk : k < B.m) {P : ai_O → Prop} (z1 : ∀ g, FrM h g → MB g w mk id1 ze1 (bfT (img N) okA B k (N 1)) → Rk X am_240 73 [some (.ref 52), some (.int (nI L)), some (.int (nI k)), some (.int (nI n3)), some (.int (nI (N 1)))] [] g P) : ∀ (d : Nat) (t : Nat) (g : ai_H), N 1 < t + d → (t ≤ N 1) → (FrM h g) → (MB g w mk id1 ze1 (bfT (img N) okA B k t)) → Rk X am_240 52 [some (.ref 52), some (.int (nI L)), some (.int (nI k)), some (.int (nI n3)), some (.int (nI t))] [] g (P) := by
  intro d
  induction d with
  | zero => intro t g hd ht F S; exfalso; omega
  | succ d ih =>
    intro t g hd ht F S
    obtain ⟨a0, a1, a268, a269, a270, a271, apl, apc, aot, asg, awt⟩ := id M
    obtain ⟨v, e52, hv21, hv22, -⟩ := S.obj
    obtain ⟨f57, f58, e57, e58, hsts⟩ := S.sts
    have hst1 : ∀ i, i < (bfT (img N) okA B k t).m → f57 i = nI ((bfT (img N) okA B k t).st i) := fun i hi => (hsts i hi).1
    have e53 := (F.2 53 (by omega) (by omega)).trans c53
    have h6 := hN.t
    have hn := hN.n
    have hp14 := hN.p14
    have hBt := hB.tones hk t ht
    have hkt : k < (bfT (img N) okA B k t).m := Nat.lt_of_lt_of_le hk (bfT_pre _ _ B k t).1
    obtain ⟨hst, hm16⟩ := set_bd hN (al_bd h0) hBt
    have hs16 := (hst k hkt).2
    have hT1 := bfT_ok (nx := img N) (ok := okA) (B := B) (k := k) (t := t) rfl
    refine rk_iload rfl rfl ?_
    refine rk_aload_n rfl rfl ?_
    refine rk_get rfl (by assumption) rfl ?_
    refine rk_iconst (v := nI 1) rfl (by decide) ?_
    refine rk_iald rfl (by assumption) (rfl) (by omega) (by decide) ?_
    rw [a1]
    refine rk_icmp_ge rfl rfl (fun hc57 => ?_) (fun hc57 => ?_)
    · replace hc57 := (nI_leI (by omega) (by omega)).mp hc57
      have ht2 : t = N 1 := by omega
      subst ht2
      exact z1 g F S
    · replace hc57 := mt (nI_leI (by omega) (by omega)).mpr hc57
      refine rk_aload_n rfl rfl ?_
      refine rk_aload_n rfl rfl ?_
      refine rk_aload_n rfl rfl ?_
      refine rk_get rfl (by assumption) rfl ?_
      refine rk_iload_n rfl rfl ?_
      refine rk_iald rfl (by assumption) (rfl) (by omega) (by decide) ?_
      rw [hst1 k hkt]
      refine rk_iload rfl rfl ?_
      refine rk_cv2e rfl rfl (by assumption) rfl rfl (Nat.le_of_ble_eq_true rfl) (Nat.le_of_ble_eq_true rfl) (s211 e52 e53 hN M (by omega) (by omega)) ?_
      have hy := img_lt (s := (bfT (img N) okA B k t).st k) (t := t) hN (by omega)
      refine rk_iconst (v := nI 0) rfl (by decide) ?_
      refine rk_iload_n rfl rfl ?_
      refine rk_iload rfl rfl ?_
      refine rk_cv4i rfl rfl (by assumption) rfl rfl (Nat.le_of_ble_eq_true rfl) (Nat.le_of_ble_eq_true rfl) (s232B (r1 := id1) (r2 := ze1) (x := img N ((bfT (img N) okA B k t).st k) t) S hBt.1 (by show img N ((bfT (img N) okA B k t).st k) t < _; omega) (by show 0 < _; omega) (fun i _ z _ => z) (by omega)) (fun w h1 hF => ?_)
      obtain ⟨rfl, F1, S1⟩ := hF
      rw [← hT1] at S1
      refine rk_pop rfl ?_
      refine rk_iinc rfl rfl (n_inc _) rfl ?_
      refine rk_goto rfl rfl ?_
      exact ih (t + 1) _ (by omega) (by omega) (F.tr F1) S1
theorem l240 {X : ai_X} {h : ai_H} {w A : Nat → Int32} {N : Nat → Nat} {mk : Nat} (c53 : h[53]? = some (cI 2346 A)) (hN : HN N) (M : MH A N) (h0 : ¬ N 0 = 0) : ∀ (d : Nat) (k : Nat) (g : ai_H) (c3 c4 : Option Value), 16384 < k + d → (k ≤ (bfK (img N) okA (N 1) (al N) k).m) → (k ≤ 16384) → (FrM h g) → (MB g w mk id1 ze1 (bfK (img N) okA (N 1) (al N) k)) → Rk X am_240 33 [some (.ref 52), some (.int (nI (mnp (bz N).st (N 0) k))), some (.int (nI k)), c3, c4] [] g (Qi (fun y h1 => y = nI (mnp (bz N).st (N 0) (bz N).m) ∧ FrM h h1 ∧ MB h1 w mk id1 ze1 (bz N))) := by
  intro d
  induction d with
  | zero => intro k g c3 c4 hd hk hk2 F S; exfalso; omega
  | succ d ih =>
    intro k g c3 c4 hd hk hk2 F S
    obtain ⟨a0, a1, a268, a269, a270, a271, apl, apc, aot, asg, awt⟩ := id M
    obtain ⟨v, e52, hv21, hv22, -⟩ := S.obj
    obtain ⟨f57, f58, e57, e58, hsts⟩ := S.sts
    have hst1 : ∀ i, i < (bfK (img N) okA (N 1) (al N) k).m → f57 i = nI ((bfK (img N) okA (N 1) (al N) k).st i) := fun i hi => (hsts i hi).1
    have e53 := (F.2 53 (by omega) (by omega)).trans c53
    have h6 := hN.t
    have hn := hN.n
    have hp14 := hN.p14
    have hBk := BI.heads (nx := img N) (ok := okA) (T := N 1) (x := al N) k
    obtain ⟨hst, hm16⟩ := set_bd hN (al_bd h0) hBk
    have hml := mnp_le (bz N).st (d := N 0) (by omega) k
    have hpre : Pre (bfK (img N) okA (N 1) (al N) k) (bz N) := bfK_pre (by omega)
    have hpl := pop_le ((bfK (img N) okA (N 1) (al N) k).st k) 14
    refine rk_iload_n rfl rfl ?_
    refine rk_aload_n rfl rfl ?_
    refine rk_get rfl (by assumption) rfl ?_
    rw [hv21]
    refine rk_icmp_ge rfl rfl (fun hc36 => ?_) (fun hc36 => ?_)
    · replace hc36 := (nI_leI (by omega) (by omega)).mp hc36
      refine rk_iload_n rfl rfl ?_
      have hend := bfK_end (nx := img N) (ok := okA) (T := N 1) (x := al N) (k := k) (W := 16384) (by omega) (by omega)
      have hkm : k = (bz N).m := by unfold bz; rw [hend]; omega
      refine rk_ireturn rfl rfl ⟨_, _, rfl, by rw [← hkm], F, ?_⟩
      unfold bz
      rw [hend]
      exact S
    · replace hc36 := mt (nI_leI (by omega) (by omega)).mpr hc36
      refine rk_aload_n rfl rfl ?_
      refine rk_get rfl (by assumption) rfl ?_
      refine rk_iload_n rfl rfl ?_
      refine rk_iald rfl (by assumption) (rfl) (by omega) (by decide) ?_
      rw [hst1 k (by omega)]
      have hs16 := (hst k (by omega)).2
      have hbk := (hpre.2 k (by omega)).1
      refine rk_cs1e rfl rfl rfl (Nat.le_of_ble_eq_true rfl) (Nat.le_of_ble_eq_true rfl) (s213 (by omega)) ?_
      refine rk_istore_n rfl (Nat.le_of_ble_eq_true rfl) rfl ?_
      refine rk_iload_n rfl rfl ?_
      refine rk_iload_n rfl rfl ?_
      refine rk_icmp_ge rfl rfl (fun hc45 => ?_) (fun hc45 => ?_)
      · replace hc45 := (nI_leI (by omega) (by omega)).mp hc45
        have hmn : mnp (bz N).st (N 0) (k + 1) = mnp (bz N).st (N 0) k := by rw [mnp_s, hbk, if_neg (by omega)]
        refine rk_iload_n rfl rfl ?_
        refine rk_istore_n rfl (Nat.le_of_ble_eq_true rfl) rfl ?_
        refine rk_iconst (v := nI 0) rfl (by decide) ?_
        refine rk_istore rfl (Nat.le_of_ble_eq_true rfl) rfl ?_
        rw [← hmn]
        refine l240i (B := (bfK (img N) okA (N 1) (al N) k)) c53 hN M h0 hBk (by omega) ?_ (N 1 + 1) 0 g (by omega) (by omega) F S
        intro g2 F2 S2
        rw [← bfK_s (by omega)] at S2
        refine rk_iinc rfl rfl (n_inc _) rfl ?_
        refine rk_goto rfl rfl ?_
        exact ih (k + 1) g2 _ _ (by omega) (by have := (bfK_1 (img N) okA (N 1) (al N) k).1; omega) (by omega) F2 S2
      · replace hc45 := mt (nI_leI (by omega) (by omega)).mpr hc45
        have hmn : mnp (bz N).st (N 0) (k + 1) = pop ((bfK (img N) okA (N 1) (al N) k).st k) 14 := by rw [mnp_s, hbk, if_pos (by omega)]
        refine rk_iload_n rfl rfl ?_
        refine rk_goto rfl rfl ?_
        refine rk_istore_n rfl (Nat.le_of_ble_eq_true rfl) rfl ?_
        refine rk_iconst (v := nI 0) rfl (by decide) ?_
        refine rk_istore rfl (Nat.le_of_ble_eq_true rfl) rfl ?_
        rw [← hmn]
        refine l240i (B := (bfK (img N) okA (N 1) (al N) k)) c53 hN M h0 hBk (by omega) ?_ (N 1 + 1) 0 g (by omega) (by omega) F S
        intro g2 F2 S2
        rw [← bfK_s (by omega)] at S2
        refine rk_iinc rfl rfl (n_inc _) rfl ?_
        refine rk_goto rfl rfl ?_
        exact ih (k + 1) g2 _ _ (by omega) (by have := (bfK_1 (img N) okA (N 1) (al N) k).1; omega) (by omega) F2 S2
theorem s240 {X : ai_X} {h : ai_H} {v A : Nat → Int32} {N : Nat → Nat} {mk : Nat} (c0 : h[52]? = some (cMdl v)) (c53 : h[53]? = some (cI 2346 A)) (hN : HN N) (M : MH A N) (H : MQs h mk) (h0 : ¬ N 0 = 0) : Rk X am_240 3 (ai_loc (ai_mL am_240) [.ref 52]) [] h (Qi (fun y h1 => y = nI (mnp (bz N).st (N 0) (bz N).m) ∧ FrM h h1 ∧ MB h1 v (mk + 1) id1 ze1 (bz N))) := by
  obtain ⟨a0, a1, a268, a269, a270, a271, apl, apc, aot, asg, awt⟩ := id M
  have hn := hN.n
  have hp14 := hN.p14
  obtain ⟨ha1, ha2⟩ := al_bd h0
  refine rk_aload_n rfl rfl ?_
  refine rk_get rfl (by assumption) rfl ?_
  refine rk_iconst (v := nI 0) rfl (by decide) ?_
  refine rk_iald rfl (by assumption) (rfl) (by omega) (by decide) ?_
  rw [a0]
  refine rk_if_ne rfl rfl (fun hc7 => ?_) (fun hc7 => ?_)
  · replace hc7 := mt (n0_eq (by omega)).mpr hc7
    refine rk_aload_n rfl rfl ?_
    refine rk_cv0v rfl rfl (by assumption) rfl rfl (Nat.le_of_ble_eq_true rfl) (Nat.le_of_ble_eq_true rfl) (s231Q H c0) (fun h1 hF => ?_)
    obtain ⟨F1, E1⟩ := hF
    obtain ⟨v1, e52⟩ := E1.obj
    have e53 := (F1.2 53 (by omega) (by omega)).trans c53
    refine rk_aload_n rfl rfl ?_
    refine rk_iconst (v := nI 1) rfl (by decide) ?_
    refine rk_aload_n rfl rfl ?_
    refine rk_get rfl (by assumption) rfl ?_
    refine rk_iconst (v := nI 0) rfl (by decide) ?_
    refine rk_iald rfl (by assumption) (rfl) (by omega) (by decide) ?_
    rw [a0]
    refine rk_ishl rfl (b_1shlU (by omega)) ?_
    refine rk_iconst (v := nI 1) rfl (by decide) ?_
    refine rk_isub rfl (pk_sub (by omega)) ?_
    refine rk_iconst (v := nI 0) rfl (by decide) ?_
    refine rk_iconst (v := (-1)) rfl (by decide) ?_
    refine rk_iconst (v := (-1)) rfl (by decide) ?_
    refine rk_cv4i rfl rfl (by assumption) rfl rfl (Nat.le_of_ble_eq_true rfl) (Nat.le_of_ble_eq_true rfl) (s232R (r1 := id1) (r2 := ze1) (x := al N) E1 (by show al N < _; omega) (by show 0 < _; omega)) (fun w h1 hF => ?_)
    obtain ⟨rfl, F2, S2⟩ := hF
    replace e53 := (F2.2 53 (by omega) (by omega)).trans e53
    obtain ⟨v2, f52, -⟩ := S2.obj
    refine rk_pop rfl ?_
    refine rk_aload_n rfl rfl ?_
    refine rk_get rfl (by assumption) rfl ?_
    refine rk_iconst (v := nI 0) rfl (by decide) ?_
    refine rk_iald rfl (by assumption) (rfl) (by omega) (by decide) ?_
    rw [a0]
    refine rk_istore_n rfl (Nat.le_of_ble_eq_true rfl) rfl ?_
    refine rk_iconst (v := nI 0) rfl (by decide) ?_
    refine rk_istore_n rfl (Nat.le_of_ble_eq_true rfl) rfl ?_
    exact l240 c53 hN M h0 16385 0 _ _ _ (by omega) (by omega) (by omega) (F1.tr F2) S2
  · replace hc7 := Decidable.not_not.mp hc7
    replace hc7 := (n0_eq (by omega)).mp hc7
    exact absurd hc7 h0
theorem s240x {X : ai_X} {h : ai_H} {v A : Nat → Int32} {N : Nat → Nat} (c0 : h[52]? = some (cMdl v)) (c53 : h[53]? = some (cI 2346 A)) (hN : HN N) (M : MH A N) (h0 : N 0 = 0) : Rk X am_240 3 (ai_loc (ai_mL am_240) [.ref 52]) [] h (Qe (-5) h) := by
  obtain ⟨a0, a1, a268, a269, a270, a271, apl, apc, aot, asg, awt⟩ := id M
  have hn := hN.n
  refine rk_aload_n rfl rfl ?_
  refine rk_get rfl (by assumption) rfl ?_
  refine rk_iconst (v := nI 0) rfl (by decide) ?_
  refine rk_iald rfl (by assumption) (rfl) (by omega) (by decide) ?_
  rw [a0]
  refine rk_if_ne rfl rfl (fun hc7 => ?_) (fun hc7 => ?_)
  · replace hc7 := mt (n0_eq (by omega)).mpr hc7
    exact absurd h0 hc7
  · replace hc7 := Decidable.not_not.mp hc7
    replace hc7 := (n0_eq (by omega)).mp hc7
    refine rk_bipush (v := (-5)) rfl (by decide) ?_
    exact rk_ireturn rfl rfl Qe_mk
theorem ob15 (X : ai_X) : O15 X Inv := by
  refine ob_cells fun m c s h hm I => ?_
  obtain ⟨tp, T, A, im, rs, rm, nu, fk, fp, b, hP⟩ := id I
  obtain ⟨N, mk, hN, C, M, -, hV, hFV, H, hmk, hv⟩ := Inv.sdat hP hm
  obtain ⟨hA, hB, hR, hI, hS, hO, hM, hVV, hD, hc, hs⟩ := id hP
  obtain ⟨v, d52⟩ := I.m52
  have d53 := hM.2.1
  have d0 := hA.1
  have h80 := hM.len
  by_cases h0 : N 0 = 0
  · exact og_cells (og_pure I (s146x d0 hN C h0) (md_thr rfl rfl rfl rfl d52 (fun h2 g2 hk => s240x g2 ((hk 53 (by omega)).trans d53) hN M h0)))
  · obtain ⟨S2, S3, ⟨n1, n2, xa, xb, d24, hvals⟩, f25, c25, hf⟩ := id hS
    have hb2 : ∀ p, b 2 = some p → 80 ≤ p := fun p e => (hD 2 p (by omega) e).1
    have hp80 := np_80 hb2 h80
    obtain ⟨b1, b2, b3⟩ := bz_bd hN h0
    refine ⟨_, _, _, _, s146 d0 hN C d24 c25 hf S2 hb2 h80 hO.2.1 h0, ?_⟩
    rintro h1 E k1
    have kq : ∀ q : Nat, 44 ≤ q → q < 80 → h1[q]? = h[q]? := fun q a1 a2 => E.2.1 q (by omega) (by omega) (by omega) (by omega) (by omega) (by omega) (by omega) (by omega)
    have e52 := (kq 52 (by omega) (by omega)).trans d52
    refine ⟨⟨_, e52⟩, md_g rfl rfl rfl rfl e52 (fun h2 g2 hk hl => ?_)⟩
    have H2 : MQs h2 mk := H.fr (fun q a1 a2 => (hk q (by omega)).trans (kq q (by omega) (by omega))) d52 g2 rfl
    have e53 := (hk 53 (by omega)).trans ((kq 53 (by omega) (by omega)).trans d53)
    refine (s240 g2 e53 hN M H2 h0).mono ?_
    rintro o ⟨y, h3, e1, hy, F3, w3⟩
    subst e1
    refine ⟨_, _, rfl, hy.trans ?_, fun k2 => fin2 hP hV hFV (by omega) (hv v d52) E hk F3.f w3.mw ((F3.2 53 (by omega) (by omega)).trans e53) (MF.none (fun i _ z => Bool.noConfusion z)) b3 hl (k1.trans k2)⟩
    have hn := hN.n
    obtain ⟨j, hj⟩ : ∃ j, (bz N).m = j + 1 := ⟨(bz N).m - 1, by have := b3.1; omega⟩
    rw [hj, mnp_eq hN.n (by rw [b3.2.1]; exact pop_full (N 0) (by omega))]
