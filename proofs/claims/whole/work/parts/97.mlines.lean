/-! HOUSE: the model's lines -/
def MPd (v w : Nat → Int32) : Prop := ∀ j, j ≠ 6 → j ≠ 7 → j ≠ 9 → j ≠ 10 → j ≠ 11 → j ≠ 12 → w j = v j
theorem MPd.rfl' {v : Nat → Int32} : MPd v v := fun _ _ _ _ _ _ _ => rfl
theorem MPd.tr {v w x : Nat → Int32} (a : MPd v w) (b : MPd w x) : MPd v x := fun j h1 h2 h3 h4 h5 h6 => (b j h1 h2 h3 h4 h5 h6).trans (a j h1 h2 h3 h4 h5 h6)
theorem MO.p {v w : Nat → Int32} (a : MO v w) : MPd v w := fun j h1 h2 h3 h4 _ _ => a j h1 h2 h3 h4
theorem MPd.e8 {v w : Nat → Int32} {n : Nat} (a : MPd v w) (h : v 8 = nI n) : w 8 = nI n := (a 8 (by omega) (by omega) (by omega) (by omega) (by omega) (by omega)).trans h
def FrWd (h h1 : ai_H) : Prop := h1.length = h.length ∧ ∀ q : Nat, q ≠ 52 → q ≠ 56 → h1[q]? = h[q]?
theorem FrWd.rfl' {h : ai_H} : FrWd h h := ⟨rfl, fun _ _ _ => rfl⟩
theorem FrWd.t52 {h h1 h2 : ai_H} (a : FrWd h h1) (b : Fr 52 53 h1 h2) : FrWd h h2 := ⟨b.1.trans a.1, fun q x y => (b.2 q (by omega)).trans (a.2 q x y)⟩
theorem FrWd.t56 {h h1 h2 : ai_H} (a : FrWd h h1) (hk : ∀ q : Nat, q ≠ 56 → h2[q]? = h1[q]?) (hl : h2.length = h1.length) : FrWd h h2 := ⟨hl.trans a.1, fun q x y => (hk q y).trans (a.2 q x y)⟩
theorem FrWd.tr {h h1 h2 : ai_H} (a : FrWd h h1) (b : FrWd h1 h2) : FrWd h h2 := ⟨b.1.trans a.1, fun q x y => (b.2 q x y).trans (a.2 q x y)⟩
/-- the model's draft -/
def MCr (f c : Nat → Int32) : Prop := ∀ q, q < 281 → (¬ c 1 = 0 ∨ ¬ (2 ≤ q ∧ q < 170)) → f q = c q
theorem MCr.u {f c : Nat → Int32} {q : Nat} {x : Int32} (hq : q ≠ 1) (H : MCr f c) : MCr (upd f q x) (upd c q x) := fun j hj h => by
  by_cases z : j = q
  · rw [z, updS, updS]
  · rw [updE (Ne.symm hq)] at h
    rw [updE z, updE z]
    exact H j hj h
/-- the model has read this -/
def MSd (h h1 : ai_H) (v : Nat → Int32) (b : Nat → Nat) (n : Nat) (r : RR) : Prop := FrWd h h1 ∧ ∃ w f, h1[52]? = some (cMdl w) ∧ MPd v w ∧ h1[56]? = some (cI 281 f) ∧ ((r.k = 0 ∧ w 11 = 0 ∧ MDT w b n r.q ∧ MCr f r.c) ∨ (¬ r.k = 0 ∧ w 11 = nI r.k ∧ w 12 = nI r.pl))
theorem MSd.ok {h h1 : ai_H} {v w f c : Nat → Int32} {b : Nat → Nat} {n q : Nat} (a : FrWd h h1) (c0 : h1[52]? = some (cMdl w)) (p : MPd v w) (e : h1[56]? = some (cI 281 f)) (y : w 11 = 0) (t : MDT w b n q) (m : MCr f c) : MSd h h1 v b n (okR c q) := ⟨a, w, f, c0, p, e, Or.inl ⟨rfl, y, t, m⟩⟩
theorem MSd.f {h h1 : ai_H} {v w f : Nat → Int32} {b : Nat → Nat} {n k pl : Nat} (a : FrWd h h1) (c0 : h1[52]? = some (cMdl w)) (p : MPd v w) (e : h1[56]? = some (cI 281 f)) (hk : ¬ k = 0) (y : w 11 = nI k) (x : w 12 = nI pl) : MSd h h1 v b n (fR k pl) := ⟨a, w, f, c0, p, e, Or.inr ⟨hk, y, x⟩⟩
theorem s189 {X : ai_X} {h : ai_H} {w : Nat → Int32} {kk : Int32} (c0 : h[52]? = some (cMdl w)) (w11 : w 11 = 0) : Mt X am_189 [.ref 52, .int kk] h (Qv (fun h1 => Fr 52 53 h h1 ∧ ∃ w1, h1[52]? = some (cMdl w1) ∧ w1 11 = (if w 9 = nI 14 then nI 1 else kk) ∧ w1 12 = w 6 ∧ ∀ j, j ≠ 11 → j ≠ 12 → w1 j = w j)) := by
  refine rk_aload_n rfl rfl ?_
  refine rk_get rfl (by assumption) rfl ?_
  rw [w11]
  refine rk_if_eq rfl rfl (fun _ => ?_) (fun y => absurd rfl y)
  refine rk_aload_n rfl rfl ?_
  refine rk_aload_n rfl rfl ?_
  refine rk_get rfl (by assumption) rfl ?_
  refine rk_bipush (v := nI 14) rfl (by decide) ?_
  refine rk_icmp_ne rfl rfl (fun hc8 => ?_) (fun hc8 => ?_)
  · refine rk_iload_n rfl rfl ?_
    refine rk_putO rfl c0 (f := 11) (by omega) (fun h1 w1 c1 u1 wo1 hk1 hl1 => ?_)
    refine rk_aload_n rfl rfl ?_
    refine rk_aload_n rfl rfl ?_
    refine rk_get rfl (by assumption) rfl ?_
    refine rk_putO rfl c1 (f := 12) (by omega) (fun h2 w2 c2 u2 wo2 hk2 hl2 => ?_)
    exact rk_return rfl rfl ⟨_, rfl, (Fr.mk1 hk1 hl1 (by omega) (by omega)).tr (Fr.mk1 hk2 hl2 (by omega) (by omega)), _, c2, (wo2 11 (by omega)).trans (u1.trans (by first | rw [if_pos hc8] | rw [if_neg hc8])), u2.trans (wo1 6 (by omega)), fun j a c => (wo2 j c).trans (wo1 j a)⟩
  · replace hc8 := Decidable.not_not.mp hc8
    refine rk_iconst (v := nI 1) rfl (by decide) ?_
    refine rk_goto rfl rfl ?_
    refine rk_putO rfl c0 (f := 11) (by omega) (fun h1 w1 c1 u1 wo1 hk1 hl1 => ?_)
    refine rk_aload_n rfl rfl ?_
    refine rk_aload_n rfl rfl ?_
    refine rk_get rfl (by assumption) rfl ?_
    refine rk_putO rfl c1 (f := 12) (by omega) (fun h2 w2 c2 u2 wo2 hk2 hl2 => ?_)
    exact rk_return rfl rfl ⟨_, rfl, (Fr.mk1 hk1 hl1 (by omega) (by omega)).tr (Fr.mk1 hk2 hl2 (by omega) (by omega)), _, c2, (wo2 11 (by omega)).trans (u1.trans (by first | rw [if_pos hc8] | rw [if_neg hc8])), u2.trans (wo1 6 (by omega)), fun j a c => (wo2 j c).trans (wo1 j a)⟩
theorem s189F {X : ai_X} {h : ai_H} {w : Nat → Int32} {kk : Int32} (c0 : h[52]? = some (cMdl w)) (w11 : ¬ w 11 = 0) : Mt X am_189 [.ref 52, .int kk] h (Qv (fun h1 => h1 = h)) := by
  refine rk_aload_n rfl rfl ?_
  refine rk_get rfl (by assumption) rfl ?_
  refine rk_if_eq rfl rfl (fun hc2 => ?_) (fun hc2 => ?_)
  · exact absurd hc2 w11
  · exact rk_return rfl rfl ⟨_, rfl, rfl⟩
theorem s190 {X : ai_X} {h : ai_H} {w : Nat → Int32} {k kk : Nat} (c0 : h[52]? = some (cMdl w)) (w11 : w 11 = 0) (w9 : w 9 = nI k) (hk : k ≤ 14) (hkk : kk ≤ 14) : Mt X am_190 [.ref 52, .int (nI kk)] h (Qe (bI (k = kk)) h) := by
  refine rk_aload_n rfl rfl ?_
  refine rk_get rfl (by assumption) rfl ?_
  rw [w11]
  refine rk_if_ne rfl rfl (fun y => absurd rfl y) (fun _ => ?_)
  refine rk_aload_n rfl rfl ?_
  refine rk_get rfl (by assumption) rfl ?_
  rw [w9]
  refine rk_iload_n rfl rfl ?_
  refine rk_icmp_ne rfl rfl (fun hc6 => ?_) (fun hc6 => ?_)
  · replace hc6 := mt (nI_eq (by omega) (by omega)).mpr hc6
    refine rk_iconst (v := nI 0) rfl (by decide) ?_
    first | exact rk_ireturn rfl rfl (Qe_of (by rw [bI_t (by omega)]; rfl)) | exact rk_ireturn rfl rfl (Qe_of (by rw [bI_f (by omega)]; rfl))
  · replace hc6 := Decidable.not_not.mp hc6
    replace hc6 := (nI_eq (by omega) (by omega)).mp hc6
    refine rk_iconst (v := nI 1) rfl (by decide) ?_
    refine rk_goto rfl rfl ?_
    first | exact rk_ireturn rfl rfl (Qe_of (by rw [bI_t (by omega)]; rfl)) | exact rk_ireturn rfl rfl (Qe_of (by rw [bI_f (by omega)]; rfl))
theorem s190F {X : ai_X} {h : ai_H} {w : Nat → Int32} {kk : Int32} (c0 : h[52]? = some (cMdl w)) (w11 : ¬ w 11 = 0) : Mt X am_190 [.ref 52, .int kk] h (Qe 0 h) := by
  refine rk_aload_n rfl rfl ?_
  refine rk_get rfl (by assumption) rfl ?_
  refine rk_if_ne rfl rfl (fun hc2 => ?_) (fun hc2 => ?_)
  · refine rk_iconst (v := nI 0) rfl (by decide) ?_
    exact rk_ireturn rfl rfl Qe_mk
  · replace hc2 := Decidable.not_not.mp hc2
    exact absurd hc2 w11
theorem s191 {X : ai_X} {h : ai_H} {b : Nat → Nat} {n q : Nat} {w : Nat → Int32} (c0 : h[52]? = some (cMdl w)) (Tp : TP h 55 b) (hn : n ≤ 600) (w8 : w 8 = nI n) (w11 : w 11 = 0) (T : MDT w b n q) (hq : q ≤ n) {kk : Nat} (hkk : kk ≤ 14) : Mt X am_191 [.ref 52, .int (nI kk)] h (Qi (fun y h1 => (tkd b n q = kk ∧ y = nI 1 ∧ Fr 52 53 h h1 ∧ ∃ w1, h1[52]? = some (cMdl w1) ∧ MPd w w1 ∧ w1 11 = 0 ∧ MDT w1 b n (te b n q)) ∨ (¬ tkd b n q = kk ∧ y = 0 ∧ h1 = h))) := by
  refine rk_aload_n rfl rfl ?_
  refine rk_iload_n rfl rfl ?_
  refine rk_cv1e rfl rfl (by assumption) rfl rfl (Nat.le_of_ble_eq_true rfl) (Nat.le_of_ble_eq_true rfl) (s190 c0 w11 T.2.2.1 tkd_le hkk) ?_
  refine rk_if_ne rfl rfl (fun hc3 => ?_) (fun hc3 => ?_)
  · replace hc3 := Decidable.not_not.mp (mt bI_0.mpr hc3)
    refine rk_aload_n rfl rfl ?_
    refine rk_cv0v rfl rfl (by assumption) rfl rfl (Nat.le_of_ble_eq_true rfl) (Nat.le_of_ble_eq_true rfl) (s188 c0 Tp hn w8 (te_b hq).2.1 T.2.1) (fun h1 hF => ?_)
    obtain ⟨F1, w1, c1, T1, Q1⟩ := hF
    refine rk_iconst (v := nI 1) rfl (by decide) ?_
    exact rk_ireturn rfl rfl ⟨_, _, rfl, Or.inl ⟨hc3, rfl, F1, w1, c1, Q1.p, ((Q1 11 (by omega) (by omega) (by omega) (by omega)).trans w11), T1⟩⟩
  · replace hc3 := Decidable.not_not.mp hc3
    replace hc3 := (bI_0).mp hc3
    refine rk_iconst (v := nI 0) rfl (by decide) ?_
    exact rk_ireturn rfl rfl ⟨_, _, rfl, Or.inr ⟨hc3, rfl, rfl⟩⟩
theorem s191F {X : ai_X} {h : ai_H} {w : Nat → Int32} {kk : Int32} (c0 : h[52]? = some (cMdl w)) (w11 : ¬ w 11 = 0) : Mt X am_191 [.ref 52, .int kk] h (Qe 0 h) := by
  refine rk_aload_n rfl rfl ?_
  refine rk_iload_n rfl rfl ?_
  refine rk_cv1e rfl rfl (by assumption) rfl rfl (Nat.le_of_ble_eq_true rfl) (Nat.le_of_ble_eq_true rfl) (s190F c0 w11) ?_
  refine rk_if_ne rfl rfl (fun y => absurd rfl y) (fun _ => ?_)
  refine rk_iconst (v := nI 0) rfl (by decide) ?_
  exact rk_ireturn rfl rfl Qe_mk
theorem MDT.k {w : Nat → Int32} {b : Nat → Nat} {n q : Nat} {x : Int32} (T : MDT w b n q) : (if w 9 = nI 14 then nI 1 else x) = if tkd b n q = 14 then nI 1 else x := by
  have h := nI_eq (a := tkd b n q) (b := 14) (by have := tkd_le (b := b) (n := n) (p := q); omega) (by decide)
  rw [T.2.2.1]
  by_cases z : tkd b n q = 14
  · rw [if_pos z, if_pos (h.mpr z)]
  · rw [if_neg z, if_neg (mt h.mp z)]
theorem mp11 {w w1 : Nat → Int32} (h : ∀ j, j ≠ 11 → j ≠ 12 → w1 j = w j) : MPd w w1 := fun j _ _ _ _ a c => h j a c
theorem s192 {X : ai_X} {h : ai_H} {b : Nat → Nat} {n q : Nat} {w : Nat → Int32} (c0 : h[52]? = some (cMdl w)) (Tp : TP h 55 b) (hn : n ≤ 600) (w8 : w 8 = nI n) (w11 : w 11 = 0) (T : MDT w b n q) (hq : q ≤ n) : Mt X am_192 [.ref 52, .int (nI 12)] h (Qv (fun h1 => Fr 52 53 h h1 ∧ ∃ w1, h1[52]? = some (cMdl w1) ∧ MPd w w1 ∧ ((tkd b n q = 12 ∧ w1 11 = 0 ∧ MDT w1 b n (te b n q)) ∨ (¬ tkd b n q = 12 ∧ w1 11 = nI (if tkd b n q = 14 then 1 else 2) ∧ w1 12 = nI (ts b n q))))) := by
  refine rk_aload_n rfl rfl ?_
  refine rk_iload_n rfl rfl ?_
  refine rk_cv1i rfl rfl (by assumption) rfl rfl (Nat.le_of_ble_eq_true rfl) (Nat.le_of_ble_eq_true rfl) (s191 c0 Tp hn w8 w11 T hq (kk := 12) (by omega)) (fun w h1 hF => ?_)
  rcases hF with ⟨k12, rfl, F1, w1, c1, P1, y1, T1⟩ | ⟨k12, rfl, rfl⟩
  · refine rk_if_ne rfl rfl (fun _ => ?_) (fun y => absurd y (by decide))
    exact rk_return rfl rfl ⟨_, rfl, F1, w1, c1, P1, Or.inl ⟨k12, y1, T1⟩⟩
  · refine rk_if_ne rfl rfl (fun y => absurd rfl y) (fun _ => ?_)
    refine rk_aload_n rfl rfl ?_
    refine rk_iconst (v := nI 2) rfl (by decide) ?_
    refine rk_cv1v rfl rfl (by assumption) rfl rfl (Nat.le_of_ble_eq_true rfl) (Nat.le_of_ble_eq_true rfl) (s189 c0 w11) (fun h1 hF => ?_)
    obtain ⟨F1, w1, c1, u1, u2, wo⟩ := hF
    rw [T.k] at u1
    exact rk_return rfl rfl ⟨_, rfl, F1, w1, c1, mp11 wo, Or.inr ⟨k12, u1.trans (by split <;> rfl), u2.trans T.1⟩⟩
theorem s192F {X : ai_X} {h : ai_H} {w : Nat → Int32} {kk : Int32} (c0 : h[52]? = some (cMdl w)) (w11 : ¬ w 11 = 0) : Mt X am_192 [.ref 52, .int kk] h (Qv (fun h1 => h1 = h)) := by
  refine rk_aload_n rfl rfl ?_
  refine rk_iload_n rfl rfl ?_
  refine rk_cv1e rfl rfl (by assumption) rfl rfl (Nat.le_of_ble_eq_true rfl) (Nat.le_of_ble_eq_true rfl) (s191F c0 w11) ?_
  refine rk_if_ne rfl rfl (fun y => absurd rfl y) (fun _ => ?_)
  refine rk_aload_n rfl rfl ?_
  refine rk_iconst (v := nI 2) rfl (by decide) ?_
  refine rk_cv1v rfl rfl (by assumption) rfl rfl (Nat.le_of_ble_eq_true rfl) (Nat.le_of_ble_eq_true rfl) (s189F c0 w11) (fun h1 hF => ?_)
  subst hF
  exact rk_return rfl rfl ⟨_, rfl, rfl⟩
theorem s193 {X : ai_X} {h : ai_H} {b : Nat → Nat} {n q : Nat} {w : Nat → Int32} (c0 : h[52]? = some (cMdl w)) (Tp : TP h 55 b) (hn : n ≤ 600) (w8 : w 8 = nI n) (w11 : w 11 = 0) (T : MDT w b n q) (hq : q ≤ n) {lo hi : Nat} (hlo : lo ≤ 1000) (hhi : hi ≤ 1000) : Mt X am_193 [.ref 52, .int (nI lo), .int (nI hi)] h (Qi (fun y h1 => Fr 52 53 h h1 ∧ ∃ w1, h1[52]? = some (cMdl w1) ∧ MPd w w1 ∧ ((nf b n lo hi q = 0 ∧ y = nI (tv b n q) ∧ w1 11 = 0 ∧ MDT w1 b n (te b n q)) ∨ (¬ nf b n lo hi q = 0 ∧ w1 11 = nI (nf b n lo hi q) ∧ w1 12 = nI (ts b n q))))) := by
  have hle := nf_le (b := b) (n := n) (lo := lo) (hi := hi) (q := q)
  refine rk_aload_n rfl rfl ?_
  refine rk_bipush (v := nI 11) rfl (by decide) ?_
  refine rk_cv1e rfl rfl (by assumption) rfl rfl (Nat.le_of_ble_eq_true rfl) (Nat.le_of_ble_eq_true rfl) (s190 c0 w11 T.2.2.1 tkd_le (kk := 11) (by omega)) ?_
  refine rk_if_ne rfl rfl (fun hc3 => ?_) (fun hc3 => ?_)
  · replace hc3 := Decidable.not_not.mp (mt bI_0.mpr hc3)
    have hl1 := tkd_11 hq hc3
    have htv : tv b n q < 1000 := by
      have := nval_lt (b := b) (s := ts b n q) (te b n q - ts b n q) (fun j hj => hl1.2 _ (by omega) (by omega))
      have := p10 hl1.1
      unfold tv
      omega
    refine rk_aload_n rfl rfl ?_
    refine rk_get rfl (by assumption) rfl ?_
    rw [T.2.2.2 hc3]
    refine rk_i2l rfl rfl ?_
    refine rk_iload_n rfl rfl ?_
    refine rk_i2l rfl rfl ?_
    refine rk_iload_n rfl rfl ?_
    refine rk_i2l rfl rfl ?_
    refine rk_cs3e rfl rfl rfl (Nat.le_of_ble_eq_true rfl) (Nat.le_of_ble_eq_true rfl) (s181 _ _ _) ?_
    refine rk_if_ne rfl rfl (fun hc16 => ?_) (fun hc16 => ?_)
    · replace hc16 := Decidable.not_not.mp (mt bI_0.mpr hc16)
      first
        | (have hn0 : ¬ nf b n lo hi q = 0 := by rw [hnf]; first | decide | (split <;> decide)
           have hw : w1 11 = nI (nf b n lo hi q) := by rw [hnf]; first | exact u1 | exact u1.trans (by split <;> rfl)
           have hw0 : ¬ w1 11 = 0 := fun y => hn0 ((n0_eq (by omega)).mp (hw.symm.trans y))
           refine rk_aload_n rfl rfl ?_
           refine rk_get rfl c1 rfl ?_
           refine rk_istore_n rfl (Nat.le_of_ble_eq_true rfl) rfl ?_
           refine rk_aload_n rfl rfl ?_
           refine rk_get rfl c1 rfl ?_
           refine rk_if_ne rfl rfl (fun _ => ?_) (fun y => absurd (Decidable.not_not.mp y) hw0)
           refine rk_iload_n rfl rfl ?_
           exact rk_ireturn rfl rfl ⟨_, _, rfl, F1, w1, c1, mp11 wo, Or.inr ⟨hn0, hw, u2.trans T.1⟩⟩)
        | (have hn0 : nf b n lo hi q = 0 := nf_0.mpr ⟨hc3, by
             rcases Nat.lt_or_ge (tv b n q) lo with y | y
             · exact absurd ((nI_ltI (by omega) (by omega)).mpr y) hc16.1
             · exact y, by
             rcases Nat.lt_or_ge hi (tv b n q) with y | y
             · exact absurd ((nI_ltI (by omega) (by omega)).mpr y) hc16.2
             · exact y⟩
           refine rk_aload_n rfl rfl ?_
           refine rk_get rfl c0 rfl ?_
           refine rk_istore_n rfl (Nat.le_of_ble_eq_true rfl) rfl ?_
           refine rk_aload_n rfl rfl ?_
           refine rk_get rfl c0 rfl ?_
           refine rk_if_ne rfl rfl (fun y => absurd w11 y) (fun _ => ?_)
           refine rk_aload_n rfl rfl ?_
           refine rk_cv0v rfl rfl c0 rfl rfl (Nat.le_of_ble_eq_true rfl) (Nat.le_of_ble_eq_true rfl) (s188 c0 Tp hn w8 (te_b hq).2.1 T.2.1) (fun h1 hF => ?_)
           obtain ⟨F1, w1, c1, T1, Q1⟩ := hF
           refine rk_iload_n rfl rfl ?_
           exact rk_ireturn rfl rfl ⟨_, _, rfl, F1, w1, c1, Q1.p, Or.inl ⟨hn0, T.2.2.2 hc3, ((Q1 11 (by omega) (by omega) (by omega) (by omega)).trans w11), T1⟩⟩)
    · replace hc16 := Decidable.not_not.mp hc16
      replace hc16 := (bI_0).mp hc16
      refine rk_aload_n rfl rfl ?_
      refine rk_iconst (v := nI 3) rfl (by decide) ?_
      refine rk_cv1v rfl rfl (by assumption) rfl rfl (Nat.le_of_ble_eq_true rfl) (Nat.le_of_ble_eq_true rfl) (s189 c0 w11) (fun h1 hF => ?_)
      obtain ⟨F1, w1, c1, u1, u2, wo⟩ := hF
      rw [T.k] at u1
      have hnf : nf b n lo hi q = 3 := by
        rw [nf, if_neg (by omega), if_neg (by omega), if_pos (by
          rcases Nat.lt_or_ge (tv b n q) lo with y | y
          · exact Or.inl y
          · rcases Nat.lt_or_ge hi (tv b n q) with y2 | y2
            · exact Or.inr y2
            · exact absurd ⟨fun a => by have := (nI_ltI (by omega) (by omega)).mp a; omega, fun a => by have := (nI_ltI (by omega) (by omega)).mp a; omega⟩ hc16)]
      rw [if_neg (show ¬ tkd b n q = 14 by omega)] at u1
      first
        | (have hn0 : ¬ nf b n lo hi q = 0 := by rw [hnf]; first | decide | (split <;> decide)
           have hw : w1 11 = nI (nf b n lo hi q) := by rw [hnf]; first | exact u1 | exact u1.trans (by split <;> rfl)
           have hw0 : ¬ w1 11 = 0 := fun y => hn0 ((n0_eq (by omega)).mp (hw.symm.trans y))
           refine rk_aload_n rfl rfl ?_
           refine rk_get rfl c1 rfl ?_
           refine rk_istore_n rfl (Nat.le_of_ble_eq_true rfl) rfl ?_
           refine rk_aload_n rfl rfl ?_
           refine rk_get rfl c1 rfl ?_
           refine rk_if_ne rfl rfl (fun _ => ?_) (fun y => absurd (Decidable.not_not.mp y) hw0)
           refine rk_iload_n rfl rfl ?_
           exact rk_ireturn rfl rfl ⟨_, _, rfl, F1, w1, c1, mp11 wo, Or.inr ⟨hn0, hw, u2.trans T.1⟩⟩)
        | (have hn0 : nf b n lo hi q = 0 := nf_0.mpr ⟨hc3, by
             rcases Nat.lt_or_ge (tv b n q) lo with y | y
             · exact absurd ((nI_ltI (by omega) (by omega)).mpr y) hc16.1
             · exact y, by
             rcases Nat.lt_or_ge hi (tv b n q) with y | y
             · exact absurd ((nI_ltI (by omega) (by omega)).mpr y) hc16.2
             · exact y⟩
           refine rk_aload_n rfl rfl ?_
           refine rk_get rfl c0 rfl ?_
           refine rk_istore_n rfl (Nat.le_of_ble_eq_true rfl) rfl ?_
           refine rk_aload_n rfl rfl ?_
           refine rk_get rfl c0 rfl ?_
           refine rk_if_ne rfl rfl (fun y => absurd w11 y) (fun _ => ?_)
           refine rk_aload_n rfl rfl ?_
           refine rk_cv0v rfl rfl c0 rfl rfl (Nat.le_of_ble_eq_true rfl) (Nat.le_of_ble_eq_true rfl) (s188 c0 Tp hn w8 (te_b hq).2.1 T.2.1) (fun h1 hF => ?_)
           obtain ⟨F1, w1, c1, T1, Q1⟩ := hF
           refine rk_iload_n rfl rfl ?_
           exact rk_ireturn rfl rfl ⟨_, _, rfl, F1, w1, c1, Q1.p, Or.inl ⟨hn0, T.2.2.2 hc3, ((Q1 11 (by omega) (by omega) (by omega) (by omega)).trans w11), T1⟩⟩)
  · replace hc3 := Decidable.not_not.mp hc3
    replace hc3 := (bI_0).mp hc3
    refine rk_aload_n rfl rfl ?_
    refine rk_iconst (v := nI 2) rfl (by decide) ?_
    refine rk_cv1v rfl rfl (by assumption) rfl rfl (Nat.le_of_ble_eq_true rfl) (Nat.le_of_ble_eq_true rfl) (s189 c0 w11) (fun h1 hF => ?_)
    obtain ⟨F1, w1, c1, u1, u2, wo⟩ := hF
    rw [T.k] at u1
    have hnf : nf b n lo hi q = if tkd b n q = 14 then 1 else 2 := by
      rw [nf]
      by_cases z : tkd b n q = 14
      · rw [if_pos z, if_pos z]
      · rw [if_neg z, if_neg z, if_pos hc3]
    refine rk_goto rfl rfl ?_
    first
      | (have hn0 : ¬ nf b n lo hi q = 0 := by rw [hnf]; first | decide | (split <;> decide)
         have hw : w1 11 = nI (nf b n lo hi q) := by rw [hnf]; first | exact u1 | exact u1.trans (by split <;> rfl)
         have hw0 : ¬ w1 11 = 0 := fun y => hn0 ((n0_eq (by omega)).mp (hw.symm.trans y))
         refine rk_aload_n rfl rfl ?_
         refine rk_get rfl c1 rfl ?_
         refine rk_istore_n rfl (Nat.le_of_ble_eq_true rfl) rfl ?_
         refine rk_aload_n rfl rfl ?_
         refine rk_get rfl c1 rfl ?_
         refine rk_if_ne rfl rfl (fun _ => ?_) (fun y => absurd (Decidable.not_not.mp y) hw0)
         refine rk_iload_n rfl rfl ?_
         exact rk_ireturn rfl rfl ⟨_, _, rfl, F1, w1, c1, mp11 wo, Or.inr ⟨hn0, hw, u2.trans T.1⟩⟩)
      | (have hn0 : nf b n lo hi q = 0 := nf_0.mpr ⟨hc3, by
           rcases Nat.lt_or_ge (tv b n q) lo with y | y
           · exact absurd ((nI_ltI (by omega) (by omega)).mpr y) hc16.1
           · exact y, by
           rcases Nat.lt_or_ge hi (tv b n q) with y | y
           · exact absurd ((nI_ltI (by omega) (by omega)).mpr y) hc16.2
           · exact y⟩
         refine rk_aload_n rfl rfl ?_
         refine rk_get rfl c0 rfl ?_
         refine rk_istore_n rfl (Nat.le_of_ble_eq_true rfl) rfl ?_
         refine rk_aload_n rfl rfl ?_
         refine rk_get rfl c0 rfl ?_
         refine rk_if_ne rfl rfl (fun y => absurd w11 y) (fun _ => ?_)
         refine rk_aload_n rfl rfl ?_
         refine rk_cv0v rfl rfl c0 rfl rfl (Nat.le_of_ble_eq_true rfl) (Nat.le_of_ble_eq_true rfl) (s188 c0 Tp hn w8 (te_b hq).2.1 T.2.1) (fun h1 hF => ?_)
         obtain ⟨F1, w1, c1, T1, Q1⟩ := hF
         refine rk_iload_n rfl rfl ?_
         exact rk_ireturn rfl rfl ⟨_, _, rfl, F1, w1, c1, Q1.p, Or.inl ⟨hn0, T.2.2.2 hc3, ((Q1 11 (by omega) (by omega) (by omega) (by omega)).trans w11), T1⟩⟩)
theorem s193F {X : ai_X} {h : ai_H} {w : Nat → Int32} {lo hi : Int32} (c0 : h[52]? = some (cMdl w)) (w11 : ¬ w 11 = 0) : Mt X am_193 [.ref 52, .int lo, .int hi] h (Qe (w 10) h) := by
  refine rk_aload_n rfl rfl ?_
  refine rk_bipush (v := nI 11) rfl (by decide) ?_
  refine rk_cv1e rfl rfl (by assumption) rfl rfl (Nat.le_of_ble_eq_true rfl) (Nat.le_of_ble_eq_true rfl) (s190F c0 w11) ?_
  refine rk_if_ne rfl rfl (fun y => absurd rfl y) (fun _ => ?_)
  refine rk_aload_n rfl rfl ?_
  refine rk_iconst (v := nI 2) rfl (by decide) ?_
  refine rk_cv1v rfl rfl (by assumption) rfl rfl (Nat.le_of_ble_eq_true rfl) (Nat.le_of_ble_eq_true rfl) (s189F c0 w11) (fun h1 hF => ?_)
  subst hF
  refine rk_goto rfl rfl ?_
  refine rk_aload_n rfl rfl ?_
  refine rk_get rfl (by assumption) rfl ?_
  refine rk_istore_n rfl (Nat.le_of_ble_eq_true rfl) rfl ?_
  refine rk_aload_n rfl rfl ?_
  refine rk_get rfl (by assumption) rfl ?_
  refine rk_if_ne rfl rfl (fun hc25 => ?_) (fun hc25 => ?_)
  · refine rk_iload_n rfl rfl ?_
    exact rk_ireturn rfl rfl Qe_mk
  · replace hc25 := Decidable.not_not.mp hc25
    exact absurd hc25 w11
theorem s194 {X : ai_X} {h : ai_H} {b : Nat → Nat} {n q : Nat} {w : Nat → Int32} (c0 : h[52]? = some (cMdl w)) (Tp : TP h 55 b) (hn : n ≤ 600) (w8 : w 8 = nI n) (w11 : w 11 = 0) (T : MDT w b n q) (hq : q ≤ n) {f : Nat → Int32} {N : Nat} (e56 : h[56]? = some (cI 281 f)) (f0 : f 0 = nI N) (hN0 : 1 ≤ N) (hN : N ≤ 14) : Mt X am_194 [.ref 52] h (Qi (fun y h1 => Fr 52 53 h h1 ∧ ∃ w1, h1[52]? = some (cMdl w1) ∧ MPd w w1 ∧ ((nf b n 0 (N - 1) q = 0 ∧ y = nI (tv b n q) ∧ w1 11 = 0 ∧ MDT w1 b n (te b n q)) ∨ (¬ nf b n 0 (N - 1) q = 0 ∧ w1 11 = nI (nf b n 0 (N - 1) q) ∧ w1 12 = nI (ts b n q))))) := by
  refine rk_aload_n rfl rfl ?_
  refine rk_iconst (v := nI 0) rfl (by decide) ?_
  refine rk_aload_n rfl rfl ?_
  refine rk_get rfl (by assumption) rfl ?_
  refine rk_iconst (v := nI 0) rfl (by decide) ?_
  refine rk_iald rfl (by assumption) (rfl) (by omega) (by decide) ?_
  rw [f0]
  refine rk_iconst (v := nI 1) rfl (by decide) ?_
  refine rk_isub rfl (pk_sub (by omega)) ?_
  refine rk_cv2i rfl rfl (by assumption) rfl rfl (Nat.le_of_ble_eq_true rfl) (Nat.le_of_ble_eq_true rfl) (s193 c0 Tp hn w8 w11 T hq (lo := 0) (hi := N - 1) (by omega) (by omega)) (fun w h1 hF => ?_)
  exact rk_ireturn rfl rfl ⟨_, _, rfl, hF⟩
theorem s194F {X : ai_X} {h : ai_H} {f w : Nat → Int32} (c0 : h[52]? = some (cMdl w)) (w11 : ¬ w 11 = 0) (e56 : h[56]? = some (cI 281 f)) : Mt X am_194 [.ref 52] h (Qe (w 10) h) := by
  refine rk_aload_n rfl rfl ?_
  refine rk_iconst (v := nI 0) rfl (by decide) ?_
  refine rk_aload_n rfl rfl ?_
  refine rk_get rfl (by assumption) rfl ?_
  refine rk_iconst (v := nI 0) rfl (by decide) ?_
  refine rk_iald rfl (by assumption) (rfl) (by omega) (by decide) ?_
  refine rk_iconst (v := nI 1) rfl (by decide) ?_
  refine rk_isub rfl rfl ?_
  refine rk_cv2e rfl rfl (by assumption) rfl rfl (Nat.le_of_ble_eq_true rfl) (Nat.le_of_ble_eq_true rfl) (s193F c0 w11) ?_
  exact rk_ireturn rfl rfl Qe_mk
theorem s195 {X : ai_X} {h : ai_H} {b : Nat → Nat} {n q : Nat} {w : Nat → Int32} (c0 : h[52]? = some (cMdl w)) (Tp : TP h 55 b) (hn : n ≤ 600) (w8 : w 8 = nI n) (w11 : w 11 = 0) (T : MDT w b n q) (hq : q ≤ n) {f : Nat → Int32} {N : Nat} (e56 : h[56]? = some (cI 281 f)) (f0 : f 1 = nI N) (hN0 : 1 ≤ N) (hN : N ≤ 14) : Mt X am_195 [.ref 52] h (Qi (fun y h1 => Fr 52 53 h h1 ∧ ∃ w1, h1[52]? = some (cMdl w1) ∧ MPd w w1 ∧ ((nf b n 0 (N - 1) q = 0 ∧ y = nI (tv b n q) ∧ w1 11 = 0 ∧ MDT w1 b n (te b n q)) ∨ (¬ nf b n 0 (N - 1) q = 0 ∧ w1 11 = nI (nf b n 0 (N - 1) q) ∧ w1 12 = nI (ts b n q))))) := by
  refine rk_aload_n rfl rfl ?_
  refine rk_iconst (v := nI 0) rfl (by decide) ?_
  refine rk_aload_n rfl rfl ?_
  refine rk_get rfl (by assumption) rfl ?_
  refine rk_iconst (v := nI 1) rfl (by decide) ?_
  refine rk_iald rfl (by assumption) (rfl) (by omega) (by decide) ?_
  rw [f0]
  refine rk_iconst (v := nI 1) rfl (by decide) ?_
  refine rk_isub rfl (pk_sub (by omega)) ?_
  refine rk_cv2i rfl rfl (by assumption) rfl rfl (Nat.le_of_ble_eq_true rfl) (Nat.le_of_ble_eq_true rfl) (s193 c0 Tp hn w8 w11 T hq (lo := 0) (hi := N - 1) (by omega) (by omega)) (fun w h1 hF => ?_)
  exact rk_ireturn rfl rfl ⟨_, _, rfl, hF⟩
theorem s195F {X : ai_X} {h : ai_H} {f w : Nat → Int32} (c0 : h[52]? = some (cMdl w)) (w11 : ¬ w 11 = 0) (e56 : h[56]? = some (cI 281 f)) : Mt X am_195 [.ref 52] h (Qe (w 10) h) := by
  refine rk_aload_n rfl rfl ?_
  refine rk_iconst (v := nI 0) rfl (by decide) ?_
  refine rk_aload_n rfl rfl ?_
  refine rk_get rfl (by assumption) rfl ?_
  refine rk_iconst (v := nI 1) rfl (by decide) ?_
  refine rk_iald rfl (by assumption) (rfl) (by omega) (by decide) ?_
  refine rk_iconst (v := nI 1) rfl (by decide) ?_
  refine rk_isub rfl rfl ?_
  refine rk_cv2e rfl rfl (by assumption) rfl rfl (Nat.le_of_ble_eq_true rfl) (Nat.le_of_ble_eq_true rfl) (s193F c0 w11) ?_
  exact rk_ireturn rfl rfl Qe_mk
theorem MCr.c3' {f c : Nat → Int32} {d x : Nat} (H : MCr f c) : MCr (upd (upd (upd f (2 + d) (nI x)) (86 + d) (-1)) (170 + d) (nI 0)) (c3 c d x) := ((H.u (by omega)).u (by omega)).u (by omega)
theorem MCr.c2' {f c : Nat → Int32} {d x y : Nat} (H : MCr f c) : MCr (upd (upd f (86 + d) (nI x)) (170 + d) (nI y)) (c2 c d x y) := (H.u (by omega)).u (by omega)
theorem s201 {X : ai_X} {h : ai_H} {b : Nat → Nat} {n N t q : Nat} {v f c : Nat → Int32} (c0 : h[52]? = some (cMdl v)) (Tp : TP h 55 b) (hn : n ≤ 600) (v8 : v 8 = nI n) (y0 : v 11 = 0) (T0 : MDT v b n q) (hq0 : q ≤ n) (e56 : h[56]? = some (cI 281 f)) (hf : MCr f c) (hN : N ≤ 14) (ht : t ≤ 6) (k0 : c 0 = nI N) (k1 : c 1 = nI t) (hN0 : 1 ≤ N) (ht0 : 1 ≤ t) : Mt X am_201 [.ref 52] h (Qv (fun h1 => MSd h h1 v b n (num b n 0 (N - 1) q (fun r q => num b n 0 (t - 1) q (fun i q => okR (c3 c (6 * r + i) r) q))))) := by
  have P0 : MPd v v := MPd.rfl'
  have FW : FrWd h h := FrWd.rfl'
  have f0 : f 0 = nI N := (hf 0 (by omega) (Or.inr (by omega))).trans k0
  have f1 : f 1 = nI t := (hf 1 (by omega) (Or.inr (by omega))).trans k1
  refine rk_aload_n rfl rfl ?_
  refine rk_cv0i rfl rfl (by assumption) rfl rfl (Nat.le_of_ble_eq_true rfl) (Nat.le_of_ble_eq_true rfl) (s194 c0 Tp hn (P0.e8 v8) y0 T0 (by assumption) e56 f0 (by omega) (by omega)) (fun w h1 hF => ?_)
  obtain ⟨F1, w1, c1, Q1, hF⟩ := hF
  have P1 := P0.tr Q1
  replace FW := FW.t52 F1
  replace e56 := (F1.2 56 (by omega)).trans e56
  replace Tp := Tp.fr (F1.2 55 (by omega))
  have hq : q ≤ n := by assumption
  have hqq := (te_b (b := b) hq).2.1
  rcases hF with ⟨z1, rfl, y1, T1⟩ | ⟨z1, y1, x1⟩
  · obtain ⟨b1, d1⟩ := nf_b z1
    refine rk_istore_n rfl (Nat.le_of_ble_eq_true rfl) rfl ?_
    refine rk_aload_n rfl rfl ?_
    refine rk_cv0i rfl rfl (by assumption) rfl rfl (Nat.le_of_ble_eq_true rfl) (Nat.le_of_ble_eq_true rfl) (s195 c1 Tp hn (P1.e8 v8) y1 T1 (by assumption) e56 f1 (by omega) (by omega)) (fun w h1 hF => ?_)
    obtain ⟨F1, w2, c2, Q1, hF⟩ := hF
    have P2 := P1.tr Q1
    replace FW := FW.t52 F1
    replace e56 := (F1.2 56 (by omega)).trans e56
    replace Tp := Tp.fr (F1.2 55 (by omega))
    have hq : (te b n q) ≤ n := by assumption
    have hqq := (te_b (b := b) hq).2.1
    rcases hF with ⟨z2, rfl, y2, T2⟩ | ⟨z2, y2, x2⟩
    · obtain ⟨b2, d2⟩ := nf_b z2
      refine rk_istore_n rfl (Nat.le_of_ble_eq_true rfl) rfl ?_
      refine rk_aload_n rfl rfl ?_
      refine rk_get rfl (by assumption) rfl ?_
      rw [y2]
      refine rk_if_eq rfl rfl (fun _ => ?_) (fun y => absurd rfl y)
      refine rk_aload_n rfl rfl ?_
      refine rk_get rfl (by assumption) rfl ?_
      refine rk_iconst (v := nI 2) rfl (by decide) ?_
      refine rk_iload_n rfl rfl ?_
      refine rk_iload_n rfl rfl ?_
      refine rk_cs2e rfl rfl rfl (Nat.le_of_ble_eq_true rfl) (Nat.le_of_ble_eq_true rfl) (s196) ?_
      refine rk_iadd rfl (nI_add _ _) ?_
      refine rk_iload_n rfl rfl ?_
      refine rk_iast rfl e56 (rfl) (by omega) (by decide) ?_
      refine hp_gen e56 (fun h1 g1 hk1 hl1 => ?_)
      replace c2 := (hk1 _ (by omega)).trans c2
      replace FW := FW.t56 hk1 hl1
      replace Tp := Tp.fr (hk1 55 (by omega))
      replace e56 := g1
      refine rk_aload_n rfl rfl ?_
      refine rk_get rfl (by assumption) rfl ?_
      refine rk_bipush (v := nI 86) rfl (by decide) ?_
      refine rk_iload_n rfl rfl ?_
      refine rk_iload_n rfl rfl ?_
      refine rk_cs2e rfl rfl rfl (Nat.le_of_ble_eq_true rfl) (Nat.le_of_ble_eq_true rfl) (s196) ?_
      refine rk_iadd rfl (nI_add _ _) ?_
      refine rk_iconst (v := (-1)) rfl (by decide) ?_
      refine rk_iast rfl e56 (rfl) (by omega) (by decide) ?_
      refine hp_gen e56 (fun h1 g1 hk1 hl1 => ?_)
      replace c2 := (hk1 _ (by omega)).trans c2
      replace FW := FW.t56 hk1 hl1
      replace Tp := Tp.fr (hk1 55 (by omega))
      replace e56 := g1
      refine rk_aload_n rfl rfl ?_
      refine rk_get rfl (by assumption) rfl ?_
      refine rk_sipush (v := nI 170) rfl (by decide) ?_
      refine rk_iload_n rfl rfl ?_
      refine rk_iload_n rfl rfl ?_
      refine rk_cs2e rfl rfl rfl (Nat.le_of_ble_eq_true rfl) (Nat.le_of_ble_eq_true rfl) (s196) ?_
      refine rk_iadd rfl (nI_add _ _) ?_
      refine rk_iconst (v := nI 0) rfl (by decide) ?_
      refine rk_iast rfl e56 (rfl) (by omega) (by decide) ?_
      refine hp_gen e56 (fun h1 g1 hk1 hl1 => ?_)
      replace c2 := (hk1 _ (by omega)).trans c2
      replace FW := FW.t56 hk1 hl1
      replace Tp := Tp.fr (hk1 55 (by omega))
      replace e56 := g1
      exact rk_return rfl rfl ⟨_, rfl, by rw [num_y z1, num_y z2]; exact MSd.ok FW c2 P2 e56 y2 T2 hf.c3'⟩
    · have hf0 : ¬ w2 11 = 0 := fun y => nf_i z2 (y2.symm.trans y)
      refine rk_istore_n rfl (Nat.le_of_ble_eq_true rfl) rfl ?_
      refine rk_aload_n rfl rfl ?_
      refine rk_get rfl (by assumption) rfl ?_
      refine rk_if_eq rfl rfl (fun hc8 => ?_) (fun hc8 => ?_)
      · exact absurd hc8 hf0
      · exact rk_return rfl rfl ⟨_, rfl, by rw [num_y z1, num_n z2]; exact MSd.f FW c2 P2 e56 z2 y2 x2⟩
  · have hf0 : ¬ w1 11 = 0 := fun y => nf_i z1 (y1.symm.trans y)
    refine rk_istore_n rfl (Nat.le_of_ble_eq_true rfl) rfl ?_
    refine rk_aload_n rfl rfl ?_
    refine rk_cv0e rfl rfl (by assumption) rfl rfl (Nat.le_of_ble_eq_true rfl) (Nat.le_of_ble_eq_true rfl) (s195F c1 hf0 e56) ?_
    refine rk_istore_n rfl (Nat.le_of_ble_eq_true rfl) rfl ?_
    refine rk_aload_n rfl rfl ?_
    refine rk_get rfl (by assumption) rfl ?_
    refine rk_if_eq rfl rfl (fun hc8 => ?_) (fun hc8 => ?_)
    · exact absurd hc8 hf0
    · exact rk_return rfl rfl ⟨_, rfl, by rw [num_n z1]; exact MSd.f FW c1 P1 e56 z1 y1 x1⟩
theorem s202 {X : ai_X} {h : ai_H} {b : Nat → Nat} {n N t q : Nat} {v f c : Nat → Int32} (c0 : h[52]? = some (cMdl v)) (Tp : TP h 55 b) (hn : n ≤ 600) (v8 : v 8 = nI n) (y0 : v 11 = 0) (T0 : MDT v b n q) (hq0 : q ≤ n) (e56 : h[56]? = some (cI 281 f)) (hf : MCr f c) (hN : N ≤ 14) (ht : t ≤ 6) (k0 : c 0 = nI N) (k1 : c 1 = nI t) (hN0 : 1 ≤ N) (ht0 : 1 ≤ t) : Mt X am_202 [.ref 52] h (Qv (fun h1 => MSd h h1 v b n (num b n 0 (N - 1) q (fun r q => num b n 0 9 q (fun s q => okR (upd c (254 + r) (nI s)) q))))) := by
  have P0 : MPd v v := MPd.rfl'
  have FW : FrWd h h := FrWd.rfl'
  have f0 : f 0 = nI N := (hf 0 (by omega) (Or.inr (by omega))).trans k0
  have f1 : f 1 = nI t := (hf 1 (by omega) (Or.inr (by omega))).trans k1
  refine rk_aload_n rfl rfl ?_
  refine rk_cv0i rfl rfl (by assumption) rfl rfl (Nat.le_of_ble_eq_true rfl) (Nat.le_of_ble_eq_true rfl) (s194 c0 Tp hn (P0.e8 v8) y0 T0 (by assumption) e56 f0 (by omega) (by omega)) (fun w h1 hF => ?_)
  obtain ⟨F1, w1, c1, Q1, hF⟩ := hF
  have P1 := P0.tr Q1
  replace FW := FW.t52 F1
  replace e56 := (F1.2 56 (by omega)).trans e56
  replace Tp := Tp.fr (F1.2 55 (by omega))
  have hq : q ≤ n := by assumption
  have hqq := (te_b (b := b) hq).2.1
  rcases hF with ⟨z1, rfl, y1, T1⟩ | ⟨z1, y1, x1⟩
  · obtain ⟨b1, d1⟩ := nf_b z1
    refine rk_istore_n rfl (Nat.le_of_ble_eq_true rfl) rfl ?_
    refine rk_aload_n rfl rfl ?_
    refine rk_iconst (v := nI 0) rfl (by decide) ?_
    refine rk_bipush (v := nI 9) rfl (by decide) ?_
    refine rk_cv2i rfl rfl (by assumption) rfl rfl (Nat.le_of_ble_eq_true rfl) (Nat.le_of_ble_eq_true rfl) (s193 c1 Tp hn (P1.e8 v8) y1 T1 (by assumption) (lo := 0) (hi := 9) (by omega) (by omega)) (fun w h1 hF => ?_)
    obtain ⟨F1, w2, c2, Q1, hF⟩ := hF
    have P2 := P1.tr Q1
    replace FW := FW.t52 F1
    replace e56 := (F1.2 56 (by omega)).trans e56
    replace Tp := Tp.fr (F1.2 55 (by omega))
    have hq : (te b n q) ≤ n := by assumption
    have hqq := (te_b (b := b) hq).2.1
    rcases hF with ⟨z2, rfl, y2, T2⟩ | ⟨z2, y2, x2⟩
    · obtain ⟨b2, d2⟩ := nf_b z2
      refine rk_istore_n rfl (Nat.le_of_ble_eq_true rfl) rfl ?_
      refine rk_aload_n rfl rfl ?_
      refine rk_get rfl (by assumption) rfl ?_
      rw [y2]
      refine rk_if_ne rfl rfl (fun y => absurd rfl y) (fun _ => ?_)
      refine rk_aload_n rfl rfl ?_
      refine rk_get rfl (by assumption) rfl ?_
      refine rk_sipush (v := nI 254) rfl (by decide) ?_
      refine rk_iload_n rfl rfl ?_
      refine rk_iadd rfl (nI_add _ _) ?_
      refine rk_iload_n rfl rfl ?_
      refine rk_iast rfl e56 (rfl) (by omega) (by decide) ?_
      refine hp_gen e56 (fun h1 g1 hk1 hl1 => ?_)
      replace c2 := (hk1 _ (by omega)).trans c2
      replace FW := FW.t56 hk1 hl1
      replace Tp := Tp.fr (hk1 55 (by omega))
      replace e56 := g1
      exact rk_return rfl rfl ⟨_, rfl, by rw [num_y z1, num_y z2]; exact MSd.ok FW c2 P2 e56 y2 T2 (hf.u (by omega))⟩
    · have hf0 : ¬ w2 11 = 0 := fun y => nf_i z2 (y2.symm.trans y)
      refine rk_istore_n rfl (Nat.le_of_ble_eq_true rfl) rfl ?_
      refine rk_aload_n rfl rfl ?_
      refine rk_get rfl (by assumption) rfl ?_
      refine rk_if_ne rfl rfl (fun hc10 => ?_) (fun hc10 => ?_)
      · exact rk_return rfl rfl ⟨_, rfl, by rw [num_y z1, num_n z2]; exact MSd.f FW c2 P2 e56 z2 y2 x2⟩
      · replace hc10 := Decidable.not_not.mp hc10
        exact absurd hc10 hf0
  · have hf0 : ¬ w1 11 = 0 := fun y => nf_i z1 (y1.symm.trans y)
    refine rk_istore_n rfl (Nat.le_of_ble_eq_true rfl) rfl ?_
    refine rk_aload_n rfl rfl ?_
    refine rk_iconst (v := nI 0) rfl (by decide) ?_
    refine rk_bipush (v := nI 9) rfl (by decide) ?_
    refine rk_cv2e rfl rfl (by assumption) rfl rfl (Nat.le_of_ble_eq_true rfl) (Nat.le_of_ble_eq_true rfl) (s193F c1 hf0) ?_
    refine rk_istore_n rfl (Nat.le_of_ble_eq_true rfl) rfl ?_
    refine rk_aload_n rfl rfl ?_
    refine rk_get rfl (by assumption) rfl ?_
    refine rk_if_ne rfl rfl (fun hc10 => ?_) (fun hc10 => ?_)
    · exact rk_return rfl rfl ⟨_, rfl, by rw [num_n z1]; exact MSd.f FW c1 P1 e56 z1 y1 x1⟩
    · replace hc10 := Decidable.not_not.mp hc10
      exact absurd hc10 hf0
theorem l199 {X : ai_X} {h : ai_H} {b : Nat → Nat} {n N r t : Nat} {v : Nat → Int32} (hn : n ≤ 600) (v8 : v 8 = nI n) (hN0 : 1 ≤ N) (hN : N ≤ 14) (ht : t ≤ 6) (hr : r < N) : ∀ (m i : Nat) (o : Option Value) (g : ai_H) (w f c : Nat → Int32) (q : Nat), FrWd h g → g[52]? = some (cMdl w) → MPd v w → TP g 55 b → w 11 = 0 → MDT w b n q → q ≤ n → g[56]? = some (cI 281 f) → MCr f c → c 0 = nI N → c 1 = nI t → i + m = t → Rk X am_199 5 [some (.ref 52), some (.int (nI r)), some (.int (nI i)), o] [] g (Qv (fun h1 => MSd h h1 v b n (leadL b n N r m i c q))) := by
  intro m
  induction m with
  | zero =>
    intro i o g w f c q FW c0 P0 Tp y0 T0 hq0 e56 hf k0 k1 hi
    have f1 : f 1 = nI t := (hf 1 (by omega) (Or.inr (by omega))).trans k1
    refine rk_iload_n rfl rfl ?_
    refine rk_aload_n rfl rfl ?_
    refine rk_get rfl (by assumption) rfl ?_
    refine rk_iconst (v := nI 1) rfl (by decide) ?_
    refine rk_iald rfl (by assumption) (rfl) (by omega) (by decide) ?_
    rw [f1]
    refine rk_icmp_ge rfl rfl (fun hc10 => ?_) (fun hc10 => ?_)
    · replace hc10 := (nI_leI (by omega) (by omega)).mp hc10
      exact rk_return rfl rfl ⟨_, rfl, MSd.ok FW c0 P0 e56 y0 T0 hf⟩
    · replace hc10 := mt (nI_leI (by omega) (by omega)).mpr hc10
      omega
  | succ m ih =>
    intro i o g w f c q FW c0 P0 Tp y0 T0 hq0 e56 hf k0 k1 hi
    have f1 : f 1 = nI t := (hf 1 (by omega) (Or.inr (by omega))).trans k1
    have f0 : f 0 = nI N := (hf 0 (by omega) (Or.inr (by omega))).trans k0
    refine rk_iload_n rfl rfl ?_
    refine rk_aload_n rfl rfl ?_
    refine rk_get rfl (by assumption) rfl ?_
    refine rk_iconst (v := nI 1) rfl (by decide) ?_
    refine rk_iald rfl (by assumption) (rfl) (by omega) (by decide) ?_
    rw [f1]
    refine rk_icmp_ge rfl rfl (fun hc10 => ?_) (fun hc10 => ?_)
    · replace hc10 := (nI_leI (by omega) (by omega)).mp hc10
      omega
    · replace hc10 := mt (nI_leI (by omega) (by omega)).mpr hc10
      refine rk_aload_n rfl rfl ?_
      refine rk_get rfl (by assumption) rfl ?_
      rw [y0]
      refine rk_if_ne rfl rfl (fun y => absurd rfl y) (fun _ => ?_)
      refine rk_aload_n rfl rfl ?_
      refine rk_cv0i rfl rfl (by assumption) rfl rfl (Nat.le_of_ble_eq_true rfl) (Nat.le_of_ble_eq_true rfl) (s194 c0 Tp hn (P0.e8 v8) y0 T0 (by assumption) e56 f0 (by omega) (by omega)) (fun w h1 hF => ?_)
      rw [leadL]
      obtain ⟨F1, w1, c1, Q1, hF⟩ := hF
      have P1 := P0.tr Q1
      replace FW := FW.t52 F1
      replace e56 := (F1.2 56 (by omega)).trans e56
      replace Tp := Tp.fr (F1.2 55 (by omega))
      have hq : q ≤ n := by assumption
      have hqq := (te_b (b := b) hq).2.1
      rcases hF with ⟨z1, rfl, y1, T1⟩ | ⟨z1, y1, x1⟩
      · obtain ⟨b1, d1⟩ := nf_b z1
        refine rk_istore_n rfl (Nat.le_of_ble_eq_true rfl) rfl ?_
        refine rk_aload_n rfl rfl ?_
        refine rk_get rfl (by assumption) rfl ?_
        rw [y1]
        refine rk_if_eq rfl rfl (fun _ => ?_) (fun y => absurd rfl y)
        refine rk_aload_n rfl rfl ?_
        refine rk_get rfl (by assumption) rfl ?_
        refine rk_iconst (v := nI 2) rfl (by decide) ?_
        refine rk_iload_n rfl rfl ?_
        refine rk_iload_n rfl rfl ?_
        refine rk_cs2e rfl rfl rfl (Nat.le_of_ble_eq_true rfl) (Nat.le_of_ble_eq_true rfl) (s196) ?_
        refine rk_iadd rfl (nI_add _ _) ?_
        refine rk_iload_n rfl rfl ?_
        refine rk_iast rfl e56 (rfl) (by omega) (by decide) ?_
        refine hp_gen e56 (fun h1 g1 hk1 hl1 => ?_)
        replace c1 := (hk1 _ (by omega)).trans c1
        replace FW := FW.t56 hk1 hl1
        replace Tp := Tp.fr (hk1 55 (by omega))
        replace e56 := g1
        refine rk_aload_n rfl rfl ?_
        refine rk_get rfl (by assumption) rfl ?_
        refine rk_bipush (v := nI 86) rfl (by decide) ?_
        refine rk_iload_n rfl rfl ?_
        refine rk_iload_n rfl rfl ?_
        refine rk_cs2e rfl rfl rfl (Nat.le_of_ble_eq_true rfl) (Nat.le_of_ble_eq_true rfl) (s196) ?_
        refine rk_iadd rfl (nI_add _ _) ?_
        refine rk_iconst (v := (-1)) rfl (by decide) ?_
        refine rk_iast rfl e56 (rfl) (by omega) (by decide) ?_
        refine hp_gen e56 (fun h1 g1 hk1 hl1 => ?_)
        replace c1 := (hk1 _ (by omega)).trans c1
        replace FW := FW.t56 hk1 hl1
        replace Tp := Tp.fr (hk1 55 (by omega))
        replace e56 := g1
        refine rk_aload_n rfl rfl ?_
        refine rk_get rfl (by assumption) rfl ?_
        refine rk_sipush (v := nI 170) rfl (by decide) ?_
        refine rk_iload_n rfl rfl ?_
        refine rk_iload_n rfl rfl ?_
        refine rk_cs2e rfl rfl rfl (Nat.le_of_ble_eq_true rfl) (Nat.le_of_ble_eq_true rfl) (s196) ?_
        refine rk_iadd rfl (nI_add _ _) ?_
        refine rk_iconst (v := nI 0) rfl (by decide) ?_
        refine rk_iast rfl e56 (rfl) (by omega) (by decide) ?_
        refine hp_gen e56 (fun h1 g1 hk1 hl1 => ?_)
        replace c1 := (hk1 _ (by omega)).trans c1
        replace FW := FW.t56 hk1 hl1
        replace Tp := Tp.fr (hk1 55 (by omega))
        replace e56 := g1
        refine rk_iinc rfl rfl (n_inc _) rfl ?_
        refine rk_goto rfl rfl ?_
        have e3 : c3 c (6 * r + i) (tv b n q) 0 = c 0 := c3_n (by omega) (by omega)
        have e4 : c3 c (6 * r + i) (tv b n q) 1 = c 1 := c3_n (by omega) (by omega)
        rw [num_y z1]
        exact ih (i + 1) _ _ _ _ _ _ FW c1 P1 Tp y1 T1 hqq e56 hf.c3' (e3.trans k0) (e4.trans k1) (by omega)
      · have hf0 : ¬ w1 11 = 0 := fun y => nf_i z1 (y1.symm.trans y)
        refine rk_istore_n rfl (Nat.le_of_ble_eq_true rfl) rfl ?_
        refine rk_aload_n rfl rfl ?_
        refine rk_get rfl (by assumption) rfl ?_
        refine rk_if_eq rfl rfl (fun hc19 => ?_) (fun hc19 => ?_)
        · exact absurd hc19 hf0
        · exact rk_return rfl rfl ⟨_, rfl, by rw [num_n z1]; exact MSd.f FW c1 P1 e56 z1 y1 x1⟩
theorem s199 {X : ai_X} {h : ai_H} {b : Nat → Nat} {n N t q : Nat} {v f c : Nat → Int32} (c0 : h[52]? = some (cMdl v)) (Tp : TP h 55 b) (hn : n ≤ 600) (v8 : v 8 = nI n) (y0 : v 11 = 0) (T0 : MDT v b n q) (hq0 : q ≤ n) (e56 : h[56]? = some (cI 281 f)) (hf : MCr f c) (hN : N ≤ 14) (ht : t ≤ 6) (k0 : c 0 = nI N) (k1 : c 1 = nI t) (hN0 : 1 ≤ N) (ht0 : 1 ≤ t) : Mt X am_199 [.ref 52] h (Qv (fun h1 => MSd h h1 v b n (num b n 0 (N - 1) q (fun r q => leadL b n N r t 0 c q)))) := by
  have P0 : MPd v v := MPd.rfl'
  have FW : FrWd h h := FrWd.rfl'
  have f0 : f 0 = nI N := (hf 0 (by omega) (Or.inr (by omega))).trans k0
  have f1 : f 1 = nI t := (hf 1 (by omega) (Or.inr (by omega))).trans k1
  refine rk_aload_n rfl rfl ?_
  refine rk_cv0i rfl rfl (by assumption) rfl rfl (Nat.le_of_ble_eq_true rfl) (Nat.le_of_ble_eq_true rfl) (s194 c0 Tp hn (P0.e8 v8) y0 T0 (by assumption) e56 f0 (by omega) (by omega)) (fun w h1 hF => ?_)
  obtain ⟨F1, w1, c1, Q1, hF⟩ := hF
  have P1 := P0.tr Q1
  replace FW := FW.t52 F1
  replace e56 := (F1.2 56 (by omega)).trans e56
  replace Tp := Tp.fr (F1.2 55 (by omega))
  have hq : q ≤ n := by assumption
  have hqq := (te_b (b := b) hq).2.1
  rcases hF with ⟨z1, rfl, y1, T1⟩ | ⟨z1, y1, x1⟩
  · obtain ⟨b1, d1⟩ := nf_b z1
    refine rk_istore_n rfl (Nat.le_of_ble_eq_true rfl) rfl ?_
    refine rk_iconst (v := nI 0) rfl (by decide) ?_
    refine rk_istore_n rfl (Nat.le_of_ble_eq_true rfl) rfl ?_
    rw [num_y z1]
    exact l199 hn v8 hN0 hN ht (by omega) t 0 _ _ _ f c _ FW c1 P1 Tp y1 T1 hqq e56 hf k0 k1 (by omega)
  · have hf0 : ¬ w1 11 = 0 := fun y => nf_i z1 (y1.symm.trans y)
    refine rk_istore_n rfl (Nat.le_of_ble_eq_true rfl) rfl ?_
    refine rk_iconst (v := nI 0) rfl (by decide) ?_
    refine rk_istore_n rfl (Nat.le_of_ble_eq_true rfl) rfl ?_
    refine rk_iload_n rfl rfl ?_
    refine rk_aload_n rfl rfl ?_
    refine rk_get rfl (by assumption) rfl ?_
    refine rk_iconst (v := nI 1) rfl (by decide) ?_
    refine rk_iald rfl (by assumption) (rfl) (by omega) (by decide) ?_
    rw [f1]
    refine rk_icmp_ge rfl rfl (fun hc10 => ?_) (fun hc10 => ?_)
    · replace hc10 := (nI_leI (by omega) (by omega)).mp hc10
      exact rk_return rfl rfl ⟨_, rfl, by rw [num_n z1]; exact MSd.f FW c1 P1 e56 z1 y1 x1⟩
    · replace hc10 := mt (nI_leI (by omega) (by omega)).mpr hc10
      refine rk_aload_n rfl rfl ?_
      refine rk_get rfl (by assumption) rfl ?_
      refine rk_if_ne rfl rfl (fun hc13 => ?_) (fun hc13 => ?_)
      · exact rk_return rfl rfl ⟨_, rfl, by rw [num_n z1]; exact MSd.f FW c1 P1 e56 z1 y1 x1⟩
      · replace hc13 := Decidable.not_not.mp hc13
        exact absurd hc13 hf0
