/-! OBLIGATIONS of calls that only read -/
theorem cMdl_inj {v v' : Nat → Int32} (e : cMdl v = cMdl v') : v 5 = v' 5 ∧ v 13 = v' 13 ∧ v 14 = v' 14 ∧ v 22 = v' 22 := by
  have h := Sum.inr.inj e
  have h2 : _ = _ := congrArg Prod.snd h
  refine ⟨?_, ?_, ?_, ?_⟩
  · have := congrArg (fun l : List Value => l[5]?) h2; simpa using this
  · have := congrArg (fun l : List Value => l[13]?) h2; simpa using this
  · have := congrArg (fun l : List Value => l[14]?) h2; simpa using this
  · have := congrArg (fun l : List Value => l[22]?) h2; simpa using this
/-- the model's object was written, no other cell, and of it only what shows nowhere -/
def MdO (h h1 : ai_H) : Prop := (∀ q : Nat, q ≠ 52 → h1[q]? = h[q]?) ∧ h1.length = h.length ∧ ∃ v v1 : Nat → Int32, h[52]? = some (cMdl v) ∧ h1[52]? = some (cMdl v1) ∧ v1 5 = v 5 ∧ v1 13 = v 13 ∧ v1 14 = v 14 ∧ v1 22 = v 22
theorem MdO.w {h h1 : ai_H} (H : MdO h h1) : ∀ v : Nat → Int32, h[52]? = some (cMdl v) → ∃ v1 : Nat → Int32, h1[52]? = some (cMdl v1) ∧ v1 5 = v 5 ∧ v1 13 = v 13 ∧ v1 14 = v 14 ∧ v1 22 = v 22 := by
  obtain ⟨-, -, v, v1, a, b, c1, c2, c3, c4⟩ := H
  intro v' hv'
  rw [a] at hv'
  obtain ⟨e1, e2, e3, e4⟩ := cMdl_inj (Option.some.inj hv')
  exact ⟨v1, b, c1.trans e1, c2.trans e2, c3.trans e3, c4.trans e4⟩
theorem ob_pure {X : ai_X} {Mc Mm : ai_M} {as : List Value} (hc : ∀ m c s h, Inv m c s h → ∃ W, Mt X Mc (.ref 0 :: as) h (Qe W h) ∧ Mt X Mm (.ref 52 :: as) h (Qi (fun w h1 => w = W ∧ MdO h h1))) : Ob X Inv Mc Mm as := by
  intro m c s h _ I
  obtain ⟨W, ⟨n, o, hn, w, h1, rfl, rfl, rfl⟩, hm⟩ := hc m c s h I
  refine ⟨n, _, hn, w, h1, 0, 0, ?_⟩
  obtain ⟨tp, T, A, im, rs, rm, nu, fk, fp, b, -, -, -, -, -, -, ⟨⟨v, mk, e1, -⟩, -⟩, -⟩ := id I
  refine ⟨_, rfl, e1, ?_⟩
  obtain ⟨n2, o2, hn2, w2, h2, rfl, rfl, hO⟩ := hm
  exact ⟨n2, _, hn2, h2, rfl, I.ob hO.1 hO.2.1 hO.w⟩
/-- every call of the model first writes 0 into 'thrown' -/
theorem md_thr {X : ai_X} {M : ai_M} {ls : ai_L} {h : ai_H} {W : Int32} {pc0 len0 a0 b0 p0 q0 pc1 len1 a1 b1 p1 q1 pc2 len2 p2 q2 i2 : Nat} {x0 x1 x2 : Value} {v : Nat → Int32} (r0 : (ai_mR M)[0]? = some (pc0, .aload_n 0, len0, x0, a0, b0, p0, q0)) (r1 : (ai_mR M)[1]? = some (pc1, .iconst 0, len1, x1, a1, b1, p1, q1)) (r2 : (ai_mR M)[2]? = some (pc2, .putfield i2, len2, x2, 11, 0, p2, q2)) (l0 : ls[0]? = some (some (.ref 52))) (hv : h[52]? = some (cMdl v)) (z : ∀ h1 : ai_H, h1[52]? = some (cMdl (upd v 0 (nI 0))) → (∀ q : Nat, q ≠ 52 → h1[q]? = h[q]?) → Rk X M 3 ls [] h1 (Qe W h1)) : Rk X M 0 ls [] h (Qi (fun w h1 => w = W ∧ MdO h h1)) := by
  refine rk_aload_n r0 l0 ?_
  refine rk_iconst (v := nI 0) r1 (by decide) ?_
  refine rk_putM r2 hv (Or.inl rfl) (fun h1 g1 hk hl => ?_)
  refine (z h1 g1 hk).mono ?_
  rintro o ⟨w, h2, rfl, rfl, rfl⟩
  exact ⟨w, h2, rfl, rfl, hk, hl, v, _, hv, g1, rfl, rfl, rfl, rfl⟩
/-! numbers of both kinds -/
theorem i64_lt (x y : Int32) : x.toInt64 < y.toInt64 ↔ x < y := by
  rw [Int64.lt_iff_toInt_lt, Int32.lt_iff_toInt_lt, Int32.toInt_toInt64, Int32.toInt_toInt64]
theorem i64_inj (x y : Int32) : x.toInt64 = y.toInt64 ↔ x = y := by
  constructor
  · intro e
    have := congrArg Int64.toInt e
    rw [Int32.toInt_toInt64, Int32.toInt_toInt64] at this
    exact Int32.toInt_inj.mp this
  · rintro rfl; rfl
theorem i32_tri (x y : Int32) : x < y ∨ x = y ∨ y < x := by
  rw [Int32.lt_iff_toInt_lt, Int32.lt_iff_toInt_lt, ← Int32.toInt_inj]
  omega
theorem i32_irr {x y : Int32} (h : x < y) : ¬ y < x ∧ ¬ x = y := by
  rw [Int32.lt_iff_toInt_lt] at h
  refine ⟨?_, ?_⟩
  · rw [Int32.lt_iff_toInt_lt]; omega
  · rintro rfl; omega
theorem lcmp_v (x y : Int32) : lg_cmp x.toInt64 y.toInt64 = if y < x then 1 else if x = y then 0 else -1 := by
  unfold lg_cmp
  have e1 := i64_lt y x
  have e2 := i64_inj x y
  have e3 := i64_lt x y
  rcases i32_tri x y with h | h | h
  · have := i32_irr h
    simp [e1, e2, e3, h, this]
  · subst h
    simp
  · have := i32_irr h
    simp [e1, e2, e3, h, this]
theorem lcmp_lt (x y : Int32) : lg_cmp x.toInt64 y.toInt64 < 0 ↔ x < y := by
  rw [lcmp_v]
  rcases i32_tri x y with h | h | h
  · have := i32_irr h
    rw [if_neg this.1, if_neg this.2]
    exact ⟨fun _ => h, fun _ => by decide⟩
  · subst h
    have hn : ¬ x < x := fun z => (i32_irr z).1 z
    rw [if_neg hn, if_pos rfl]
    exact ⟨fun z => absurd z (by decide), fun z => absurd z hn⟩
  · rw [if_pos h]
    exact ⟨fun z => absurd z (by decide), fun z => absurd h (i32_irr z).1⟩
theorem lcmp_gt (x y : Int32) : 0 < lg_cmp x.toInt64 y.toInt64 ↔ y < x := by
  rw [lcmp_v]
  rcases i32_tri x y with h | h | h
  · have := i32_irr h
    rw [if_neg this.1, if_neg this.2]
    exact ⟨fun z => absurd z (by decide), fun z => absurd z this.1⟩
  · subst h
    have hn : ¬ x < x := fun z => (i32_irr z).1 z
    rw [if_neg hn, if_pos rfl]
    exact ⟨fun z => absurd z (by decide), fun z => absurd z hn⟩
  · rw [if_pos h]
    exact ⟨fun _ => h, fun _ => by decide⟩

theorem s181 {X : ai_X} {h : ai_H} (x lo hi : Int32) : Mt X am_181 [.long x.toInt64, .long lo.toInt64, .long hi.toInt64] h (Qe (bI (¬ x < lo ∧ ¬ hi < x)) h) := by
  refine rk_lload_n rfl rfl ?_
  refine rk_lload_n rfl rfl ?_
  refine rk_lcmp rfl rfl ?_
  refine rk_if_lt rfl rfl (fun hc3 => ?_) (fun hc3 => ?_)
  · refine rk_iconst (v := nI 0) rfl (by decide) ?_
    exact rk_ireturn rfl (by decide) (Qe_of (by first | (rw [lcmp_lt] at hc3; rw [lcmp_gt] at hc7; simp [bI, nI_0, nI_one, hc3, hc7]; done) | (rw [lcmp_lt] at hc3; simp [bI, nI_0, hc3]; done)))
  · refine rk_lload_n rfl rfl ?_
    refine rk_lload rfl rfl ?_
    refine rk_lcmp rfl rfl ?_
    refine rk_if_gt rfl rfl (fun hc7 => ?_) (fun hc7 => ?_)
    · refine rk_iconst (v := nI 0) rfl (by decide) ?_
      exact rk_ireturn rfl (by decide) (Qe_of (by first | (rw [lcmp_lt] at hc3; rw [lcmp_gt] at hc7; simp [bI, nI_0, nI_one, hc3, hc7]; done) | (rw [lcmp_lt] at hc3; simp [bI, nI_0, hc3]; done)))
    · refine rk_iconst (v := nI 1) rfl (by decide) ?_
      refine rk_goto rfl rfl ?_
      exact rk_ireturn rfl (by decide) (Qe_of (by first | (rw [lcmp_lt] at hc3; rw [lcmp_gt] at hc7; simp [bI, nI_0, nI_one, hc3, hc7]; done) | (rw [lcmp_lt] at hc3; simp [bI, nI_0, hc3]; done)))
theorem s207 {X : ai_X} {h : ai_H} {v A : Nat → Int32} (c0 : h[52]? = some (cMdl v)) (c1 : h[53]? = some (cI 2346 A)) (x : Int32) : Mt X am_207 [.ref 52, .int x] h (Qe (bI (¬ x < 0 ∧ ¬ (A 0 - nI 1) < x)) h) := by
  refine rk_iload_n rfl rfl ?_
  refine rk_i2l rfl rfl ?_
  refine rk_lconst (v := 0) rfl (by decide) ?_
  rw [show (0 : Int64) = (0 : Int32).toInt64 by decide]
  refine rk_aload_n rfl rfl ?_
  refine rk_get rfl (by assumption) rfl ?_
  refine rk_iconst (v := nI 0) rfl (by decide) ?_
  refine rk_iald rfl (by assumption) (rfl) (by omega) (by decide) ?_
  refine rk_iconst (v := nI 1) rfl (by decide) ?_
  refine rk_isub rfl rfl ?_
  refine rk_i2l rfl rfl ?_
  refine rk_cs3e rfl rfl rfl (Nat.le_of_ble_eq_true rfl) (Nat.le_of_ble_eq_true rfl) (s181 _ _ _) ?_
  exact rk_ireturn rfl bI_rok Qe_mk
theorem s209 {X : ai_X} {h : ai_H} {v A : Nat → Int32} (c0 : h[52]? = some (cMdl v)) (c1 : h[53]? = some (cI 2346 A)) (x : Int32) : Mt X am_209 [.ref 52, .int x] h (Qe (bI (¬ x < 0 ∧ ¬ (A 271 - nI 1) < x)) h) := by
  refine rk_iload_n rfl rfl ?_
  refine rk_i2l rfl rfl ?_
  refine rk_lconst (v := 0) rfl (by decide) ?_
  rw [show (0 : Int64) = (0 : Int32).toInt64 by decide]
  refine rk_aload_n rfl rfl ?_
  refine rk_get rfl (by assumption) rfl ?_
  refine rk_sipush (v := nI 271) rfl (by decide) ?_
  refine rk_iald rfl (by assumption) (rfl) (by omega) (by decide) ?_
  refine rk_iconst (v := nI 1) rfl (by decide) ?_
  refine rk_isub rfl rfl ?_
  refine rk_i2l rfl rfl ?_
  refine rk_cs3e rfl rfl rfl (Nat.le_of_ble_eq_true rfl) (Nat.le_of_ble_eq_true rfl) (s181 _ _ _) ?_
  exact rk_ireturn rfl bI_rok Qe_mk
/-! fault -/
theorem c132 {X : ai_X} {h : ai_H} {tp a : Int32} {rf : Value} {g : Nat → Int32} (c0 : h[0]? = some (cOne tp)) (c2 : h[2]? = some (cRead rf g)) : Mt X am_132 [.ref 0, .int a] h (Qe (if a = 0 then g 0 else if a = nI 1 then g 1 else -1) h) := by
  refine rk_iload_n rfl rfl ?_
  refine rk_if_ne rfl rfl (fun hc1 => ?_) (fun hc1 => ?_)
  · refine rk_iload_n rfl rfl ?_
    refine rk_iconst (v := nI 1) rfl (by decide) ?_
    refine rk_icmp_ne rfl rfl (fun hc8 => ?_) (fun hc8 => ?_)
    · refine rk_iconst (v := (-1)) rfl (by decide) ?_
      exact rk_ireturn rfl rfl (Qe_of (by first | rw [if_pos (by assumption)] | rw [if_neg (by assumption), if_pos (by assumption)] | rw [if_neg (by assumption), if_neg (by assumption)]))
    · replace hc8 := Decidable.not_not.mp hc8
      refine rk_aload_n rfl rfl ?_
      refine rk_get rfl (by assumption) rfl ?_
      refine rk_get rfl (by assumption) rfl ?_
      refine rk_goto rfl rfl ?_
      exact rk_ireturn rfl rfl (Qe_of (by first | rw [if_pos (by assumption)] | rw [if_neg (by assumption), if_pos (by assumption)] | rw [if_neg (by assumption), if_neg (by assumption)]))
  · replace hc1 := Decidable.not_not.mp hc1
    refine rk_aload_n rfl rfl ?_
    refine rk_get rfl (by assumption) rfl ?_
    refine rk_get rfl (by assumption) rfl ?_
    exact rk_ireturn rfl rfl (Qe_of (by first | rw [if_pos (by assumption)] | rw [if_neg (by assumption), if_pos (by assumption)] | rw [if_neg (by assumption), if_neg (by assumption)]))
theorem m206 {X : ai_X} {h : ai_H} {v : Nat → Int32} {a : Int32} (c0 : h[52]? = some (cMdl v)) : Rk X am_206 3 (ai_loc (ai_mL am_206) [.ref 52, .int a]) [] h (Qe (if a = 0 then v 13 else if a = nI 1 then v 14 else -1) h) := by
  refine rk_iload_n rfl rfl ?_
  refine rk_if_ne rfl rfl (fun hc4 => ?_) (fun hc4 => ?_)
  · refine rk_iload_n rfl rfl ?_
    refine rk_iconst (v := nI 1) rfl (by decide) ?_
    refine rk_icmp_ne rfl rfl (fun hc10 => ?_) (fun hc10 => ?_)
    · refine rk_iconst (v := (-1)) rfl (by decide) ?_
      exact rk_ireturn rfl rfl (Qe_of (by first | rw [if_pos (by assumption)] | rw [if_neg (by assumption), if_pos (by assumption)] | rw [if_neg (by assumption), if_neg (by assumption)]))
    · replace hc10 := Decidable.not_not.mp hc10
      refine rk_aload_n rfl rfl ?_
      refine rk_get rfl (by assumption) rfl ?_
      refine rk_goto rfl rfl ?_
      exact rk_ireturn rfl rfl (Qe_of (by first | rw [if_pos (by assumption)] | rw [if_neg (by assumption), if_pos (by assumption)] | rw [if_neg (by assumption), if_neg (by assumption)]))
  · replace hc4 := Decidable.not_not.mp hc4
    refine rk_aload_n rfl rfl ?_
    refine rk_get rfl (by assumption) rfl ?_
    refine rk_goto rfl rfl ?_
    exact rk_ireturn rfl rfl (Qe_of (by first | rw [if_pos (by assumption)] | rw [if_neg (by assumption), if_pos (by assumption)] | rw [if_neg (by assumption), if_neg (by assumption)]))
theorem ob2 (X : ai_X) : O2 X Inv := by
  intro a
  refine ob_pure fun m c s h I => ?_
  obtain ⟨tp, T, A, im, rs, rm, nu, fk, fp, b, ⟨a1, a2, rf, g, a3, a4, a5⟩, -, -, -, -, -, ⟨⟨v, mk, e1, e2, e3, e4, -⟩, -⟩, -⟩ := I
  refine ⟨_, c132 (a := a) a1 a3, ?_⟩
  rw [a4, a5, ← e3, ← e4]
  exact md_thr rfl rfl rfl rfl e1 (fun h1 g1 hk => by have z := m206 (X := X) (a := a) g1; exact z)
