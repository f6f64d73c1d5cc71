/-! A SEARCH BY SETS: the model -/
abbrev id1 : Nat → Nat := fun x => x
abbrev ze1 : Nat → Nat := fun _ => 0
theorem nI_m1 {k : Nat} (h : k < 2 ^ 31) : ¬ nI k = -1 := nm_eq h
/-- what the model's search needs to begin -/
def MQs (h : ai_H) (mk : Nat) : Prop := ∃ v : Nat → Int32, h[52]? = some (cMdl v) ∧ v 22 = nI mk ∧ mk < 2 ^ 29 ∧ ShI h 57 30002 ∧ ShI h 58 30002 ∧ ShI h 59 30002 ∧ ShI h 60 30002 ∧ ShI h 61 65536 ∧ ∃ sm, h[62]? = some (cI 65536 sm) ∧ ∀ i, i < 65536 → ∃ x, x ≤ mk ∧ sm i = nI x
theorem s231Q {X : ai_X} {h : ai_H} {mk : Nat} {v : Nat → Int32} (H : MQs h mk) (hv : h[52]? = some (cMdl v)) : Mt X am_231 [.ref 52] h (Qv (fun h1 => FrM h h1 ∧ ME h1 v (mk + 1))) := by
  obtain ⟨v', e1, e2, e3, ⟨f57, a1⟩, ⟨f58, a2⟩, ⟨f59, a3⟩, ⟨f60, a4⟩, ⟨f61, a5⟩, sm, a6, a7⟩ := H
  rw [hv] at e1
  have hv22 := (cMdl_inj (Option.some.inj e1)).2.2.2
  exact s231 hv (hv22.trans e2) e3 a1 a2 a3 a4 a5 a6 a7
theorem ME.obj {h : ai_H} {w : Nat → Int32} {mk : Nat} (S : ME h w mk) : ∃ v, h[52]? = some (cMdl v) := by
  obtain ⟨v, f57, f58, f59, f60, sp, sm, a, ⟨c0, -⟩, -⟩ := S
  exact ⟨v, c0⟩
theorem l235i {X : ai_X} {h : ai_H} {w A : Nat → Int32} {N : Nat → Nat} {mk set sh : Nat} {goal : Int32} (c53 : h[53]? = some (cI 2346 A)) (hN : HN N) (M : MH A N) (hset : 0 < set ∧ set < 2 ^ N 0) (hsh : sh < 16384) {k : Nat} {B : Bf} (hB : BI (img N) (okS sh) (N 1) set B) (hk : k < B.m) {P : ai_O → Prop} (z1 : ∀ g c6, FrM h g → MB g w mk id1 ze1 (bfT (img N) (okS sh) B k (N 1)) → Rk X am_235 54 [some (.ref 52), some (.int (nI set)), some (.int goal), some (.int (nI sh)), some (.int (nI k)), some (.int (nI (N 1))), c6] [] g P) : ∀ (d : Nat) (t : Nat) (g : ai_H) (c6 : Option Value), N 1 < t + d → (t ≤ N 1) → (FrM h g) → (MB g w mk id1 ze1 (bfT (img N) (okS sh) B k t)) → Rk X am_235 27 [some (.ref 52), some (.int (nI set)), some (.int goal), some (.int (nI sh)), some (.int (nI k)), some (.int (nI t)), c6] [] g (P) := by
  intro d
  induction d with
  | zero => intro t g c6 hd ht F S; exfalso; omega
  | succ d ih =>
    intro t g c6 hd ht F S
    obtain ⟨a0, a1, a268, a269, a270, a271, apl, apc, aot, asg, awt⟩ := id M
    obtain ⟨v, e52, hv21, hv22, -⟩ := S.obj
    obtain ⟨f57, f58, e57, e58, hsts⟩ := S.sts
    have hst1 : ∀ i, i < (bfT (img N) (okS sh) B k t).m → f57 i = nI ((bfT (img N) (okS sh) B k t).st i) := fun i hi => (hsts i hi).1
    have e53 := (F.2 53 (by omega) (by omega)).trans c53
    have h6 := hN.t
    have hn := hN.n
    have hp14 := hN.p14
    have hBt := hB.tones hk t ht
    have hkt : k < (bfT (img N) (okS sh) B k t).m := Nat.lt_of_lt_of_le hk (bfT_pre _ _ B k t).1
    obtain ⟨hst, hm16⟩ := set_bd hN hset hBt
    have hs16 := (hst k hkt).2
    refine rk_iload rfl rfl ?_
    refine rk_aload_n rfl rfl ?_
    refine rk_get rfl (by assumption) rfl ?_
    refine rk_iconst (v := nI 1) rfl (by decide) ?_
    refine rk_iald rfl (by assumption) (rfl) (by omega) (by decide) ?_
    rw [a1]
    refine rk_icmp_ge rfl rfl (fun hc32 => ?_) (fun hc32 => ?_)
    · replace hc32 := (nI_leI (by omega) (by omega)).mp hc32
      have ht2 : t = N 1 := by omega
      subst ht2
      exact z1 g _ F S
    · replace hc32 := mt (nI_leI (by omega) (by omega)).mpr hc32
      refine rk_aload_n rfl rfl ?_
      refine rk_aload_n rfl rfl ?_
      refine rk_get rfl (by assumption) rfl ?_
      refine rk_iload rfl rfl ?_
      refine rk_iald rfl (by assumption) (rfl) (by omega) (by decide) ?_
      rw [hst1 k hkt]
      refine rk_iload rfl rfl ?_
      refine rk_cv2e rfl rfl (by assumption) rfl rfl (Nat.le_of_ble_eq_true rfl) (Nat.le_of_ble_eq_true rfl) (s211 e52 e53 hN M (by omega) (by omega)) ?_
      have hy := img_lt (s := (bfT (img N) (okS sh) B k t).st k) (t := t) hN (by omega)
      have hya : (img N ((bfT (img N) (okS sh) B k t).st k) t &&& sh) ≤ sh := Nat.and_le_right
      refine rk_istore rfl (Nat.le_of_ble_eq_true rfl) rfl ?_
      refine rk_iload rfl rfl ?_
      refine rk_iload_n rfl rfl ?_
      refine rk_iand rfl (b_andU _ _) ?_
      refine rk_if_ne rfl rfl (fun hc44 => ?_) (fun hc44 => ?_)
      · replace hc44 := mt (n0_eq (by omega)).mpr hc44
        have hno := bfT_no (nx := img N) (ok := okS sh) (B := B) (k := k) (t := t) (fun z => hc44 (okS_t.mp z))
        have F2 := F
        have S2 := S
        rw [← hno] at S2
        refine rk_iinc rfl rfl (n_inc _) rfl ?_
        refine rk_goto rfl rfl ?_
        exact ih (t + 1) _ _ (by omega) (by omega) F2 S2
      · replace hc44 := Decidable.not_not.mp hc44
        replace hc44 := (n0_eq (by omega)).mp hc44
        have hok : okS sh (img N ((bfT (img N) (okS sh) B k t).st k) t) = true := okS_t.mpr hc44
        have hT1 := bfT_ok (nx := img N) (ok := okS sh) (B := B) (k := k) (t := t) hok
        refine rk_aload_n rfl rfl ?_
        refine rk_iload rfl rfl ?_
        refine rk_iconst (v := nI 0) rfl (by decide) ?_
        refine rk_iload rfl rfl ?_
        refine rk_iload rfl rfl ?_
        refine rk_cv4i rfl rfl (by assumption) rfl rfl (Nat.le_of_ble_eq_true rfl) (Nat.le_of_ble_eq_true rfl) (s232B (r1 := id1) (r2 := ze1) (x := img N ((bfT (img N) (okS sh) B k t).st k) t) S hBt.1 (by show img N ((bfT (img N) (okS sh) B k t).st k) t < _; omega) (by show 0 < _; omega) (fun i _ z _ => z) (by omega)) (fun w h1 hF => ?_)
        obtain ⟨rfl, F1, S1⟩ := hF
        have F2 := F.tr F1
        have S2 := S1
        rw [← hT1] at S2
        refine rk_pop rfl ?_
        refine rk_iinc rfl rfl (n_inc _) rfl ?_
        refine rk_goto rfl rfl ?_
        exact ih (t + 1) _ _ (by omega) (by omega) F2 S2
theorem l235 {X : ai_X} {h : ai_H} {w A : Nat → Int32} {N : Nat → Nat} {mk set sh : Nat} {goal : Int32} (c53 : h[53]? = some (cI 2346 A)) (hN : HN N) (M : MH A N) (hset : 0 < set ∧ set < 2 ^ N 0) (hsh : sh < 16384) : ∀ (d : Nat) (k : Nat) (g : ai_H) (c5 c6 : Option Value), 16384 < k + d → (k ≤ (bfK (img N) (okS sh) (N 1) set k).m) → (k ≤ 16384) → (FrM h g) → (MB g w mk id1 ze1 (bfK (img N) (okS sh) (N 1) set k)) → ((∀ i, i < k → ¬ gl goal ((bfK (img N) (okS sh) (N 1) set k).st i) = true)) → Rk X am_235 11 [some (.ref 52), some (.int (nI set)), some (.int goal), some (.int (nI sh)), some (.int (nI k)), c5, c6] [] g (Qi (fun y h1 => FrM h h1 ∧ ((y = -1 ∧ (∀ i, i < (bfK (img N) (okS sh) (N 1) set 16384).m → ¬ gl goal ((bfK (img N) (okS sh) (N 1) set 16384).st i) = true) ∧ MB h1 w mk id1 ze1 (bfK (img N) (okS sh) (N 1) set 16384)) ∨ ∃ k B, y = nI k ∧ k < 16384 ∧ Pre B (bfK (img N) (okS sh) (N 1) set 16384) ∧ BI (img N) (okS sh) (N 1) set B ∧ k < B.m ∧ gl goal (B.st k) = true ∧ (∀ i, i < k → ¬ gl goal (B.st i) = true) ∧ MB h1 w mk id1 ze1 B))) := by
  intro d
  induction d with
  | zero => intro k g c5 c6 hd hk hk2 F S G; exfalso; omega
  | succ d ih =>
    intro k g c5 c6 hd hk hk2 F S G
    obtain ⟨a0, a1, a268, a269, a270, a271, apl, apc, aot, asg, awt⟩ := id M
    obtain ⟨v, e52, hv21, hv22, -⟩ := S.obj
    obtain ⟨f57, f58, e57, e58, hsts⟩ := S.sts
    have hst1 : ∀ i, i < (bfK (img N) (okS sh) (N 1) set k).m → f57 i = nI ((bfK (img N) (okS sh) (N 1) set k).st i) := fun i hi => (hsts i hi).1
    have e53 := (F.2 53 (by omega) (by omega)).trans c53
    have h6 := hN.t
    have hn := hN.n
    have hp14 := hN.p14
    have hBk := BI.heads (nx := img N) (ok := okS sh) (T := N 1) (x := set) k
    obtain ⟨hst, hm16⟩ := set_bd hN hset hBk
    refine rk_iload rfl rfl ?_
    refine rk_aload_n rfl rfl ?_
    refine rk_get rfl (by assumption) rfl ?_
    rw [hv21]
    refine rk_icmp_ge rfl rfl (fun hc14 => ?_) (fun hc14 => ?_)
    · replace hc14 := (nI_leI (by omega) (by omega)).mp hc14
      refine rk_iconst (v := (-1)) rfl (by decide) ?_
      have hend := bfK_end (nx := img N) (ok := okS sh) (T := N 1) (x := set) (k := k) (W := 16384) (by omega) (by omega)
      refine rk_ireturn rfl rfl ⟨_, _, rfl, F, Or.inl ⟨rfl, ?_, ?_⟩⟩
      · rw [hend]
        exact fun i hi => G i (by omega)
      · rw [hend]
        exact S
    · replace hc14 := mt (nI_leI (by omega) (by omega)).mpr hc14
      refine rk_aload_n rfl rfl ?_
      refine rk_aload_n rfl rfl ?_
      refine rk_get rfl (by assumption) rfl ?_
      refine rk_iload rfl rfl ?_
      refine rk_iald rfl (by assumption) (rfl) (by omega) (by decide) ?_
      rw [hst1 k (by omega)]
      have hs16 := (hst k (by omega)).2
      refine rk_iload_n rfl rfl ?_
      refine rk_cv2e rfl rfl (by assumption) rfl rfl (Nat.le_of_ble_eq_true rfl) (Nat.le_of_ble_eq_true rfl) (s234 (by omega) goal) ?_
      refine rk_if_eq rfl rfl (fun hc22 => ?_) (fun hc22 => ?_)
      · replace hc22 := (bI_0).mp hc22
        refine rk_iconst (v := nI 0) rfl (by decide) ?_
        refine rk_istore rfl (Nat.le_of_ble_eq_true rfl) rfl ?_
        refine l235i (B := (bfK (img N) (okS sh) (N 1) set k)) c53 hN M hset hsh hBk (by omega) ?_ (N 1 + 1) 0 g _ (by omega) (by omega) F S
        intro g2 c6 F2 S2
        rw [← bfK_s (by omega)] at S2
        refine rk_iinc rfl rfl (n_inc _) rfl ?_
        refine rk_goto rfl rfl ?_
        have hpk := bfK_1 (img N) (okS sh) (N 1) set k
        have hp1 := hpk.1
        refine ih (k + 1) g2 _ _ (by omega) (by omega) (by omega) F2 S2 (fun i hi => ?_)
        rw [(hpk.2 i (by omega)).1]
        by_cases z : i = k
        · subst z; exact hc22
        · exact G i (by omega)
      · replace hc22 := Decidable.not_not.mp (mt bI_0.mpr hc22)
        refine rk_iload rfl rfl ?_
        exact rk_ireturn rfl rfl ⟨_, _, rfl, F, Or.inr ⟨k, _, rfl, by omega, bfK_pre (by omega), hBk, by omega, hc22, G, S⟩⟩
theorem s235 {X : ai_X} {h : ai_H} {v A : Nat → Int32} {N : Nat → Nat} {mk set sh : Nat} {goal : Int32} (c52 : h[52]? = some (cMdl v)) (c53 : h[53]? = some (cI 2346 A)) (hN : HN N) (M : MH A N) (hset : 0 < set ∧ set < 2 ^ N 0) (hsh : sh < 16384) (H : MQs h mk) : Mt X am_235 [.ref 52, .int (nI set), .int goal, .int (nI sh)] h (Qi (fun y h1 => FrM h h1 ∧ ((y = -1 ∧ (∀ i, i < (bfK (img N) (okS sh) (N 1) set 16384).m → ¬ gl goal ((bfK (img N) (okS sh) (N 1) set 16384).st i) = true) ∧ MB h1 v (mk + 1) id1 ze1 (bfK (img N) (okS sh) (N 1) set 16384)) ∨ ∃ k B, y = nI k ∧ k < 16384 ∧ Pre B (bfK (img N) (okS sh) (N 1) set 16384) ∧ BI (img N) (okS sh) (N 1) set B ∧ k < B.m ∧ gl goal (B.st k) = true ∧ (∀ i, i < k → ¬ gl goal (B.st i) = true) ∧ MB h1 v (mk + 1) id1 ze1 B))) := by
  have hp14 := hN.p14
  refine rk_aload_n rfl rfl ?_
  refine rk_cv0v rfl rfl (by assumption) rfl rfl (Nat.le_of_ble_eq_true rfl) (Nat.le_of_ble_eq_true rfl) (s231Q H c52) (fun h1 hF => ?_)
  obtain ⟨F1, E1⟩ := hF
  obtain ⟨v1, e52⟩ := E1.obj
  refine rk_aload_n rfl rfl ?_
  refine rk_iload_n rfl rfl ?_
  refine rk_iconst (v := nI 0) rfl (by decide) ?_
  refine rk_iconst (v := (-1)) rfl (by decide) ?_
  refine rk_iconst (v := (-1)) rfl (by decide) ?_
  refine rk_cv4i rfl rfl (by assumption) rfl rfl (Nat.le_of_ble_eq_true rfl) (Nat.le_of_ble_eq_true rfl) (s232R (r1 := id1) (r2 := ze1) (x := set) E1 (by show set < _; omega) (by show 0 < _; omega)) (fun w h1 hF => ?_)
  obtain ⟨rfl, F2, S2⟩ := hF
  refine rk_pop rfl ?_
  refine rk_iconst (v := nI 0) rfl (by decide) ?_
  refine rk_istore rfl (Nat.le_of_ble_eq_true rfl) rfl ?_
  exact l235 c53 hN M hset hsh 16385 0 _ _ _ (by omega) (by omega) (by omega) (F1.tr F2) S2 (fun i hi => absurd hi (by omega))
/-- what the model leaves: its numbers, its search, what is FOUND -/
def FrF (h h1 : ai_H) : Prop := h1.length = h.length ∧ ∀ q : Nat, q ≠ 52 → q ≠ 53 → ¬ (57 ≤ q ∧ q < 63) → h1[q]? = h[q]?
/-- the model's object and marks behind its search -/
def MW (h1 : ai_H) (v : Nat → Int32) (mk : Nat) : Prop := ∃ v1 : Nat → Int32, h1[52]? = some (cMdl v1) ∧ v1 5 = v 5 ∧ v1 13 = v 13 ∧ v1 14 = v 14 ∧ v1 22 = nI mk ∧ ∃ sm, h1[62]? = some (cI 65536 sm) ∧ ∀ i, i < 65536 → ∃ x, x ≤ mk ∧ sm i = nI x
theorem MB.mw {h : ai_H} {w : Nat → Int32} {mk : Nat} {r1 r2 : Nat → Nat} {B : Bf} (S : MB h w mk r1 r2 B) : MW h w mk := by
  obtain ⟨v, e1, e2, e3, e4, e5, e6⟩ := S.obj
  exact ⟨v, e1, e4, e5, e6, e3, S.marks⟩
theorem FrM.f {h h1 : ai_H} (F : FrM h h1) : FrF h h1 := ⟨F.1, fun q a _ b => F.2 q a b⟩
theorem FrM.f2 {h h1 h2 : ai_H} (F : FrM h h1) (G : Fr 53 54 h1 h2) : FrF h h2 := ⟨G.1.trans F.1, fun q a b c => (G.2 q (by omega)).trans (F.2 q a c)⟩
/-- 'foundIf' at the place that was found -/
theorem s237F {X : ai_X} {h g : ai_H} {w A : Nat → Int32} {mk T x k : Nat} {r1 r2 : Nat → Nat} {nx : Nat → Nat → Nat} {ok : Nat → Bool} {B C : Bf} {gg : Nat → Bool} (c53 : h[53]? = some (cI 2346 A)) (F : FrM h g) (S : MB g w mk r1 r2 B) (hI : BI nx ok T x B) (P : Pre B C) (hk : k < B.m) (hg : gg (B.st k) = true) (hn : ∀ i, i < k → ¬ gg (B.st i) = true) : Mt X am_237 [.ref 52, .int (nI k)] g (Qi (fun y h1 => y = ans C gg ∧ FrF h h1 ∧ MW h1 w mk ∧ ∃ A1, h1[53]? = some (cI 2346 A1) ∧ MF A A1 y C gg)) := by
  have c53' := (F.2 53 (by omega) (by omega)).trans c53
  refine (s237 S hI hk c53').mono ?_
  rintro o ⟨y, h1, rfl, rfl, ⟨z1, rfl⟩ | ⟨z1, z2, A1, z3, z4⟩⟩
  · have mf : MF A A (nI (dep B.pa k)) C gg := MF.found P hI hk hg hn rfl (Or.inl ⟨z1, rfl⟩)
    exact ⟨_, _, rfl, mf.w, F.f, S.mw, A, c53', mf⟩
  · have mf : MF A A1 (nI (dep B.pa k)) C gg := MF.found P hI hk hg hn rfl (Or.inr ⟨z1, z4⟩)
    exact ⟨_, _, rfl, mf.w, F.f2 z2, (S.fr (fun q hq => z2.2 q (by omega))).mw, A1, z3, mf⟩
theorem s236 {X : ai_X} {h : ai_H} {v A : Nat → Int32} {N : Nat → Nat} {mk : Nat} (c52 : h[52]? = some (cMdl v)) (c53 : h[53]? = some (cI 2346 A)) (hN : HN N) (M : MH A N) (H : MQs h mk) {set sh : Nat} {goal : Int32} (hset : 0 < set ∧ set < 2 ^ N 0) (hsh : sh < 16384) (hg : goal = -1 ∨ IsSet N goal) : Mt X am_236 [.ref 52, .int (nI set), .int goal, .int (nI sh)] h (Qi (fun y h1 => y = ans (bfK (img N) (okS sh) (N 1) set 16384) (gl goal) ∧ FrF h h1 ∧ MW h1 v (mk + 1) ∧ ∃ A1, h1[53]? = some (cI 2346 A1) ∧ MF A A1 y (bfK (img N) (okS sh) (N 1) set 16384) (gl goal))) := by
  have hp14 := hN.p14
  have hs1 := isSet_mk hN hset.1 hset.2
  refine rk_aload_n rfl rfl ?_
  refine rk_iload_n rfl rfl ?_
  refine rk_cv1e rfl rfl (by assumption) rfl rfl (Nat.le_of_ble_eq_true rfl) (Nat.le_of_ble_eq_true rfl) (s208N c52 c53 hN M _) ?_
  refine rk_if_eq rfl rfl (fun hc3 => ?_) (fun hc3 => ?_)
  · replace hc3 := (bI_0).mp hc3
    exact absurd hs1 hc3
  · replace hc3 := Decidable.not_not.mp (mt bI_0.mpr hc3)
    refine rk_iload_n rfl rfl ?_
    refine rk_iconst (v := (-1)) rfl (by decide) ?_
    refine rk_icmp_eq rfl rfl (fun hc6 => ?_) (fun hc6 => ?_)
    · refine rk_aload_n rfl rfl ?_
      refine rk_iload_n rfl rfl ?_
      refine rk_iload_n rfl rfl ?_
      refine rk_iload_n rfl rfl ?_
      refine rk_cv3i rfl rfl (by assumption) rfl rfl (Nat.le_of_ble_eq_true rfl) (Nat.le_of_ble_eq_true rfl) (s235 (goal := goal) c52 c53 hN M hset hsh H) (fun w h1 hF => ?_)
      obtain ⟨F1, z1⟩ := hF
      rcases z1 with ⟨rfl, z2, z3⟩ | ⟨k, B, rfl, k1, z2, z3, z4, z5, z6, z7⟩
      · refine rk_istore rfl (Nat.le_of_ble_eq_true rfl) rfl ?_
        refine rk_iload rfl rfl ?_
        refine rk_iconst (v := (-1)) rfl (by decide) ?_
        refine rk_icmp_ne rfl rfl (fun z => absurd rfl z) (fun _ => ?_)
        refine rk_iconst (v := (-1)) rfl (by decide) ?_
        refine rk_goto rfl rfl ?_
        have mf := MF.none (A := A) z2
        exact rk_ireturn rfl rfl ⟨_, _, rfl, mf.w, F1.f, z3.mw, A, (F1.2 53 (by omega) (by omega)).trans c53, mf⟩
      · obtain ⟨v1, e52, -⟩ := z7.obj
        refine rk_istore rfl (Nat.le_of_ble_eq_true rfl) rfl ?_
        refine rk_iload rfl rfl ?_
        refine rk_iconst (v := (-1)) rfl (by decide) ?_
        refine rk_icmp_ne rfl rfl (fun _ => ?_) (fun z => absurd (Decidable.not_not.mp z) (nm_eq (by omega)))
        refine rk_aload_n rfl rfl ?_
        refine rk_iload rfl rfl ?_
        refine rk_cv1i rfl rfl e52 rfl rfl (Nat.le_of_ble_eq_true rfl) (Nat.le_of_ble_eq_true rfl) (s237F c53 F1 z7 z3 z2 z4 z5 z6) (fun y h1 hF => ?_)
        exact rk_ireturn rfl rfl ⟨_, _, rfl, hF⟩
    · refine rk_aload_n rfl rfl ?_
      refine rk_iload_n rfl rfl ?_
      refine rk_cv1e rfl rfl (by assumption) rfl rfl (Nat.le_of_ble_eq_true rfl) (Nat.le_of_ble_eq_true rfl) (s208N c52 c53 hN M _) ?_
      refine rk_if_ne rfl rfl (fun hc10 => ?_) (fun hc10 => ?_)
      · replace hc10 := Decidable.not_not.mp (mt bI_0.mpr hc10)
        refine rk_aload_n rfl rfl ?_
        refine rk_iload_n rfl rfl ?_
        refine rk_iload_n rfl rfl ?_
        refine rk_iload_n rfl rfl ?_
        refine rk_cv3i rfl rfl (by assumption) rfl rfl (Nat.le_of_ble_eq_true rfl) (Nat.le_of_ble_eq_true rfl) (s235 (goal := goal) c52 c53 hN M hset hsh H) (fun w h1 hF => ?_)
        obtain ⟨F1, z1⟩ := hF
        rcases z1 with ⟨rfl, z2, z3⟩ | ⟨k, B, rfl, k1, z2, z3, z4, z5, z6, z7⟩
        · refine rk_istore rfl (Nat.le_of_ble_eq_true rfl) rfl ?_
          refine rk_iload rfl rfl ?_
          refine rk_iconst (v := (-1)) rfl (by decide) ?_
          refine rk_icmp_ne rfl rfl (fun z => absurd rfl z) (fun _ => ?_)
          refine rk_iconst (v := (-1)) rfl (by decide) ?_
          refine rk_goto rfl rfl ?_
          have mf := MF.none (A := A) z2
          exact rk_ireturn rfl rfl ⟨_, _, rfl, mf.w, F1.f, z3.mw, A, (F1.2 53 (by omega) (by omega)).trans c53, mf⟩
        · obtain ⟨v1, e52, -⟩ := z7.obj
          refine rk_istore rfl (Nat.le_of_ble_eq_true rfl) rfl ?_
          refine rk_iload rfl rfl ?_
          refine rk_iconst (v := (-1)) rfl (by decide) ?_
          refine rk_icmp_ne rfl rfl (fun _ => ?_) (fun z => absurd (Decidable.not_not.mp z) (nm_eq (by omega)))
          refine rk_aload_n rfl rfl ?_
          refine rk_iload rfl rfl ?_
          refine rk_cv1i rfl rfl e52 rfl rfl (Nat.le_of_ble_eq_true rfl) (Nat.le_of_ble_eq_true rfl) (s237F c53 F1 z7 z3 z2 z4 z5 z6) (fun y h1 hF => ?_)
          exact rk_ireturn rfl rfl ⟨_, _, rfl, hF⟩
      · replace hc10 := Decidable.not_not.mp hc10
        replace hc10 := (bI_0).mp hc10
        exact absurd (hg.resolve_left hc6) hc10
theorem s236x {X : ai_X} {h : ai_H} {v A : Nat → Int32} {N : Nat → Nat} (c52 : h[52]? = some (cMdl v)) (c53 : h[53]? = some (cI 2346 A)) (hN : HN N) (M : MH A N) {a b c : Int32} (hx : ¬ (IsSet N a ∧ (b = -1 ∨ IsSet N b))) : Mt X am_236 [.ref 52, .int a, .int b, .int c] h (Qe (-3) h) := by
  refine rk_aload_n rfl rfl ?_
  refine rk_iload_n rfl rfl ?_
  refine rk_cv1e rfl rfl (by assumption) rfl rfl (Nat.le_of_ble_eq_true rfl) (Nat.le_of_ble_eq_true rfl) (s208N c52 c53 hN M _) ?_
  refine rk_if_eq rfl rfl (fun hc3 => ?_) (fun hc3 => ?_)
  · replace hc3 := (bI_0).mp hc3
    refine rk_bipush (v := (-3)) rfl (by decide) ?_
    exact rk_ireturn rfl rfl Qe_mk
  · replace hc3 := Decidable.not_not.mp (mt bI_0.mpr hc3)
    refine rk_iload_n rfl rfl ?_
    refine rk_iconst (v := (-1)) rfl (by decide) ?_
    refine rk_icmp_eq rfl rfl (fun hc6 => ?_) (fun hc6 => ?_)
    · exact absurd ⟨hc3, Or.inl hc6⟩ hx
    · refine rk_aload_n rfl rfl ?_
      refine rk_iload_n rfl rfl ?_
      refine rk_cv1e rfl rfl (by assumption) rfl rfl (Nat.le_of_ble_eq_true rfl) (Nat.le_of_ble_eq_true rfl) (s208N c52 c53 hN M _) ?_
      refine rk_if_ne rfl rfl (fun hc10 => ?_) (fun hc10 => ?_)
      · replace hc10 := Decidable.not_not.mp (mt bI_0.mpr hc10)
        exact absurd ⟨hc3, Or.inr hc10⟩ hx
      · replace hc10 := Decidable.not_not.mp hc10
        replace hc10 := (bI_0).mp hc10
        refine rk_bipush (v := (-3)) rfl (by decide) ?_
        exact rk_ireturn rfl rfl Qe_mk
/-- what a search's call leaves in the class's cells -/
def CE (h h1 : ai_H) (b : Option Nat) (w : Int32) (B : Bf) (g : Nat → Bool) : Prop := h1.length = h.length + nc b ∧ (∀ q : Nat, q < h.length → q ≠ 15 → q ≠ 16 → q ≠ 22 → q ≠ 25 → q ≠ 33 → q ≠ 35 → ¬ (np b h.length ≤ q ∧ q < np b h.length + 3) → h1[q]? = h[q]?) ∧ (∃ f, h1[25]? = some (cI 1536 f) ∧ ∀ j, j < 12 → f (128 * j) = 0) ∧ (∃ n, h1[33]? = some (.inr (1, [.ref 3, .ref 22, .ref 34, .ref 35, .int n]))) ∧ SrchAt h1 22 16384 16384 (some (np b h.length)) ∧ CF h h1 w B g
theorem np_80 {b : Option Nat} {L : Nat} (hb : ∀ p, b = some p → 80 ≤ p) (hl : 80 ≤ L) : 80 ≤ np b L := by
  cases b with
  | none => exact hl
  | some p => exact hb p rfl
theorem s145 {X : ai_X} {h : ai_H} {tp n1 n2 n0 : Int32} {N : Nat → Nat} {xa xb : Value} {f0 f25 : Nat → Int32} {b : Option Nat} (d0 : h[0]? = some (cOne tp)) (hN : HN N) (C : CH h 3 N) (d24 : h[24]? = some (cSets n1 n2 xa xb)) (c25 : h[25]? = some (cI 1536 f25)) (hf : ∀ j, j < 12 → f25 (128 * j) = 0) (R : RouteAt h 15 n0 f0) (S : SrchAt h 22 16384 16384 b) (hb : ∀ p, b = some p → 80 ≤ p) (hl : 80 ≤ h.length) (O33 : ∃ n, h[33]? = some (.inr (1, [.ref 3, .ref 22, .ref 34, .ref 35, .int n]))) {set sh : Nat} {goal : Int32} (hset : 0 < set ∧ set < 2 ^ N 0) (hsh : sh < 16384) (hg : goal = -1 ∨ IsSet N goal) : Mt X am_145 [.ref 0, .int (nI set), .int goal, .int (nI sh)] h (Qn (nc b) (ns b 49152) (Qi (fun w h1 => w = ans (bfK (img N) (okS sh) (N 1) set 16384) (gl goal) ∧ CE h h1 b (ans (bfK (img N) (okS sh) (N 1) set 16384) (gl goal)) (bfK (img N) (okS sh) (N 1) set 16384) (gl goal)))) := by
  have e3 := C.1
  have hs1 := isSet_mk hN hset.1 hset.2
  refine rk_aload_n rfl rfl ?_
  refine rk_get rfl (by assumption) rfl ?_
  refine rk_iload_n rfl rfl ?_
  refine rk_cv1e rfl rfl (by assumption) rfl rfl (Nat.le_of_ble_eq_true rfl) (Nat.le_of_ble_eq_true rfl) (s26N hN C _) ?_
  refine rk_if_eq rfl rfl (fun hc4 => ?_) (fun hc4 => ?_)
  · replace hc4 := (bI_0).mp hc4
    exact absurd hs1 hc4
  · replace hc4 := Decidable.not_not.mp (mt bI_0.mpr hc4)
    refine rk_iload_n rfl rfl ?_
    refine rk_iconst (v := (-1)) rfl (by decide) ?_
    refine rk_icmp_eq rfl rfl (fun hc7 => ?_) (fun hc7 => ?_)
    · refine rk_aload_n rfl rfl ?_
      refine rk_get rfl (by assumption) rfl ?_
      refine rk_iload_n rfl rfl ?_
      refine rk_iload_n rfl rfl ?_
      refine rk_iload_n rfl rfl ?_
      refine rk_aload_n rfl rfl ?_
      refine rk_get rfl (by assumption) rfl ?_
      refine rk_cq4i rfl rfl d24 rfl rfl (Nat.le_of_ble_eq_true rfl) (Nat.le_of_ble_eq_true rfl) (s107 (goal := goal) hN C d24 c25 hf R hset hsh S hb hl) (fun w h1 hF => ?_)
      obtain ⟨y1, y2, y3, y4, y5⟩ := hF
      have hw := CF.w y5
      rw [hw] at y5
      have h80p := np_80 hb hl
      obtain ⟨n33, o33⟩ := O33
      exact rk_ireturn rfl rfl ⟨_, _, rfl, hw, y1, fun q a1 a2 a3 a4 a5 _ _ a8 => y2 q a1 a2 a3 a4 a5 a8, y3, ⟨n33, (y2 33 (by omega) (by omega) (by omega) (by omega) (by omega) (by omega)).trans o33⟩, y4, y5⟩
    · refine rk_aload_n rfl rfl ?_
      refine rk_get rfl (by assumption) rfl ?_
      refine rk_iload_n rfl rfl ?_
      refine rk_cv1e rfl rfl (by assumption) rfl rfl (Nat.le_of_ble_eq_true rfl) (Nat.le_of_ble_eq_true rfl) (s26N hN C _) ?_
      refine rk_if_ne rfl rfl (fun hc12 => ?_) (fun hc12 => ?_)
      · replace hc12 := Decidable.not_not.mp (mt bI_0.mpr hc12)
        refine rk_aload_n rfl rfl ?_
        refine rk_get rfl (by assumption) rfl ?_
        refine rk_iload_n rfl rfl ?_
        refine rk_iload_n rfl rfl ?_
        refine rk_iload_n rfl rfl ?_
        refine rk_aload_n rfl rfl ?_
        refine rk_get rfl (by assumption) rfl ?_
        refine rk_cq4i rfl rfl d24 rfl rfl (Nat.le_of_ble_eq_true rfl) (Nat.le_of_ble_eq_true rfl) (s107 (goal := goal) hN C d24 c25 hf R hset hsh S hb hl) (fun w h1 hF => ?_)
        obtain ⟨y1, y2, y3, y4, y5⟩ := hF
        have hw := CF.w y5
        rw [hw] at y5
        have h80p := np_80 hb hl
        obtain ⟨n33, o33⟩ := O33
        exact rk_ireturn rfl rfl ⟨_, _, rfl, hw, y1, fun q a1 a2 a3 a4 a5 _ _ a8 => y2 q a1 a2 a3 a4 a5 a8, y3, ⟨n33, (y2 33 (by omega) (by omega) (by omega) (by omega) (by omega) (by omega)).trans o33⟩, y4, y5⟩
      · replace hc12 := Decidable.not_not.mp hc12
        replace hc12 := (bI_0).mp hc12
        exact absurd (hg.resolve_left hc7) hc12
theorem s145x {X : ai_X} {h : ai_H} {tp : Int32} {N : Nat → Nat} (d0 : h[0]? = some (cOne tp)) (hN : HN N) (C : CH h 3 N) {a b c : Int32} (hx : ¬ (IsSet N a ∧ (b = -1 ∨ IsSet N b))) : Mt X am_145 [.ref 0, .int a, .int b, .int c] h (Qe (-3) h) := by
  have e3 := C.1
  refine rk_aload_n rfl rfl ?_
  refine rk_get rfl (by assumption) rfl ?_
  refine rk_iload_n rfl rfl ?_
  refine rk_cv1e rfl rfl (by assumption) rfl rfl (Nat.le_of_ble_eq_true rfl) (Nat.le_of_ble_eq_true rfl) (s26N hN C _) ?_
  refine rk_if_eq rfl rfl (fun hc4 => ?_) (fun hc4 => ?_)
  · replace hc4 := (bI_0).mp hc4
    refine rk_bipush (v := (-3)) rfl (by decide) ?_
    exact rk_ireturn rfl rfl Qe_mk
  · replace hc4 := Decidable.not_not.mp (mt bI_0.mpr hc4)
    refine rk_iload_n rfl rfl ?_
    refine rk_iconst (v := (-1)) rfl (by decide) ?_
    refine rk_icmp_eq rfl rfl (fun hc7 => ?_) (fun hc7 => ?_)
    · exact absurd ⟨hc4, Or.inl hc7⟩ hx
    · refine rk_aload_n rfl rfl ?_
      refine rk_get rfl (by assumption) rfl ?_
      refine rk_iload_n rfl rfl ?_
      refine rk_cv1e rfl rfl (by assumption) rfl rfl (Nat.le_of_ble_eq_true rfl) (Nat.le_of_ble_eq_true rfl) (s26N hN C _) ?_
      refine rk_if_ne rfl rfl (fun hc12 => ?_) (fun hc12 => ?_)
      · replace hc12 := Decidable.not_not.mp (mt bI_0.mpr hc12)
        exact absurd ⟨hc4, Or.inr hc12⟩ hx
      · replace hc12 := Decidable.not_not.mp hc12
        replace hc12 := (bI_0).mp hc12
        refine rk_bipush (v := (-3)) rfl (by decide) ?_
        exact rk_ireturn rfl rfl Qe_mk
theorem s143 {X : ai_X} {h : ai_H} {tp n1 n2 n0 : Int32} {N : Nat → Nat} {xa xb : Value} {f0 f25 : Nat → Int32} {b : Option Nat} (d0 : h[0]? = some (cOne tp)) (hN : HN N) (C : CH h 3 N) (d24 : h[24]? = some (cSets n1 n2 xa xb)) (c25 : h[25]? = some (cI 1536 f25)) (hf : ∀ j, j < 12 → f25 (128 * j) = 0) (R : RouteAt h 15 n0 f0) (S : SrchAt h 22 16384 16384 b) (hb : ∀ p, b = some p → 80 ≤ p) (hl : 80 ≤ h.length) (O33 : ∃ n, h[33]? = some (.inr (1, [.ref 3, .ref 22, .ref 34, .ref 35, .int n]))) {set : Nat} {goal : Int32} (hset : 0 < set ∧ set < 2 ^ N 0) (hg : goal = -1 ∨ IsSet N goal) : Mt X am_143 [.ref 0, .int (nI set), .int goal] h (Qn (nc b) (ns b 49152) (Qi (fun w h1 => w = ans (bfK (img N) (okS 0) (N 1) set 16384) (gl goal) ∧ CE h h1 b (ans (bfK (img N) (okS 0) (N 1) set 16384) (gl goal)) (bfK (img N) (okS 0) (N 1) set 16384) (gl goal)))) := by
  have e3 := C.1
  have hbar := hN.bar
  refine rk_aload_n rfl rfl ?_
  refine rk_iload_n rfl rfl ?_
  refine rk_iload_n rfl rfl ?_
  refine rk_iconst (v := nI 0) rfl (by decide) ?_
  refine rk_cq3i rfl rfl d0 rfl rfl (Nat.le_of_ble_eq_true rfl) (Nat.le_of_ble_eq_true rfl) (s145 (goal := goal) (sh := 0) d0 hN C d24 c25 hf R S hb hl O33 hset (by omega) hg) (fun w h1 hF => ?_)
  exact rk_ireturn rfl rfl ⟨_, _, rfl, hF⟩
theorem s143x {X : ai_X} {h : ai_H} {tp : Int32} {N : Nat → Nat} (d0 : h[0]? = some (cOne tp)) (hN : HN N) (C : CH h 3 N) {a b : Int32} (hx : ¬ (IsSet N a ∧ (b = -1 ∨ IsSet N b))) : Mt X am_143 [.ref 0, .int a, .int b] h (Qe (-3) h) := by
  have e3 := C.1
  refine rk_aload_n rfl rfl ?_
  refine rk_iload_n rfl rfl ?_
  refine rk_iload_n rfl rfl ?_
  refine rk_iconst (v := nI 0) rfl (by decide) ?_
  refine rk_cv3e rfl rfl (by assumption) rfl rfl (Nat.le_of_ble_eq_true rfl) (Nat.le_of_ble_eq_true rfl) (s145x d0 hN C hx) ?_
  exact rk_ireturn rfl rfl Qe_mk
theorem s144 {X : ai_X} {h : ai_H} {tp n1 n2 n0 : Int32} {N : Nat → Nat} {xa xb : Value} {f0 f25 : Nat → Int32} {b : Option Nat} (d0 : h[0]? = some (cOne tp)) (hN : HN N) (C : CH h 3 N) (d24 : h[24]? = some (cSets n1 n2 xa xb)) (c25 : h[25]? = some (cI 1536 f25)) (hf : ∀ j, j < 12 → f25 (128 * j) = 0) (R : RouteAt h 15 n0 f0) (S : SrchAt h 22 16384 16384 b) (hb : ∀ p, b = some p → 80 ≤ p) (hl : 80 ≤ h.length) (O33 : ∃ n, h[33]? = some (.inr (1, [.ref 3, .ref 22, .ref 34, .ref 35, .int n]))) {set : Nat} {goal : Int32} (hset : 0 < set ∧ set < 2 ^ N 0) (hg : goal = -1 ∨ IsSet N goal) : Mt X am_144 [.ref 0, .int (nI set), .int goal] h (Qn (nc b) (ns b 49152) (Qi (fun w h1 => w = ans (bfK (img N) (okS (N 268)) (N 1) set 16384) (gl goal) ∧ CE h h1 b (ans (bfK (img N) (okS (N 268)) (N 1) set 16384) (gl goal)) (bfK (img N) (okS (N 268)) (N 1) set 16384) (gl goal)))) := by
  have e3 := C.1
  have hbar := hN.bar
  refine rk_aload_n rfl rfl ?_
  refine rk_iload_n rfl rfl ?_
  refine rk_iload_n rfl rfl ?_
  refine rk_aload_n rfl rfl ?_
  refine rk_get rfl (by assumption) rfl ?_
  refine rk_get rfl (by assumption) rfl ?_
  refine rk_cq3i rfl rfl d0 rfl rfl (Nat.le_of_ble_eq_true rfl) (Nat.le_of_ble_eq_true rfl) (s145 (goal := goal) (sh := (N 268)) d0 hN C d24 c25 hf R S hb hl O33 hset (by omega) hg) (fun w h1 hF => ?_)
  exact rk_ireturn rfl rfl ⟨_, _, rfl, hF⟩
theorem s144x {X : ai_X} {h : ai_H} {tp : Int32} {N : Nat → Nat} (d0 : h[0]? = some (cOne tp)) (hN : HN N) (C : CH h 3 N) {a b : Int32} (hx : ¬ (IsSet N a ∧ (b = -1 ∨ IsSet N b))) : Mt X am_144 [.ref 0, .int a, .int b] h (Qe (-3) h) := by
  have e3 := C.1
  refine rk_aload_n rfl rfl ?_
  refine rk_iload_n rfl rfl ?_
  refine rk_iload_n rfl rfl ?_
  refine rk_aload_n rfl rfl ?_
  refine rk_get rfl (by assumption) rfl ?_
  refine rk_get rfl (by assumption) rfl ?_
  refine rk_cv3e rfl rfl (by assumption) rfl rfl (Nat.le_of_ble_eq_true rfl) (Nat.le_of_ble_eq_true rfl) (s145x d0 hN C hx) ?_
  exact rk_ireturn rfl rfl Qe_mk
theorem s238 {X : ai_X} {h : ai_H} {v A : Nat → Int32} {N : Nat → Nat} {mk : Nat} (c0 : h[52]? = some (cMdl v)) (c53 : h[53]? = some (cI 2346 A)) (hN : HN N) (M : MH A N) (H : MQs h mk) {set : Nat} {goal : Int32} (hset : 0 < set ∧ set < 2 ^ N 0) (hg : goal = -1 ∨ IsSet N goal) : Rk X am_238 3 (ai_loc (ai_mL am_238) [.ref 52, .int (nI set), .int goal]) [] h (Qi (fun y h1 => y = ans (bfK (img N) (okS 0) (N 1) set 16384) (gl goal) ∧ FrF h h1 ∧ MW h1 v (mk + 1) ∧ ∃ A1, h1[53]? = some (cI 2346 A1) ∧ MF A A1 y (bfK (img N) (okS 0) (N 1) set 16384) (gl goal))) := by
  obtain ⟨a0, a1, a268, a269, a270, a271, apl, apc, aot, asg, awt⟩ := id M
  have hbar := hN.bar
  refine rk_aload_n rfl rfl ?_
  refine rk_iload_n rfl rfl ?_
  refine rk_iload_n rfl rfl ?_
  refine rk_iconst (v := nI 0) rfl (by decide) ?_
  refine rk_cv3i rfl rfl (by assumption) rfl rfl (Nat.le_of_ble_eq_true rfl) (Nat.le_of_ble_eq_true rfl) (s236 (sh := 0) c0 c53 hN M H hset (by omega) hg) (fun w h1 hF => ?_)
  exact rk_ireturn rfl rfl ⟨_, _, rfl, hF⟩
theorem s238x {X : ai_X} {h : ai_H} {v A : Nat → Int32} {N : Nat → Nat} (c0 : h[52]? = some (cMdl v)) (c53 : h[53]? = some (cI 2346 A)) (hN : HN N) (M : MH A N) {a b : Int32} (hx : ¬ (IsSet N a ∧ (b = -1 ∨ IsSet N b))) : Rk X am_238 3 (ai_loc (ai_mL am_238) [.ref 52, .int a, .int b]) [] h (Qe (-3) h) := by
  obtain ⟨a0, a1, a268, a269, a270, a271, apl, apc, aot, asg, awt⟩ := id M
  refine rk_aload_n rfl rfl ?_
  refine rk_iload_n rfl rfl ?_
  refine rk_iload_n rfl rfl ?_
  refine rk_iconst (v := nI 0) rfl (by decide) ?_
  refine rk_cv3e rfl rfl (by assumption) rfl rfl (Nat.le_of_ble_eq_true rfl) (Nat.le_of_ble_eq_true rfl) (s236x c0 c53 hN M hx) ?_
  exact rk_ireturn rfl rfl Qe_mk
theorem s239 {X : ai_X} {h : ai_H} {v A : Nat → Int32} {N : Nat → Nat} {mk : Nat} (c0 : h[52]? = some (cMdl v)) (c53 : h[53]? = some (cI 2346 A)) (hN : HN N) (M : MH A N) (H : MQs h mk) {set : Nat} {goal : Int32} (hset : 0 < set ∧ set < 2 ^ N 0) (hg : goal = -1 ∨ IsSet N goal) : Rk X am_239 3 (ai_loc (ai_mL am_239) [.ref 52, .int (nI set), .int goal]) [] h (Qi (fun y h1 => y = ans (bfK (img N) (okS (N 268)) (N 1) set 16384) (gl goal) ∧ FrF h h1 ∧ MW h1 v (mk + 1) ∧ ∃ A1, h1[53]? = some (cI 2346 A1) ∧ MF A A1 y (bfK (img N) (okS (N 268)) (N 1) set 16384) (gl goal))) := by
  obtain ⟨a0, a1, a268, a269, a270, a271, apl, apc, aot, asg, awt⟩ := id M
  have hbar := hN.bar
  refine rk_aload_n rfl rfl ?_
  refine rk_iload_n rfl rfl ?_
  refine rk_iload_n rfl rfl ?_
  refine rk_aload_n rfl rfl ?_
  refine rk_get rfl (by assumption) rfl ?_
  refine rk_sipush (v := nI 268) rfl (by decide) ?_
  refine rk_iald rfl (by assumption) (rfl) (by omega) (by decide) ?_
  rw [a268]
  refine rk_cv3i rfl rfl (by assumption) rfl rfl (Nat.le_of_ble_eq_true rfl) (Nat.le_of_ble_eq_true rfl) (s236 (sh := (N 268)) c0 c53 hN M H hset (by omega) hg) (fun w h1 hF => ?_)
  exact rk_ireturn rfl rfl ⟨_, _, rfl, hF⟩
theorem s239x {X : ai_X} {h : ai_H} {v A : Nat → Int32} {N : Nat → Nat} (c0 : h[52]? = some (cMdl v)) (c53 : h[53]? = some (cI 2346 A)) (hN : HN N) (M : MH A N) {a b : Int32} (hx : ¬ (IsSet N a ∧ (b = -1 ∨ IsSet N b))) : Rk X am_239 3 (ai_loc (ai_mL am_239) [.ref 52, .int a, .int b]) [] h (Qe (-3) h) := by
  obtain ⟨a0, a1, a268, a269, a270, a271, apl, apc, aot, asg, awt⟩ := id M
  refine rk_aload_n rfl rfl ?_
  refine rk_iload_n rfl rfl ?_
  refine rk_iload_n rfl rfl ?_
  refine rk_aload_n rfl rfl ?_
  refine rk_get rfl (by assumption) rfl ?_
  refine rk_sipush (v := nI 268) rfl (by decide) ?_
  refine rk_iald rfl (by assumption) (rfl) (by omega) (by decide) ?_
  rw [a268]
  refine rk_cv3e rfl rfl (by assumption) rfl rfl (Nat.le_of_ble_eq_true rfl) (Nat.le_of_ble_eq_true rfl) (s236x c0 c53 hN M hx) ?_
  exact rk_ireturn rfl rfl Qe_mk
/-- what a search's call finds, class and model -/
theorem Inv.sdat {m c s : Nat} {h : ai_H} {tp : Nat} {T A im rs rm : Nat → Int32} {nu : Nat → Int64} {fk fp : Int32} {b : Nat → Option Nat} (I : InvP m c s h tp T A im rs rm nu fk fp b) (hm : m < 64) : ∃ N mk, HN N ∧ CH h 3 N ∧ MH A N ∧ (∀ t, FV A 0 t → FV A 0 t) ∧ HV A 0 (N 0) (N 1) (N 271) ∧ FV A 0 (N 1) ∧ MQs h mk ∧ mk ≤ 4000 * m ∧ ∀ v, h[52]? = some (cMdl v) → v 5 = nI tp ∧ v 13 = fk ∧ v 14 = fp := by
  obtain ⟨hA, ⟨⟨F, G, hH, hC⟩, -⟩, hR, hI, hS, hO, ⟨⟨v, mk, e1, e2, e3, e4, e5, e6, e7⟩, hM⟩, ⟨-, -, ⟨n, t, w, hV, hF⟩, -⟩, -⟩ := I
  obtain ⟨N, hN, n0, n1, n2, hCH, hMH⟩ := house_nat hH hC hV
  obtain ⟨-, -, -, -, -, -, -, s57, s58, s59, s60, s61, -⟩ := hM
  subst n0 n1 n2
  refine ⟨N, mk, hN, hCH, hMH, fun _ z => z, hV, hF, ⟨v, e1, e5, by omega, s57, s58, s59, s60, s61, e7⟩, e6, fun v' hv' => ?_⟩
  rw [e1] at hv'
  obtain ⟨x1, x2, x3, x4⟩ := cMdl_inj (Option.some.inj hv')
  exact ⟨x1.symm.trans e2, x2.symm.trans e3, x3.symm.trans e4⟩
theorem np_some {b : Option Nat} {p L : Nat} (h : b = some p) : np b L = p := by subst h; rfl
theorem nc_some {b : Option Nat} {p : Nat} (h : b = some p) : nc b = 0 := by subst h; rfl
theorem bu_self {b : Nat → Option Nat} {i p : Nat} (h : b i = some p) : bu b i p = b := funext fun j => by
  unfold bu
  split
  · rename_i z; rw [z, h]
  · rfl
/-- the cells that were made, in the books -/
theorem dyn_after {h h1 : ai_H} {b : Nat → Option Nat} {i c s z : Nat} (hD : DynOk h b) (hi : i < 5) (h3 : blN i = 3) (hz : blS i = z) (h80 : 80 ≤ h.length) (hl : h1.length = h.length + nc (b i)) (hc : c + pend b blN ≤ 104) (hs : s + pend b blS ≤ 534748) : DynOk h1 (bu b i (np (b i) h.length)) ∧ c + nc (b i) + pend (bu b i (np (b i) h.length)) blN ≤ 104 ∧ s + ns (b i) z + pend (bu b i (np (b i) h.length)) blS ≤ 534748 := by
  cases e : b i with
  | none =>
    rw [e] at hl
    have hl' : h1.length = h.length + 3 := hl
    have p1 := pend_new (p := h.length) (w := blN) e hi
    have p2 := pend_new (p := h.length) (w := blS) e hi
    refine ⟨hD.new e hi h80 (by omega), ?_, ?_⟩
    · show c + 3 + pend (bu b i h.length) blN ≤ 104
      omega
    · show s + z + pend (bu b i h.length) blS ≤ 534748
      omega
  | some p =>
    rw [e] at hl
    have hl' : h1.length = h.length + 0 := hl
    show DynOk h1 (bu b i p) ∧ c + 0 + pend (bu b i p) blN ≤ 104 ∧ s + 0 + pend (bu b i p) blS ≤ 534748
    rw [bu_self e]
    exact ⟨hD.fr (by omega), by omega, by omega⟩
/-- class and model have searched: what held holds again -/
theorem fin2 {m c s mk x : Nat} {h h1 h2 h3 : ai_H} {tp : Nat} {T A A1 im rs rm v : Nat → Int32} {nu : Nat → Int64} {fk fp W W1 : Int32} {b : Nat → Option Nat} {N : Nat → Nat} {B : Bf} {g : Nat → Bool} {nx : Nat → Nat → Nat} {ok : Nat → Bool} (hP : InvP m c s h tp T A im rs rm nu fk fp b) (hV : HV A 0 (N 0) (N 1) (N 271)) (hFV : FV A 0 (N 1)) (hmk : mk ≤ 4000 * m + 3999) (hv : v 5 = nI tp ∧ v 13 = fk ∧ v 14 = fp) (E : CE h h1 (b 2) W B g) (hk : ∀ q : Nat, q ≠ 52 → h2[q]? = h1[q]?) (F : FrF h2 h3) (Mw : MW h3 v (mk + 1)) (c53 : h3[53]? = some (cI 2346 A1)) (Mf : MF A A1 W1 B g) (hB : BI nx ok (N 1) x B) (hl : h2.length = h1.length) (k : ai_Sk h h3) : Inv (m + 1) (c + nc (b 2)) (s + ns (b 2) 49152) h3 := by
  obtain ⟨hA, hBB, hR, hI, hS, hO, hM, hVV, hD, hc, hs⟩ := id hP
  obtain ⟨y1, y2, ⟨f25, y3, y3'⟩, ⟨n33, y4⟩, y5, y6⟩ := E
  have h80 := hM.len
  have hb2 : ∀ p, b 2 = some p → 80 ≤ p := fun p e => (hD 2 p (by omega) e).1
  have hp80 := np_80 hb2 h80
  have kk : ∀ q : Nat, q ≠ 52 → q ≠ 53 → ¬ (57 ≤ q ∧ q < 63) → h3[q]? = h1[q]? := fun q a1 a2 a3 => (F.2 q a1 a2 a3).trans (hk q a1)
  have k8 : ∀ q : Nat, q < 80 → q ≠ 15 → q ≠ 16 → q ≠ 22 → q ≠ 25 → q ≠ 33 → q ≠ 35 → q ≠ 52 → q ≠ 53 → ¬ (57 ≤ q ∧ q < 63) → h3[q]? = h[q]? := fun q a0 a1 a2 a3 a4 a5 a6 a7 a8 a9 => (kk q a7 a8 a9).trans (y2 q (by omega) a1 a2 a3 a4 a5 a6 (by omega))
  have kb : ∀ i p q, 3 ≤ i → i < 5 → b i = some p → p ≤ q → q < p + blN i → h3[q]? = h[q]? := by
    intro i p q hi1 hi2 e a1 a2
    have hd := hD i p hi2 e
    refine (kk q (by omega) (by omega) (by omega)).trans (y2 q (by omega) (by omega) (by omega) (by omega) (by omega) (by omega) (by omega) ?_)
    cases e2 : b 2 with
    | none => show ¬ (h.length ≤ q ∧ q < h.length + 3); omega
    | some p2 =>
      have := (hd.2.2 2 p2 (by omega) (by omega) e2)
      rw [show blN 2 = 3 from rfl] at this
      show ¬ (p2 ≤ q ∧ q < p2 + 3)
      omega
  obtain ⟨d1, d2, d3⟩ := dyn_after (z := 49152) hD (by omega) rfl rfl h80 y1 hc hs
  have hlen3 : h3.length = h1.length := F.1.trans hl
  refine Inv.srch (b1 := bu b 2 (np (b 2) h.length)) hP k ?_ ?_ rfl rfl (d1.fr (by omega)) d2 d3 ?_ (found_FC y6 Mf hBB.2.2.1 (kk 15 (by omega) (by omega) (by omega)) (kk 16 (by omega) (by omega) (by omega))) ?_ ⟨n33, (kk 33 (by omega) (by omega) (by omega)).trans y4⟩ ?_ c53 Mf.keep ?_
  · intro q hq kp hbl
    refine (kk q (by omega) (by omega) (by omega)).trans (y2 q hq (by omega) (by omega) (by omega) (by omega) (by omega) (by omega) ?_)
    cases e2 : b 2 with
    | none => show ¬ (h.length ≤ q ∧ q < h.length + 3); omega
    | some p2 => exact hbl 2 p2 (by omega) (by omega) e2
  · obtain ⟨s1, s2, ⟨n1, n2, xa, xb, s3, s4⟩, -⟩ := hS
    refine ⟨?_, ?_, ⟨n1, n2, xa, xb, (k8 24 (by omega) (by omega) (by omega) (by omega) (by omega) (by omega) (by omega) (by omega) (by omega) (by omega)).trans s3, ?_⟩, f25, (kk 25 (by omega) (by omega) (by omega)).trans y3, y3'⟩
    · exact y5.fr (kk 22 (by omega) (by omega) (by omega)) (fun p e q a1 a2 => by cases e; exact kk q (by omega) (by omega) (by omega))
    · exact s2.fr (k8 23 (by omega) (by omega) (by omega) (by omega) (by omega) (by omega) (by omega) (by omega) (by omega) (by omega)) (fun p e q a1 a2 => kb 3 p q (by omega) (by omega) e a1 (by rw [show blN 3 = 3 from rfl]; exact a2))
    · rcases s4 with z | ⟨p, e1, e2, e3, e4, e5⟩
      · exact Or.inl z
      · exact Or.inr ⟨p, e1, e2, e3, e4.fr (kb 4 p p (by omega) (by omega) e1 (by omega) (by simp [blN])), e5.fr (kb 4 p (p + 1) (by omega) (by omega) e1 (by omega) (by simp [blN]))⟩
  · obtain ⟨F9, G9, z⟩ := hBB.2.1
    exact ⟨F9, G9, z.fr (fun q _ _ => k8 q (by omega) (by omega) (by omega) (by omega) (by omega) (by omega) (by omega) (by omega) (by omega) (by omega))⟩
  · obtain ⟨n, f, z⟩ := hBB.2.2.2
    exact ⟨n, f, z.fr (fun q _ _ => k8 q (by omega) (by omega) (by omega) (by omega) (by omega) (by omega) (by omega) (by omega) (by omega) (by omega))⟩
  · obtain ⟨v1, w0, w1, w2, w3, w4, w5⟩ := Mw
    exact ⟨v1, mk + 1, w0, w1.trans hv.1, w2.trans hv.2.1, w3.trans hv.2.2, w4, by omega, w5⟩
  · intro n t w hV' _
    have : t = N 1 := by
      have e1 := hV.2.1
      have e2 := hV'.2.1
      rw [e1] at e2
      have h1 := hV.2.2.2.2.2.1
      have h2 := hV'.2.2.2.2.2.1
      exact ((nI_eq (by omega) (by omega)).mp e2).symm
    subst this
    exact found_FV Mf hB hFV
theorem MQs.fr {h h1 : ai_H} {mk : Nat} (K : ∀ q : Nat, 57 ≤ q → q < 63 → h1[q]? = h[q]?) {v v1 : Nat → Int32} (hv : h[52]? = some (cMdl v)) (hv1 : h1[52]? = some (cMdl v1)) (e : v1 22 = v 22) (H : MQs h mk) : MQs h1 mk := by
  obtain ⟨v', e1, e2, e3, s57, s58, s59, s60, s61, sm, a6, a7⟩ := H
  rw [hv] at e1
  have hv22 := (cMdl_inj (Option.some.inj e1)).2.2.2
  exact ⟨v1, hv1, (e.trans hv22).trans e2, e3, s57.fr (K _ (by omega) (by omega)), s58.fr (K _ (by omega) (by omega)), s59.fr (K _ (by omega) (by omega)), s60.fr (K _ (by omega) (by omega)), s61.fr (K _ (by omega) (by omega)), sm, (K _ (by omega) (by omega)).trans a6, a7⟩
theorem ob13 (X : ai_X) : O13 X Inv := by
  intro a0 a1
  refine ob_cells fun m c s h hm I => ?_
  obtain ⟨tp, T, A, im, rs, rm, nu, fk, fp, b, hP⟩ := id I
  obtain ⟨N, mk, hN, C, M, -, hV, hFV, H, hmk, hv⟩ := Inv.sdat hP hm
  obtain ⟨hA, hB, hR, hI, hS, hO, hM, hVV, hD, hc, hs⟩ := id hP
  obtain ⟨v, d52⟩ := I.m52
  have d53 := hM.2.1
  have d0 := hA.1
  have h80 := hM.len
  by_cases hx : IsSet N a0 ∧ (a1 = -1 ∨ IsSet N a1)
  · obtain ⟨h1, hg⟩ := hx
    obtain ⟨set, s1, s2, rfl⟩ := isSet_of hN h1
    obtain ⟨S2, S3, ⟨n1, n2, xa, xb, d24, hvals⟩, f25, c25, hf⟩ := id hS
    obtain ⟨-, R9, ⟨n0, f0, R, hFC⟩, R17⟩ := id hB
    have hb2 : ∀ p, b 2 = some p → 80 ≤ p := fun p e => (hD 2 p (by omega) e).1
    have hp80 := np_80 hb2 h80
    refine ⟨_, _, _, _, s143 (goal := a1) d0 hN C d24 c25 hf R S2 hb2 h80 hO.2.1 ⟨s1, s2⟩ hg, ?_⟩
    rintro h1 E k1
    have kq : ∀ q : Nat, 44 ≤ q → q < 80 → h1[q]? = h[q]? := fun q a1 a2 => E.2.1 q (by omega) (by omega) (by omega) (by omega) (by omega) (by omega) (by omega) (by omega)
    have e52 := (kq 52 (by omega) (by omega)).trans d52
    refine ⟨⟨_, e52⟩, md_g rfl rfl rfl rfl e52 (fun h2 g2 hk hl => ?_)⟩
    have H2 : MQs h2 mk := H.fr (fun q a1 a2 => (hk q (by omega)).trans (kq q (by omega) (by omega))) d52 g2 rfl
    refine (s238 g2 ((hk 53 (by omega)).trans ((kq 53 (by omega) (by omega)).trans d53)) hN M H2 ⟨s1, s2⟩ hg).mono ?_
    rintro o ⟨y, h3, e1, hy, F3, w3, A1, c53, mf⟩
    subst e1
    exact ⟨_, _, rfl, hy, fun k2 => fin2 hP hV hFV (by omega) (hv v d52) E hk F3 w3 c53 mf (BI.heads 16384) hl (k1.trans k2)⟩
  · exact og_cells (og_pure I (s143x d0 hN C hx) (md_thr rfl rfl rfl rfl d52 (fun h2 g2 hk => s238x g2 ((hk 53 (by omega)).trans d53) hN M hx)))
theorem ob14 (X : ai_X) : O14 X Inv := by
  intro a0 a1
  refine ob_cells fun m c s h hm I => ?_
  obtain ⟨tp, T, A, im, rs, rm, nu, fk, fp, b, hP⟩ := id I
  obtain ⟨N, mk, hN, C, M, -, hV, hFV, H, hmk, hv⟩ := Inv.sdat hP hm
  obtain ⟨hA, hB, hR, hI, hS, hO, hM, hVV, hD, hc, hs⟩ := id hP
  obtain ⟨v, d52⟩ := I.m52
  have d53 := hM.2.1
  have d0 := hA.1
  have h80 := hM.len
  by_cases hx : IsSet N a0 ∧ (a1 = -1 ∨ IsSet N a1)
  · obtain ⟨h1, hg⟩ := hx
    obtain ⟨set, s1, s2, rfl⟩ := isSet_of hN h1
    obtain ⟨S2, S3, ⟨n1, n2, xa, xb, d24, hvals⟩, f25, c25, hf⟩ := id hS
    obtain ⟨-, R9, ⟨n0, f0, R, hFC⟩, R17⟩ := id hB
    have hb2 : ∀ p, b 2 = some p → 80 ≤ p := fun p e => (hD 2 p (by omega) e).1
    have hp80 := np_80 hb2 h80
    refine ⟨_, _, _, _, s144 (goal := a1) d0 hN C d24 c25 hf R S2 hb2 h80 hO.2.1 ⟨s1, s2⟩ hg, ?_⟩
    rintro h1 E k1
    have kq : ∀ q : Nat, 44 ≤ q → q < 80 → h1[q]? = h[q]? := fun q a1 a2 => E.2.1 q (by omega) (by omega) (by omega) (by omega) (by omega) (by omega) (by omega) (by omega)
    have e52 := (kq 52 (by omega) (by omega)).trans d52
    refine ⟨⟨_, e52⟩, md_g rfl rfl rfl rfl e52 (fun h2 g2 hk hl => ?_)⟩
    have H2 : MQs h2 mk := H.fr (fun q a1 a2 => (hk q (by omega)).trans (kq q (by omega) (by omega))) d52 g2 rfl
    refine (s239 g2 ((hk 53 (by omega)).trans ((kq 53 (by omega) (by omega)).trans d53)) hN M H2 ⟨s1, s2⟩ hg).mono ?_
    rintro o ⟨y, h3, e1, hy, F3, w3, A1, c53, mf⟩
    subst e1
    exact ⟨_, _, rfl, hy, fun k2 => fin2 hP hV hFV (by omega) (hv v d52) E hk F3 w3 c53 mf (BI.heads 16384) hl (k1.trans k2)⟩
  · exact og_cells (og_pure I (s144x d0 hN C hx) (md_thr rfl rfl rfl rfl d52 (fun h2 g2 hk => s239x g2 ((hk 53 (by omega)).trans d53) hN M hx)))
