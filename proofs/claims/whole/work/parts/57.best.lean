/-! BEST -/
/-- the best so far: its number and one more, its length, its row -/
abbrev BS : Type := Nat × Nat × (Nat → Nat)
abbrev vB (N : Nat → Nat) (L i : Nat) : Nat := tH N (dgB (N 1) L i) L (N 271)
def stB (N : Nat → Nat) (L : Nat) (s : BS) (i : Nat) : BS := if s.1 ≤ vB N L i then (vB N L i + 1, L, dgB (N 1) L i) else s
def inB (N : Nat → Nat) (L : Nat) (s : BS) : Nat → BS
  | 0 => s
  | k + 1 => stB N L (inB N L s k) k
def ouB (N : Nat → Nat) : Nat → BS
  | 0 => (0, 0, fun _ => 0)
  | l + 1 => inB N l (ouB N l) (N 1 ^ l)
/-- as an answer -/
def vlB (b : Nat) : Int32 := if b = 0 then -1 else nI (b - 1)
theorem vlB_s (v : Nat) : vlB (v + 1) = nI v := if_neg (by omega)
theorem vlB_le {v b : Nat} (hv : v < 2 ^ 30) (hb : b < 2 ^ 30) : nI v ≤ vlB b ↔ ¬ b ≤ v := by
  unfold vlB
  by_cases h : b = 0
  · rw [if_pos h, Int32.le_iff_toInt_le, nI_toInt (by omega), show (-1 : Int32).toInt = -1 from rfl]
    omega
  · rw [if_neg h, nI_leI (by omega) (by omega)]
    omega
theorem vlB_m1 {b : Nat} (hb : b < 2 ^ 30) : vlB b = -1 ↔ b = 0 := by
  unfold vlB
  by_cases h : b = 0
  · rw [if_pos h]; exact ⟨fun _ => h, fun _ => rfl⟩
  · rw [if_neg h]; exact ⟨fun z => absurd z (nI_m1 (by omega)), fun z => absurd z h⟩
def BOk (N : Nat → Nat) (s : BS) : Prop := s.1 ≤ 1000000001 ∧ s.2.1 ≤ 4 ∧ ∀ j, j < s.2.1 → s.2.2 j < N 1
theorem BOk.b {N : Nat → Nat} {s : BS} (H : BOk N s) : s.1 ≤ 1000000001 := H.1
theorem BOk.l {N : Nat → Nat} {s : BS} (H : BOk N s) : s.2.1 ≤ 4 := H.2.1
theorem BOk.x {N : Nat → Nat} {s : BS} (H : BOk N s) : ∀ j, j < s.2.1 → s.2.2 j < N 1 := H.2.2
theorem vB_le {N : Nat → Nat} {L i : Nat} (hN : HN N) (h1 : 0 < N 1) : vB N L i ≤ 1000000000 := tH_le hN (fun _ _ => dgB_lt h1) (Nat.le_refl _)
theorem BOk.st {N : Nat → Nat} {s : BS} {L i : Nat} (hN : HN N) (h1 : 0 < N 1) (hL : L ≤ 4) (H : BOk N s) : BOk N (stB N L s i) := by
  unfold stB
  split
  · have := vB_le (L := L) (i := i) hN h1
    exact ⟨by show vB N L i + 1 ≤ _; omega, hL, fun j _ => dgB_lt h1⟩
  · exact H
theorem BOk.inn {N : Nat → Nat} {s : BS} {L : Nat} (hN : HN N) (h1 : 0 < N 1) (hL : L ≤ 4) (H : BOk N s) : ∀ k, BOk N (inB N L s k)
  | 0 => H
  | k + 1 => (BOk.inn hN h1 hL H k).st hN h1 hL
theorem BOk.ou {N : Nat → Nat} (hN : HN N) (h1 : 0 < N 1) : ∀ l, l ≤ 5 → BOk N (ouB N l)
  | 0, _ => ⟨by show 0 ≤ _; omega, by show 0 ≤ _; omega, fun j hj => absurd hj (by show ¬ j < 0; omega)⟩
  | l + 1, hl => (BOk.ou hN h1 l (by omega)).inn hN h1 (by omega) _
theorem stB_pos {N : Nat → Nat} {s : BS} {L i : Nat} (h : 0 < s.1) : 0 < (stB N L s i).1 := by
  unfold stB; split
  · show 0 < vB N L i + 1; omega
  · exact h
theorem inB_pos {N : Nat → Nat} {s : BS} {L : Nat} (h : 0 < s.1) : ∀ k, 0 < (inB N L s k).1
  | 0 => h
  | k + 1 => stB_pos (inB_pos h k)
theorem ouB_pos {N : Nat → Nat} : ∀ l, 0 < (ouB N (l + 1)).1
  | 0 => by
    show 0 < (inB N 0 (0, 0, fun _ => 0) (N 1 ^ 0)).1
    rw [Nat.pow_zero]
    show 0 < (stB N 0 (0, 0, fun _ => 0) 0).1
    unfold stB
    rw [if_pos (Nat.zero_le _)]
    show 0 < vB N 0 0 + 1
    omega
  | l + 1 => inB_pos (ouB_pos l) _
/-- what the class writes -/
def FBc (h g : ai_H) : Prop := g.length = h.length ∧ ∀ q : Nat, ¬ (15 ≤ q ∧ q < 19) → ¬ (42 ≤ q ∧ q < 44) → g[q]? = h[q]?
theorem FBc.tr {h g k : ai_H} (x : FBc h g) (y : FBc g k) : FBc h k := ⟨y.1.trans x.1, fun q a b => (y.2 q a b).trans (x.2 q a b)⟩
theorem FBc.rf {h : ai_H} : FBc h h := ⟨rfl, fun _ _ _ => rfl⟩
theorem FBc.r {h g : ai_H} {a b : Nat} (F : Fr a b h g) (ha : (15 ≤ a ∧ b ≤ 19) ∨ (42 ≤ a ∧ b ≤ 44)) : FBc h g := ⟨F.1, fun q x y => F.2 q (by omega)⟩
def FoundC (g : ai_H) (s : BS) : Prop := (∃ n f, RouteAt g 15 n f) ∧ (0 < s.1 → RtAt g 15 s.2.1 s.2.2)
theorem FoundC.fr {g k : ai_H} {s : BS} (e : ∀ q, 15 ≤ q → q < 17 → k[q]? = g[q]?) (H : FoundC g s) : FoundC k s := by
  obtain ⟨⟨n, f, r⟩, b⟩ := H
  exact ⟨⟨n, f, r.fr e⟩, fun z => (b z).fr e⟩
theorem s3k {X : ai_X} {h : ai_H} {N x : Nat → Nat} {q L : Nat} (hN : HN N) (C : CH h 3 N) (d41 : h[41]? = some cCh) (R : RtAt h q L x) (hq : q = 15 ∨ q = 17) (hx : ∀ j, j < L → x j < N 1) (hL : L ≤ 4) (hr : N 270 < N 0) (S42 : ShJ h 42 14) (S43 : ShJ h 43 14) : Mt X am_3 [.ref 41, .ref q] h (Qi (fun w h1 => w = nI (tH N x L (N 271)) ∧ Fr 42 44 h h1 ∧ ShJ h1 42 14 ∧ ShJ h1 43 14)) := by
  refine (s3 hN C d41 R hq hx hL hr S42 S43).sk.mono ?_
  rintro o ⟨⟨w, h1, rfl, rfl, F⟩, k⟩
  exact ⟨_, _, rfl, rfl, F, S42.sk k, S43.sk k⟩
theorem s277k {X : ai_X} {h : ai_H} {v A : Nat → Int32} {N x : Nat → Nat} {L : Nat} (c0 : h[52]? = some (cMdl v)) (c1 : h[53]? = some (cI 2346 A)) (hN : HN N) (M : MH A N) (S75 : AN h 75 4 L x) (hx : ∀ j, j < L → x j < N 1) (hL : L ≤ 4) (hr : N 270 < N 0) (S73 : ShJ h 73 14) (S74 : ShJ h 74 14) : Mt X am_277 [.ref 52, .int (nI L)] h (Qi (fun y h1 => y = nI (tH N x L (N 271)) ∧ Fr 73 75 h h1 ∧ ShJ h1 73 14 ∧ ShJ h1 74 14)) := by
  refine (s277 c0 c1 hN M S75 hx hL hr S73 S74).sk.mono ?_
  rintro o ⟨⟨w, h1, rfl, rfl, F⟩, k⟩
  exact ⟨_, _, rfl, rfl, F, S73.sk k, S74.sk k⟩
theorem MH.up {A A1 : Nat → Int32} {N : Nat → Nat} (hN : HN N) (e : ∀ q, q < 281 → A1 q = A q) (M : MH A N) : MH A1 N := by
  obtain ⟨a0, a1, a268, a269, a270, a271, apl, apc, aot, asg, awt⟩ := M
  have hn := hN.n
  have h6 := hN.t
  have h8 := hN.w
  exact ⟨(e _ (by omega)).trans a0, (e _ (by omega)).trans a1, (e _ (by omega)).trans a268, (e _ (by omega)).trans a269, (e _ (by omega)).trans a270, (e _ (by omega)).trans a271, fun r i hr hi => (e _ (by omega)).trans (apl r i hr hi), fun r i hr hi => (e _ (by omega)).trans (apc r i hr hi), fun r i hr hi => (e _ (by omega)).trans (aot r i hr hi), fun r hr => (e _ (by omega)).trans (asg r hr), fun w hw => (e _ (by omega)).trans (awt w hw)⟩
theorem l4i {X : ai_X} {h : ai_H} {N : Nat → Nat} {n : Nat} (hN : HN N) (C : CH h 3 N) (d41 : h[41]? = some cCh) (h0 : ¬ N 0 = 0) (hn4 : n ≤ 4) {l : Nat} (hl : l ≤ n) {P : ai_O → Prop} (z : ∀ g w6 k c8, FBc h g → ShJ g 42 14 → ShJ g 43 14 → FoundC g (ouB N (l + 1)) → (∃ n f, RouteAt g 17 n f) → Rk X am_4 40 [some (.ref 41), some (.int (nI n)), some (.ref 17), some (.ref 15), some (.int (vlB (ouB N (l + 1)).1)), some (.int (nI l)), some (.int w6), some (.int (nI k)), c8] [] g P) : ∀ (d : Nat) (k : Nat) (g : ai_H) (w6 : Int32) (c8 : Option Value), N 1 ^ l < k + d → (k ≤ N 1 ^ l) → (FBc h g) → (ShJ g 42 14) → (ShJ g 43 14) → (FoundC g (inB N l (ouB N l) k)) → ((k < N 1 ^ l ∧ ¬ w6 = -1 ∧ RtAt g 17 l (dgB (N 1) l k)) ∨ (k = N 1 ^ l ∧ w6 = -1 ∧ ∃ n f, RouteAt g 17 n f)) → Rk X am_4 14 [some (.ref 41), some (.int (nI n)), some (.ref 17), some (.ref 15), some (.int (vlB (inB N l (ouB N l) k).1)), some (.int (nI l)), some (.int w6), some (.int (nI k)), c8] [] g (P) := by
  intro d
  induction d with
  | zero => intro k g w6 c8 hd hk F S1 S2 FC H; exfalso; omega
  | succ d ih =>
    intro k g w6 c8 hd hk F S1 S2 FC H
    have C2 : CH g 3 N := C.fr (fun q _ _ => F.2 q (by omega) (by omega))
    have e3 := C2.1
    have e41 := (F.2 41 (by omega) (by omega)).trans d41
    have h1p : 0 < N 1 := by have := hN.1; omega
    have h6 := hN.t
    have hr : N 270 < N 0 := by have := hN.2.2.1; omega
    have hp := p1296 h6 (show l ≤ 4 by omega) h1p
    have hin := BOk.inn hN h1p (show l ≤ 4 by omega) (BOk.ou hN h1p l (by omega)) k
    have hinb := hin.b
    have hst : inB N l (ouB N l) (k + 1) = stB N l (inB N l (ouB N l) k) k := rfl
    have hvb := vB_le (L := l) (i := k) hN h1p
    refine rk_iload rfl rfl ?_
    refine rk_sipush (v := nI 10000) rfl (by decide) ?_
    refine rk_icmp_ge rfl rfl (fun hc16 => ?_) (fun hc16 => ?_)
    · replace hc16 := (nI_leI (by omega) (by omega)).mp hc16
      omega
    · replace hc16 := mt (nI_leI (by omega) (by omega)).mpr hc16
      refine rk_iload rfl rfl ?_
      refine rk_iconst (v := (-1)) rfl (by decide) ?_
      refine rk_icmp_eq rfl rfl (fun hc19 => ?_) (fun hc19 => ?_)
      · have hke : k = N 1 ^ l := by
          rcases H with ⟨-, y, -⟩ | ⟨y, -⟩
          · exact absurd hc19 y
          · exact y
        have hR17 : ∃ n f, RouteAt g 17 n f := by
          rcases H with ⟨-, y, -⟩ | ⟨-, -, y⟩
          · exact absurd hc19 y
          · exact y
        subst hke
        exact z g _ _ _ F S1 S2 FC hR17
      · obtain ⟨hkl, R⟩ : k < N 1 ^ l ∧ RtAt g 17 l (dgB (N 1) l k) := by
          rcases H with ⟨y1, -, y2⟩ | ⟨-, y, -⟩
          · exact ⟨y1, y2⟩
          · exact absurd y hc19
        refine rk_aload_n rfl rfl ?_
        refine rk_aload_n rfl rfl ?_
        refine rk_cv1i rfl rfl (by assumption) rfl rfl (Nat.le_of_ble_eq_true rfl) (Nat.le_of_ble_eq_true rfl) (s3k hN C2 e41 R (Or.inr rfl) (fun j _ => dgB_lt h1p) (by omega) hr S1 S2) (fun w h1 hF => ?_)
        obtain ⟨rfl, F1, T1, T2⟩ := hF
        have F2 : FBc h h1 := F.tr (FBc.r F1 (by omega))
        have R2 := R.fr2 F1 (by omega)
        have C1 := C2.fr2 F1 (by omega)
        have FC2 : FoundC h1 (inB N l (ouB N l) k) := FC.fr (fun q _ _ => F1.2 q (by omega))
        have e17 := R2.choose_spec.1.1
        replace e41 := (F1.2 41 (by omega)).trans e41
        replace e3 := C1.1
        refine rk_istore rfl (Nat.le_of_ble_eq_true rfl) rfl ?_
        refine rk_iload rfl rfl ?_
        refine rk_iload rfl rfl ?_
        refine rk_icmp_le rfl rfl (fun hc26 => ?_) (fun hc26 => ?_)
        · replace hc26 := (vlB_le (v := vB N l k) (by omega) (by omega)).mp hc26
          have hs2 : inB N l (ouB N l) (k + 1) = inB N l (ouB N l) k := hst.trans (if_neg hc26)
          have FC3 := FC2
          rw [← hs2] at FC3
          rw [← hs2]
          have F3 := F2
          have R3 := R2
          have C3 := C1
          have U1 := T1
          have U2 := T2
          refine rk_aload_n rfl rfl ?_
          refine rk_aload_n rfl rfl ?_
          refine rk_get rfl (by assumption) rfl ?_
          refine rk_get rfl (by assumption) rfl ?_
          refine rk_cv1i rfl rfl (by assumption) rfl rfl (Nat.le_of_ble_eq_true rfl) (Nat.le_of_ble_eq_true rfl) (s94 h1p h6 (show l ≤ 4 by omega) hkl R3) (fun w h1 hF => ?_)
          obtain ⟨F6, H6⟩ := hF
          have F5 := F3.tr (FBc.r F6 (by omega))
          have T1 := U1.fr (F6.2 42 (by omega))
          have T2 := U2.fr (F6.2 43 (by omega))
          have FC5 := FC3.fr (fun q _ _ => F6.2 q (by omega))
          have H5 : (k + 1 < N 1 ^ l ∧ ¬ w = -1 ∧ RtAt h1 17 l (dgB (N 1) l (k + 1))) ∨ (k + 1 = N 1 ^ l ∧ w = -1 ∧ ∃ n f, RouteAt h1 17 n f) := H6
          refine rk_istore rfl (Nat.le_of_ble_eq_true rfl) rfl ?_
          refine rk_iinc rfl rfl (n_inc _) rfl ?_
          refine rk_goto rfl rfl ?_
          refine ih (k + 1) _ _ _ (by omega) (by omega) F5 T1 T2 FC5 H5
        · replace hc26 := Decidable.not_not.mp (mt (vlB_le (v := vB N l k) (by omega) (by omega)).mpr hc26)
          have hs2 : inB N l (ouB N l) (k + 1) = (vB N l k + 1, l, dgB (N 1) l k) := hst.trans (if_pos hc26)
          obtain ⟨f17, r17, hf17⟩ := id R2
          obtain ⟨⟨n15, f15, r15⟩, -⟩ := FC2
          have q15 := r15.1
          refine rk_iload rfl rfl ?_
          refine rk_istore rfl (Nat.le_of_ble_eq_true rfl) rfl ?_
          refine rk_aload_n rfl rfl ?_
          refine rk_aload_n rfl rfl ?_
          refine rk_cv1v rfl rfl (by assumption) rfl rfl (Nat.le_of_ble_eq_true rfl) (Nat.le_of_ble_eq_true rfl) (s92 r15 (by omega) r17 (by omega)) (fun h1 hF => ?_)
          obtain ⟨F4, f4, r4, hf4⟩ := hF
          have F3 : FBc h h1 := F2.tr (FBc.r F4 (by omega))
          have FC3 : FoundC h1 (inB N l (ouB N l) (k + 1)) := ⟨⟨_, _, r4⟩, fun _ => by rw [hs2]; exact ⟨_, r4, fun j hj => (hf4 j hj).trans (hf17 j hj)⟩⟩
          have R3 := R2.fr2 F4 (by omega)
          replace e41 := (F4.2 41 (by omega)).trans e41
          have C3 := C1.fr2 F4 (by omega)
          replace e3 := C3.1
          replace e17 := R3.choose_spec.1.1
          have U1 := T1.fr (F4.2 42 (by omega))
          have U2 := T2.fr (F4.2 43 (by omega))
          rw [show nI (vB N l k) = vlB (inB N l (ouB N l) (k + 1)).1 by rw [hs2]; exact (vlB_s _).symm]
          refine rk_aload_n rfl rfl ?_
          refine rk_aload_n rfl rfl ?_
          refine rk_get rfl (by assumption) rfl ?_
          refine rk_get rfl (by assumption) rfl ?_
          refine rk_cv1i rfl rfl (by assumption) rfl rfl (Nat.le_of_ble_eq_true rfl) (Nat.le_of_ble_eq_true rfl) (s94 h1p h6 (show l ≤ 4 by omega) hkl R3) (fun w h1 hF => ?_)
          obtain ⟨F6, H6⟩ := hF
          have F5 := F3.tr (FBc.r F6 (by omega))
          have T1 := U1.fr (F6.2 42 (by omega))
          have T2 := U2.fr (F6.2 43 (by omega))
          have FC5 := FC3.fr (fun q _ _ => F6.2 q (by omega))
          have H5 : (k + 1 < N 1 ^ l ∧ ¬ w = -1 ∧ RtAt h1 17 l (dgB (N 1) l (k + 1))) ∨ (k + 1 = N 1 ^ l ∧ w = -1 ∧ ∃ n f, RouteAt h1 17 n f) := H6
          refine rk_istore rfl (Nat.le_of_ble_eq_true rfl) rfl ?_
          refine rk_iinc rfl rfl (n_inc _) rfl ?_
          refine rk_goto rfl rfl ?_
          refine ih (k + 1) _ _ _ (by omega) (by omega) F5 T1 T2 FC5 H5
theorem l4 {X : ai_X} {h : ai_H} {N : Nat → Nat} {n : Nat} (hN : HN N) (C : CH h 3 N) (d41 : h[41]? = some cCh) (h0 : ¬ N 0 = 0) (hn4 : n ≤ 4) : ∀ (d : Nat) (l : Nat) (g : ai_H) (c6 c7 c8 : Option Value), n + 1 < l + d → (l ≤ n + 1) → (FBc h g) → (ShJ g 42 14) → (ShJ g 43 14) → (FoundC g (ouB N l)) → (∃ n f, RouteAt g 17 n f) → Rk X am_4 4 [some (.ref 41), some (.int (nI n)), some (.ref 17), some (.ref 15), some (.int (vlB (ouB N l).1)), some (.int (nI l)), c6, c7, c8] [] g (Qi (fun w h1 => w = vlB (ouB N (n + 1)).1 ∧ FBc h h1 ∧ FoundC h1 (ouB N (n + 1)) ∧ ∃ n f, RouteAt h1 17 n f)) := by
  intro d
  induction d with
  | zero => intro l g c6 c7 c8 hd hl F S1 S2 FC R; exfalso; omega
  | succ d ih =>
    intro l g c6 c7 c8 hd hl F S1 S2 FC R
    have C2 : CH g 3 N := C.fr (fun q _ _ => F.2 q (by omega) (by omega))
    have e3 := C2.1
    have e41 := (F.2 41 (by omega) (by omega)).trans d41
    have h1p : 0 < N 1 := by have := hN.1; omega
    have h6 := hN.t
    have hr : N 270 < N 0 := by have := hN.2.2.1; omega
    obtain ⟨n17, f17, R17⟩ := id R
    have e17 := R17.1
    refine rk_iload rfl rfl ?_
    refine rk_iload_n rfl rfl ?_
    refine rk_icmp_gt rfl rfl (fun hc6 => ?_) (fun hc6 => ?_)
    · replace hc6 := (nI_ltI (by omega) (by omega)).mp hc6
      refine rk_iload rfl rfl ?_
      have hl2 : l = n + 1 := by omega
      subst hl2
      exact rk_ireturn rfl rfl ⟨_, _, rfl, rfl, F, FC, R⟩
    · replace hc6 := mt (nI_ltI (by omega) (by omega)).mpr hc6
      refine rk_aload_n rfl rfl ?_
      refine rk_iload rfl rfl ?_
      refine rk_cv1v rfl rfl (by assumption) rfl rfl (Nat.le_of_ble_eq_true rfl) (Nat.le_of_ble_eq_true rfl) (s93 R17 (by omega)) (fun h1 hF => ?_)
      obtain ⟨F1, R1⟩ := hF
      refine rk_iconst (v := nI 0) rfl (by decide) ?_
      refine rk_istore rfl (Nat.le_of_ble_eq_true rfl) rfl ?_
      refine rk_iconst (v := nI 0) rfl (by decide) ?_
      refine rk_istore rfl (Nat.le_of_ble_eq_true rfl) rfl ?_
      refine l4i (h := h) hN C d41 h0 hn4 (l := l) (by omega) (fun g2 w6 k c9 F3 T1 T2 FC3 R3 => ?_) (N 1 ^ l + 1) 0 h1 _ _ (by omega) (Nat.zero_le _) (F.tr (FBc.r F1 (by omega))) (S1.fr (F1.2 42 (by omega))) (S2.fr (F1.2 43 (by omega))) (FC.fr (fun q _ _ => F1.2 q (by omega))) (Or.inl ⟨Nat.pow_pos h1p, by decide, ?_⟩)
      · refine rk_iinc rfl rfl (n_inc _) rfl ?_
        refine rk_goto rfl rfl ?_
        exact ih (l + 1) g2 _ _ _ (by omega) (by omega) F3 T1 T2 FC3 R3
      · obtain ⟨f1, r1, hf1⟩ := R1
        exact ⟨f1, r1, fun j hj => by rw [hf1 j hj, dgB_0]⟩
theorem s4 {X : ai_X} {h : ai_H} {N : Nat → Nat} {n : Nat} (hN : HN N) (C : CH h 3 N) (d41 : h[41]? = some cCh) (h0 : ¬ N 0 = 0) (hn4 : n ≤ 4) (S1 : ShJ h 42 14) (S2 : ShJ h 43 14) (R15 : ∃ n f, RouteAt h 15 n f) (R : ∃ n f, RouteAt h 17 n f) : Mt X am_4 [.ref 41, .int (nI n), .ref 17, .ref 15] h (Qi (fun w h1 => w = vlB (ouB N (n + 1)).1 ∧ FBc h h1 ∧ FoundC h1 (ouB N (n + 1)) ∧ ∃ n f, RouteAt h1 17 n f)) := by
  refine rk_iconst (v := (-1)) rfl (by decide) ?_
  refine rk_istore rfl (Nat.le_of_ble_eq_true rfl) rfl ?_
  refine rk_iconst (v := nI 0) rfl (by decide) ?_
  refine rk_istore rfl (Nat.le_of_ble_eq_true rfl) rfl ?_
  exact l4 hN C d41 h0 hn4 (n + 2) 0 h _ _ _ (by omega) (by omega) FBc.rf S1 S2 ⟨R15, fun z => absurd z (by show ¬ 0 < 0; omega)⟩ R
theorem c170_e {X : ai_X} {h : ai_H} {tp : Int32} {N : Nat → Nat} (d0 : h[0]? = some (cOne tp)) (hN : HN N) (C : CH h 3 N) {a : Int32} (h0 : N 0 = 0) : Mt X am_170 [.ref 0, .int a] h (Qe (-5) h) := by
  have e3 := C.1
  have hn := hN.n
  refine rk_aload_n rfl rfl ?_
  refine rk_get rfl (by assumption) rfl ?_
  refine rk_get rfl (by assumption) rfl ?_
  refine rk_if_ne rfl rfl (fun hc3 => ?_) (fun hc3 => ?_)
  · replace hc3 := mt (n0_eq (by omega)).mpr hc3
    omega
  · replace hc3 := Decidable.not_not.mp hc3
    replace hc3 := (n0_eq (by omega)).mp hc3
    refine rk_bipush (v := (-5)) rfl (by decide) ?_
    exact rk_ireturn rfl rfl Qe_mk
theorem c170_x {X : ai_X} {h : ai_H} {tp : Int32} {N : Nat → Nat} (d0 : h[0]? = some (cOne tp)) (hN : HN N) (C : CH h 3 N) {a : Int32} (h0 : ¬ N 0 = 0) (ha : ¬ (¬ a < 0 ∧ ¬ nI 4 < a)) : Mt X am_170 [.ref 0, .int a] h (Qe (-3) h) := by
  have e3 := C.1
  have hn := hN.n
  refine rk_aload_n rfl rfl ?_
  refine rk_get rfl (by assumption) rfl ?_
  refine rk_get rfl (by assumption) rfl ?_
  refine rk_if_ne rfl rfl (fun hc3 => ?_) (fun hc3 => ?_)
  · replace hc3 := mt (n0_eq (by omega)).mpr hc3
    refine rk_iload_n rfl rfl ?_
    refine rk_if_lt rfl rfl (fun hc7 => ?_) (fun hc7 => ?_)
    · refine rk_bipush (v := (-3)) rfl (by decide) ?_
      refine rk_goto rfl rfl ?_
      exact rk_ireturn rfl rfl Qe_mk
    · refine rk_iload_n rfl rfl ?_
      refine rk_iconst (v := nI 4) rfl (by decide) ?_
      refine rk_icmp_le rfl rfl (fun hc10 => ?_) (fun hc10 => ?_)
      · exact absurd ⟨hc7, i32_le.mp hc10⟩ ha
      · refine rk_bipush (v := (-3)) rfl (by decide) ?_
        refine rk_goto rfl rfl ?_
        exact rk_ireturn rfl rfl Qe_mk
  · replace hc3 := Decidable.not_not.mp hc3
    replace hc3 := (n0_eq (by omega)).mp hc3
    omega
theorem c170_v {X : ai_X} {h : ai_H} {tp : Int32} {N : Nat → Nat} (d0 : h[0]? = some (cOne tp)) (hN : HN N) (C : CH h 3 N) {n : Nat} (h0 : ¬ N 0 = 0) (hn4 : n ≤ 4) (d41 : h[41]? = some cCh) (S1 : ShJ h 42 14) (S2 : ShJ h 43 14) (R15 : ∃ n f, RouteAt h 15 n f) (R : ∃ n f, RouteAt h 17 n f) : Mt X am_170 [.ref 0, .int (nI n)] h (Qi (fun w h1 => w = vlB (ouB N (n + 1)).1 ∧ FBc h h1 ∧ FoundC h1 (ouB N (n + 1)) ∧ ∃ n f, RouteAt h1 17 n f)) := by
  have e3 := C.1
  have hn := hN.n
  refine rk_aload_n rfl rfl ?_
  refine rk_get rfl (by assumption) rfl ?_
  refine rk_get rfl (by assumption) rfl ?_
  refine rk_if_ne rfl rfl (fun hc3 => ?_) (fun hc3 => ?_)
  · replace hc3 := mt (n0_eq (by omega)).mpr hc3
    refine rk_iload_n rfl rfl ?_
    refine rk_if_lt rfl rfl (fun hc7 => ?_) (fun hc7 => ?_)
    · replace hc7 := (n0_lt (by omega)).mp hc7
      exact hc7.elim
    · replace hc7 := mt (n0_lt (by omega)).mpr hc7
      refine rk_iload_n rfl rfl ?_
      refine rk_iconst (v := nI 4) rfl (by decide) ?_
      refine rk_icmp_le rfl rfl (fun hc10 => ?_) (fun hc10 => ?_)
      · replace hc10 := (nI_leI (by omega) (by omega)).mp hc10
        refine rk_aload_n rfl rfl ?_
        refine rk_get rfl (by assumption) rfl ?_
        refine rk_iload_n rfl rfl ?_
        refine rk_aload_n rfl rfl ?_
        refine rk_get rfl (by assumption) rfl ?_
        refine rk_aload_n rfl rfl ?_
        refine rk_get rfl (by assumption) rfl ?_
        refine rk_cv3i rfl rfl (by assumption) rfl rfl (Nat.le_of_ble_eq_true rfl) (Nat.le_of_ble_eq_true rfl) (s4 hN C d41 h0 hn4 S1 S2 R15 R) (fun w h1 hF => ?_)
        exact rk_ireturn rfl rfl ⟨_, _, rfl, hF⟩
      · replace hc10 := mt (nI_leI (by omega) (by omega)).mpr hc10
        omega
  · replace hc3 := Decidable.not_not.mp hc3
    replace hc3 := (n0_eq (by omega)).mp hc3
    omega
