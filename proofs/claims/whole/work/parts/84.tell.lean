/-! TELLING: every row of a length, one after another; the class -/
theorem p7776 {T L : Nat} (hT : T ≤ 6) (hL : L ≤ 5) (h0 : 0 < T) : T ^ L ≤ 7776 := by
  have h1 : T ^ L ≤ 6 ^ L := Nat.pow_le_pow_left hT L
  have h2 : 6 ^ L ≤ 6 ^ 5 := Nat.pow_le_pow_right (by omega) hL
  omega
theorem l94t {X : ai_X} {h : ai_H} {T L q i : Nat} (hT : 0 < T) (hT6 : T ≤ 6) (hL : L ≤ 5) (hi : i < T ^ L) : ∀ (d : Nat) (m c : Nat) (g : ai_H) (i2 : Int32) (f : Nat → Int32), L < m + d → (m ≤ L) → (Fr q (q + 2) h g) → (RouteAt g q (nI L) f) → (∀ j, j < L → f j = nI (if j < L - m then dgB T L i j else 0)) → (i + 1 = T ^ m * c) → (i2 = nI (L - m) + Int32.ofInt (-1)) → Rk X am_94 5 [some (.ref q), some (.int (nI T)), some (.int i2)] [] g (Qi (fun w h1 => Fr q (q + 2) h h1 ∧ ((i + 1 < T ^ L ∧ (∃ ch, w = nI ch ∧ ch < L ∧ ∀ j, j < ch → dgB T L (i + 1) j = dgB T L i j) ∧ RtAt h1 q L (dgB T L (i + 1))) ∨ (i + 1 = T ^ L ∧ w = -1 ∧ ∃ n f, RouteAt h1 q n f)))) := by
  intro d
  induction d with
  | zero => intro m c g i2 f hd hm F R hf hc hi2; exfalso; omega
  | succ d ih =>
    intro m c g i2 f hd hm F R hf hc hi2
    obtain ⟨r0, r1⟩ := id R
    by_cases hmL : m = L
    · subst hi2
      rw [show L - m = 0 by omega]
      refine rk_iload_n rfl rfl ?_
      refine rk_if_lt rfl rfl (fun _ => ?_) (fun hc => absurd (by decide) hc)
      refine rk_iconst (v := -1) rfl (by decide) ?_
      rw [hmL] at hc
      exact rk_ireturn rfl rfl ⟨_, _, rfl, F, Or.inr ⟨adv4 hc hi, rfl, _, _, R⟩⟩
    rw [n_dec (by omega)] at hi2
    subst hi2
    have hdl := dgB_lt (L := L) (i := i) (j := L - m - 1) hT
    have F0 : Fr q (q + 2) h g := F
    refine rk_iload_n rfl rfl ?_
    refine rk_if_lt rfl rfl (fun hc6 => ?_) (fun hc6 => ?_)
    · replace hc6 := (n0_lt (by omega)).mp hc6
      exact hc6.elim
    · replace hc6 := mt (n0_lt (by omega)).mpr hc6
      refine rk_aload_n rfl rfl ?_
      refine rk_get rfl (by assumption) rfl ?_
      refine rk_iload_n rfl rfl ?_
      refine rk_iald rfl (by assumption) (rfl) (by omega) (by decide) ?_
      rw [hf _ (by omega), if_pos (by omega)]
      refine rk_iconst (v := nI 1) rfl (by decide) ?_
      refine rk_iadd rfl (nI_add _ _) ?_
      refine rk_iload_n rfl rfl ?_
      refine rk_icmp_ge rfl rfl (fun hc14 => ?_) (fun hc14 => ?_)
      · replace hc14 := (nI_leI (by omega) (by omega)).mp hc14
        refine rk_aload_n rfl rfl ?_
        refine rk_get rfl (by assumption) rfl ?_
        refine rk_iload_n rfl rfl ?_
        refine rk_iconst (v := nI 0) rfl (by decide) ?_
        refine rk_iast rfl r1 (rfl) (by omega) (by decide) ?_
        refine hp_gen r1 (fun h1 g1 hk1 hl1 => ?_)
        replace r0 := (hk1 _ (by omega)).trans r0
        replace F0 := F0.tr (Fr.mk1 hk1 hl1 (by omega) (by omega))
        replace r1 := g1
        refine rk_iinc rfl rfl rfl rfl ?_
        refine rk_goto rfl rfl ?_
        obtain ⟨c1, hc1⟩ := adv2 hT (show m < L by omega) hc (Nat.not_lt.mpr hc14)
        refine ih (m + 1) c1 _ _ _ (by omega) (by omega) F0 ⟨r0, r1⟩ (fun j hj => ?_) hc1 (by rw [show L - (m + 1) = L - m - 1 by omega])
        simp only [upd]
        by_cases y : j = L - m - 1
        · rw [if_pos y, if_neg (by omega)]
        · rw [if_neg y, hf j hj]
          by_cases y2 : j < L - m - 1
          · rw [if_pos (by omega), if_pos (by omega)]
          · rw [if_neg (by omega), if_neg (by omega)]
      · replace hc14 := mt (nI_leI (by omega) (by omega)).mpr hc14
        refine rk_aload_n rfl rfl ?_
        refine rk_get rfl (by assumption) rfl ?_
        refine rk_iload_n rfl rfl ?_
        refine rk_dup2 rfl ?_
        refine rk_iald rfl (by assumption) (rfl) (by omega) (by decide) ?_
        rw [hf _ (by omega), if_pos (by omega)]
        refine rk_iconst (v := nI 1) rfl (by decide) ?_
        refine rk_iadd rfl (nI_add _ _) ?_
        refine rk_iast rfl r1 (rfl) (by omega) (by decide) ?_
        refine hp_gen r1 (fun h1 g1 hk1 hl1 => ?_)
        replace r0 := (hk1 _ (by omega)).trans r0
        replace F0 := F0.tr (Fr.mk1 hk1 hl1 (by omega) (by omega))
        replace r1 := g1
        refine rk_iload_n rfl rfl ?_
        replace hc14 := Nat.lt_of_not_le hc14
        refine rk_ireturn rfl rfl ⟨_, _, rfl, F0, Or.inl ⟨adv3 hT (by omega) hc hc14 hi, ⟨L - m - 1, rfl, by omega, fun j hj => ?_⟩, _, ⟨r0, r1⟩, fun j hj => ?_⟩⟩
        · rw [adv1 hT (by omega) hc hc14 (by omega), if_pos hj]
        rw [adv1 hT (by omega) hc hc14 hj]
        simp only [upd]
        by_cases y : j = L - m - 1
        · rw [if_pos y, if_neg (by omega), if_pos y, y]
        · rw [if_neg y, hf j hj]
          by_cases y2 : j < L - m - 1
          · rw [if_pos (by omega), if_pos y2]
          · rw [if_neg (by omega), if_neg y2, if_neg y]
theorem s94t {X : ai_X} {h : ai_H} {T L q i : Nat} (hT : 0 < T) (hT6 : T ≤ 6) (hL : L ≤ 5) (hi : i < T ^ L) (R : RtAt h q L (dgB T L i)) : Mt X am_94 [.ref q, .int (nI T)] h (Qi (fun w h1 => Fr q (q + 2) h h1 ∧ ((i + 1 < T ^ L ∧ (∃ ch, w = nI ch ∧ ch < L ∧ ∀ j, j < ch → dgB T L (i + 1) j = dgB T L i j) ∧ RtAt h1 q L (dgB T L (i + 1))) ∨ (i + 1 = T ^ L ∧ w = -1 ∧ ∃ n f, RouteAt h1 q n f)))) := by
  obtain ⟨f, R, hf⟩ := R
  have r0 := R.1
  refine rk_aload_n rfl rfl ?_
  refine rk_get rfl (by assumption) rfl ?_
  refine rk_iconst (v := nI 1) rfl (by decide) ?_
  refine rk_isub rfl rfl ?_
  refine rk_istore_n rfl (Nat.le_of_ble_eq_true rfl) rfl ?_
  refine l94t hT hT6 hL hi (L + 1) 0 (i + 1) _ _ f (by omega) (by omega) Fr.rfl' R (fun j hj => ?_) (by rw [Nat.pow_zero, Nat.one_mul]) (by rw [Nat.sub_zero, Int32.sub_eq_add_neg]; rfl)
  rw [if_pos (by omega), hf j hj]
/-- the fewest in doubt so far, the row's length, the row -/
abbrev vT (N : Nat → Nat) (S : Nat) (now : Bool) (L i : Nat) : Nat := dbs N S (dgB (N 1) L i) L now
def stT (N : Nat → Nat) (S : Nat) (now : Bool) (L : Nat) (s : BS) (i : Nat) : BS := if vT N S now L i < s.1 then (vT N S now L i, L, dgB (N 1) L i) else s
def inT (N : Nat → Nat) (S : Nat) (now : Bool) (L : Nat) (s : BS) : Nat → BS
  | 0 => s
  | k + 1 => stT N S now L (inT N S now L s k) k
def ouT (N : Nat → Nat) (S : Nat) (now : Bool) : Nat → BS
  | 0 => (15, 0, fun _ => 0)
  | l + 1 => inT N S now l (ouT N S now l) (N 1 ^ l)
theorem vT_le {N : Nat → Nat} {S L i : Nat} {now : Bool} (hN : HN N) : vT N S now L i ≤ 14 := Nat.le_trans (dcn_le _ _) hN.n
def TOk (N : Nat → Nat) (s : BS) : Prop := s.1 ≤ 15 ∧ s.2.1 ≤ 5 ∧ ∀ j, j < s.2.1 → s.2.2 j < N 1
theorem TOk.st {N : Nat → Nat} {S : Nat} {now : Bool} {s : BS} {L i : Nat} (h1 : 0 < N 1) (hL : L ≤ 5) (H : TOk N s) : TOk N (stT N S now L s i) := by
  unfold stT
  split
  · exact ⟨by show vT N S now L i ≤ 15; have := H.1; omega, hL, fun j _ => dgB_lt h1⟩
  · exact H
theorem TOk.inn {N : Nat → Nat} {S : Nat} {now : Bool} {s : BS} {L : Nat} (h1 : 0 < N 1) (hL : L ≤ 5) (H : TOk N s) : ∀ k, TOk N (inT N S now L s k)
  | 0 => H
  | k + 1 => (TOk.inn h1 hL H k).st h1 hL
theorem TOk.ou {N : Nat → Nat} {S : Nat} {now : Bool} (h1 : 0 < N 1) : ∀ l, l ≤ 6 → TOk N (ouT N S now l)
  | 0, _ => ⟨Nat.le_refl _, Nat.zero_le _, fun j hj => absurd hj (Nat.not_lt_zero _)⟩
  | l + 1, hl => (TOk.ou h1 l (by omega)).inn h1 (by omega) _
theorem stT_0 {N : Nat → Nat} {S : Nat} {now : Bool} {s : BS} {L i : Nat} (h : s.1 = 0) : stT N S now L s i = s := if_neg (by omega)
theorem inT_0 {N : Nat → Nat} {S : Nat} {now : Bool} {s : BS} {L : Nat} (h : s.1 = 0) : ∀ k, inT N S now L s k = s
  | 0 => rfl
  | k + 1 => by rw [inT, inT_0 h k, stT_0 h]
theorem inT_e {N : Nat → Nat} {S : Nat} {now : Bool} {s : BS} {L k : Nat} (h : (inT N S now L s k).1 = 0) : ∀ d, inT N S now L s (k + d) = inT N S now L s k
  | 0 => rfl
  | d + 1 => by rw [← Nat.add_assoc, inT, inT_e h d, stT_0 h]
theorem ouT_e {N : Nat → Nat} {S : Nat} {now : Bool} {l : Nat} (h : (ouT N S now l).1 = 0) : ∀ d, ouT N S now (l + d) = ouT N S now l
  | 0 => rfl
  | d + 1 => by
    have e := ouT_e h d
    show inT N S now (l + d) (ouT N S now (l + d)) (N 1 ^ (l + d)) = _
    rw [e, inT_0 h]
theorem stT_lt {N : Nat → Nat} {S : Nat} {now : Bool} {s : BS} {L i : Nat} (hN : HN N) (h : s.1 < 15) : (stT N S now L s i).1 < 15 := by
  unfold stT
  split
  · have := vT_le (S := S) (L := L) (i := i) (now := now) hN
    show vT N S now L i < 15; omega
  · exact h
theorem inT_lt {N : Nat → Nat} {S : Nat} {now : Bool} {s : BS} {L : Nat} (hN : HN N) (h : s.1 < 15) : ∀ k, (inT N S now L s k).1 < 15
  | 0 => h
  | k + 1 => stT_lt hN (inT_lt hN h k)
theorem ouT_lt {N : Nat → Nat} {S : Nat} {now : Bool} (hN : HN N) : ∀ l, (ouT N S now (l + 1)).1 < 15
  | 0 => by
    show (inT N S now 0 (15, 0, fun _ => 0) (N 1 ^ 0)).1 < 15
    rw [Nat.pow_zero]
    show (stT N S now 0 (15, 0, fun _ => 0) 0).1 < 15
    unfold stT
    have := vT_le (S := S) (L := 0) (i := 0) (now := now) hN
    rw [if_pos (show vT N S now 0 0 < 15 by omega)]
    show vT N S now 0 0 < 15
    omega
  | l + 1 => inT_lt hN (ouT_lt hN l) _
/-- levels that are right for a row -/
def SLv (h : ai_H) (N : Nat → Nat) (S : Nat) (x : Nat → Nat) (m : Nat) : Prop := ∃ f37 f38 : Nat → Int32, h[37]? = some (cI 84 f37) ∧ h[38]? = some (cI 84 f38) ∧ ∀ j, j ≤ m → ∀ r, r < N 0 → f37 (j * 14 + r) = nI (bh N x r j) ∧ f38 (j * 14 + r) = nI (ut N S x j r)
theorem SLv.cg {h : ai_H} {N x y : Nat → Nat} {S m m1 : Nat} (H : SLv h N S x m) (hm : m1 ≤ m) (e : ∀ i, i < m1 → x i = y i) : SLv h N S y m1 := by
  obtain ⟨f37, f38, c37, c38, hf⟩ := H
  refine ⟨f37, f38, c37, c38, fun j hj r hr => ?_⟩
  have := hf j (by omega) r hr
  rwa [bh_cg j (fun i hi => e i (by omega)), ut_cg (fun i hi => e i (by omega))] at this
theorem SLv.fr {h h1 : ai_H} {N x : Nat → Nat} {S m : Nat} (a : h1[37]? = h[37]?) (b : h1[38]? = h[38]?) (H : SLv h N S x m) : SLv h1 N S x m := by
  obtain ⟨f37, f38, c37, c38, hf⟩ := H
  exact ⟨f37, f38, a.trans c37, b.trans c38, hf⟩
theorem SLv.one {h : ai_H} {N x : Nat → Nat} {S m : Nat} (H : SLv h N S x m) : SSt h N S x m m := by
  obtain ⟨f37, f38, c37, c38, hf⟩ := H
  exact ⟨f37, f38, c37, c38, fun r hr => hf m (Nat.le_refl _) r hr⟩
theorem s124L {X : ai_X} {h : ai_H} {N x : Nat → Nat} {S k : Nat} (hN : HN N) (C : CH h 3 N) (d36 : h[36]? = some cSg) (hk : k + 1 < 6) (hx : ∀ i, i < k + 1 → x i < N 1) (H : SLv h N S x k) (S39 : ShI h 39 10) : Mt X am_124 [.ref 36, .int (nI k), .int (nI (k + 1)), .int (nI (x k))] h (Qv (fun h1 => Fr 37 40 h h1 ∧ SLv h1 N S x (k + 1))) := by
  have hn := hN.n
  obtain ⟨f37, f38, c37, c38, hf⟩ := H
  refine (s124 (sp := fun r => bh N x r k) (u := ut N S x k) hN C d36 hk (Or.inr rfl) (hx k (by omega)) (fun r hr => (hf k (Nat.le_refl _) r hr).1) (fun r hr => (hf k (Nat.le_refl _) r hr).2) (fun r hr => bh_lt hN hr k (fun j hj => hx j (by omega))) c37 c38 S39).mono ?_
  rintro o ⟨h1, rfl, F, g37, g38, y1, y2, y3, y4⟩
  refine ⟨_, rfl, F, g37, g38, y1, y2, fun j hj r hr => ?_⟩
  by_cases q : j = k + 1
  · subst q
    refine ⟨(y3 r hr).1, ?_⟩
    rw [(y3 r hr).2]
    exact congrArg nI (ut_s (N := N) (x := x) (S := S) (k := k) (r := r))
  · obtain ⟨q1, q2⟩ := y4 (j * 14 + r) (by omega)
    rw [q1, q2]
    exact hf j (by omega) r hr
def FBt (h g : ai_H) : Prop := g.length = h.length ∧ ∀ q : Nat, ¬ (15 ≤ q ∧ q < 19) → ¬ (37 ≤ q ∧ q < 41) → g[q]? = h[q]?
theorem FBt.tr {h g k : ai_H} (x : FBt h g) (y : FBt g k) : FBt h k := ⟨y.1.trans x.1, fun q a b => (y.2 q a b).trans (x.2 q a b)⟩
theorem FBt.rf {h : ai_H} : FBt h h := ⟨rfl, fun _ _ _ => rfl⟩
theorem FBt.r {h g : ai_H} {a b : Nat} (F : Fr a b h g) (ha : (15 ≤ a ∧ b ≤ 19) ∨ (37 ≤ a ∧ b ≤ 41)) : FBt h g := ⟨F.1, fun q x y => F.2 q (by omega)⟩
def FoundT (g : ai_H) (s : BS) : Prop := (∃ n f, RouteAt g 15 n f) ∧ (s.1 < 15 → RtAt g 15 s.2.1 s.2.2)
theorem FoundT.fr {g k : ai_H} {s : BS} (e : ∀ q, 15 ≤ q → q < 17 → k[q]? = g[q]?) (H : FoundT g s) : FoundT k s := by
  obtain ⟨⟨n, f, r⟩, b⟩ := H
  exact ⟨⟨n, f, r.fr e⟩, fun z => (b z).fr e⟩
theorem l127r {X : ai_X} {h : ai_H} {N : Nat → Nat} {S : Nat} {now : Bool} (hN : HN N) (C : CH h 3 N) (d36 : h[36]? = some cSg) (h0 : ¬ N 0 = 0) (hS : S < 2 ^ N 0) {l k : Nat} {y5 w7 y8 : Int32} (hl : l ≤ 5) (R : RtAt h 17 l (dgB (N 1) l k)) {P : ai_O → Prop} (z : ∀ g, Fr 37 40 h g → SLv g N S (dgB (N 1) l k) l → ShI g 39 10 → Rk X am_127 43 [some (.ref 36), some (.int (nI S)), some (.int (bI (now = true))), some (.ref 17), some (.ref 15), some (.int y5), some (.int (nI l)), some (.int w7), some (.int y8), some (.int (nI l))] [] g P) : ∀ (d : Nat) (i : Nat) (g : ai_H), l < i + d → (i ≤ l) → (Fr 37 40 h g) → (SLv g N S (dgB (N 1) l k) i) → (ShI g 39 10) → Rk X am_127 29 [some (.ref 36), some (.int (nI S)), some (.int (bI (now = true))), some (.ref 17), some (.ref 15), some (.int y5), some (.int (nI l)), some (.int w7), some (.int y8), some (.int (nI i))] [] g (P) := by
  intro d
  induction d with
  | zero => intro i g hd hi Fg H S39; exfalso; omega
  | succ d ih =>
    intro i g hd hi Fg H S39
    have F : FBt h g := FBt.r Fg (by omega)
    have C2 : CH g 3 N := C.fr (fun q _ _ => F.2 q (by omega) (by omega))
    have e3 := C2.1
    have e36 := (F.2 36 (by omega) (by omega)).trans d36
    have h1p : 0 < N 1 := by have := hN.1; omega
    have h6 := hN.t
    have hp14 := hN.p14
    have R2 : RtAt g 17 l (dgB (N 1) l k) := R.fr' (fun q _ _ => Fg.2 q (by omega))
    have e17 := R2.choose_spec.1.1
    refine rk_iload rfl rfl ?_
    refine rk_iload rfl rfl ?_
    refine rk_icmp_ge rfl rfl (fun hc31 => ?_) (fun hc31 => ?_)
    · replace hc31 := (nI_leI (by omega) (by omega)).mp hc31
      have hi2 : i = l := by omega
      subst hi2
      exact z g Fg H S39
    · replace hc31 := mt (nI_leI (by omega) (by omega)).mpr hc31
      refine rk_aload_n rfl rfl ?_
      refine rk_iload rfl rfl ?_
      refine rk_iload rfl rfl ?_
      refine rk_iconst (v := nI 1) rfl (by decide) ?_
      refine rk_iadd rfl (nI_add _ _) ?_
      refine rk_aload_n rfl rfl ?_
      refine rk_iload rfl rfl ?_
      refine rk_cv1e rfl rfl (by assumption) rfl rfl (Nat.le_of_ble_eq_true rfl) (Nat.le_of_ble_eq_true rfl) (s90N R2 (by omega) (by omega)) ?_
      refine rk_cv3v rfl rfl (by assumption) rfl rfl (Nat.le_of_ble_eq_true rfl) (Nat.le_of_ble_eq_true rfl) ((s124L hN C2 e36 (by omega) (fun i _ => dgB_lt h1p) H S39).skv) (fun h1 hF => ?_)
      obtain ⟨⟨F1, H1⟩, k1⟩ := hF
      refine rk_iinc rfl rfl (n_inc _) rfl ?_
      refine rk_goto rfl rfl ?_
      exact ih (i + 1) _ (by omega) (by omega) (Fg.tr F1) H1 (S39.sk k1)
theorem l127i {X : ai_X} {h : ai_H} {N : Nat → Nat} {S : Nat} {now : Bool} (hN : HN N) (C : CH h 3 N) (d36 : h[36]? = some cSg) (h0 : ¬ N 0 = 0) (hS : S < 2 ^ N 0) {l : Nat} (hl : l ≤ 5) {P : ai_O → Prop} (z : ∀ g w7 k c9, FBt h g → ShI g 39 10 → ShI g 40 14 → FoundT g (ouT N S now (l + 1)) → (∃ n f, RouteAt g 17 n f) → SLv g N S (fun _ => 0) 0 → Rk X am_127 65 [some (.ref 36), some (.int (nI S)), some (.int (bI (now = true))), some (.ref 17), some (.ref 15), some (.int (nI (ouT N S now (l + 1)).1)), some (.int (nI l)), some (.int w7), some (.int (nI k)), c9] [] g P) : ∀ (d : Nat) (k : Nat) (g : ai_H) (w7 : Int32) (c9 : Option Value), N 1 ^ l < k + d → (k ≤ N 1 ^ l) → (FBt h g) → (ShI g 39 10) → (ShI g 40 14) → (FoundT g (inT N S now l (ouT N S now l) k)) → (SLv g N S (fun _ => 0) 0) → ((k < N 1 ^ l ∧ (∃ ch, w7 = nI ch ∧ ch ≤ l ∧ SLv g N S (dgB (N 1) l k) ch) ∧ RtAt g 17 l (dgB (N 1) l k)) ∨ (k = N 1 ^ l ∧ w7 = -1 ∧ ∃ n f, RouteAt g 17 n f)) → Rk X am_127 19 [some (.ref 36), some (.int (nI S)), some (.int (bI (now = true))), some (.ref 17), some (.ref 15), some (.int (nI (inT N S now l (ouT N S now l) k).1)), some (.int (nI l)), some (.int w7), some (.int (nI k)), c9] [] g (P) := by
  intro d
  induction d with
  | zero => intro k g w7 c9 hd hk F S39 S40 FC H0 H; exfalso; omega
  | succ d ih =>
    intro k g w7 c9 hd hk F S39 S40 FC H0 H
    have C2 : CH g 3 N := C.fr (fun q _ _ => F.2 q (by omega) (by omega))
    have e3 := C2.1
    have e36 := (F.2 36 (by omega) (by omega)).trans d36
    have h1p : 0 < N 1 := by have := hN.1; omega
    have h6 := hN.t
    have hp14 := hN.p14
    have hp := p7776 h6 (show l ≤ 5 by omega) h1p
    have hin := TOk.inn (S := S) (now := now) h1p (show l ≤ 5 by omega) (TOk.ou (S := S) (now := now) h1p l (by omega)) k
    have hin1 := hin.1
    have hst : inT N S now l (ouT N S now l) (k + 1) = stT N S now l (inT N S now l (ouT N S now l) k) k := rfl
    have hvb := vT_le (S := S) (L := l) (i := k) (now := now) hN
    have hvd : dbs N S (dgB (N 1) l k) l now = vT N S now l k := rfl
    refine rk_iload rfl rfl ?_
    refine rk_sipush (v := nI 10000) rfl (by decide) ?_
    refine rk_icmp_ge rfl rfl (fun hc21 => ?_) (fun hc21 => ?_)
    · replace hc21 := (nI_leI (by omega) (by omega)).mp hc21
      omega
    · replace hc21 := mt (nI_leI (by omega) (by omega)).mpr hc21
      refine rk_iload rfl rfl ?_
      refine rk_iconst (v := (-1)) rfl (by decide) ?_
      refine rk_icmp_eq rfl rfl (fun hc24 => ?_) (fun hc24 => ?_)
      · have hke : k = N 1 ^ l := by
          rcases H with ⟨-, ⟨ch, y, ych, -⟩, -⟩ | ⟨y, -⟩
          · rw [y] at hc24; exact absurd hc24 (nm_eq (by omega))
          · exact y
        have hR17 : ∃ n f, RouteAt g 17 n f := by
          rcases H with ⟨-, -, y⟩ | ⟨-, -, y⟩
          · obtain ⟨f, y1, -⟩ := y; exact ⟨_, f, y1⟩
          · exact y
        have hout : inT N S now l (ouT N S now l) k = ouT N S now (l + 1) := by rw [hke]; rfl
        rw [hout] at FC
        rw [hout]
        exact z g _ _ _ F S39 S40 FC hR17 H0
      · refine rk_iload rfl rfl ?_
        refine rk_if_le rfl rfl (fun hc26 => ?_) (fun hc26 => ?_)
        · replace hc26 := (n0_le (by omega)).mp hc26
          have hR17 : ∃ n f, RouteAt g 17 n f := by
            rcases H with ⟨-, -, y⟩ | ⟨-, -, y⟩
            · obtain ⟨f, y1, -⟩ := y; exact ⟨_, f, y1⟩
            · exact y
          have hout : inT N S now l (ouT N S now l) k = ouT N S now (l + 1) := by
            have := inT_e (N := N) (S := S) (now := now) (s := ouT N S now l) (L := l) (k := k) (by omega) (N 1 ^ l - k)
            rw [show k + (N 1 ^ l - k) = N 1 ^ l by omega] at this
            exact this.symm
          rw [hout] at FC
          rw [hout]
          exact z g _ _ _ F S39 S40 FC hR17 H0
        · replace hc26 := mt (n0_le (by omega)).mpr hc26
          obtain ⟨hkl, ch, rfl, hch, HL, R⟩ : k < N 1 ^ l ∧ ∃ ch, w7 = nI ch ∧ ch ≤ l ∧ SLv g N S (dgB (N 1) l k) ch ∧ RtAt g 17 l (dgB (N 1) l k) := by
            rcases H with ⟨y1, ⟨ch, y2, y3, y4⟩, y5⟩ | ⟨-, y, -⟩
            · exact ⟨y1, ch, y2, y3, y4, y5⟩
            · exact absurd y hc24
          refine rk_iload rfl rfl ?_
          refine rk_istore rfl (Nat.le_of_ble_eq_true rfl) rfl ?_
          refine l127r (h := g) hN C2 e36 h0 hS (by omega) R (fun g2 Fg H2 T39 => ?_) (l + 1) ch g (by omega) hch Fr.rfl' HL S39
          have F2 : FBt h g2 := F.tr (FBt.r Fg (by omega))
          have C3 : CH g2 3 N := C2.fr2 Fg (by omega)
          replace e3 := C3.1
          replace e36 := (Fg.2 36 (by omega)).trans e36
          have T40 := S40.fr (Fg.2 40 (by omega))
          have R2 : RtAt g2 17 l (dgB (N 1) l k) := R.fr' (fun q _ _ => Fg.2 q (by omega))
          have FC2 : FoundT g2 (inT N S now l (ouT N S now l) k) := FC.fr (fun q _ _ => Fg.2 q (by omega))
          clear FC HL H0 H
          refine rk_aload_n rfl rfl ?_
          refine rk_iload rfl rfl ?_
          refine rk_iload_n rfl rfl ?_
          refine rk_iload_n rfl rfl ?_
          refine rk_cv3i rfl rfl (by assumption) rfl rfl (Nat.le_of_ble_eq_true rfl) (Nat.le_of_ble_eq_true rfl) ((s126S (now := now) (x := dgB (N 1) l k) hN C3 e36 (by omega) (fun i _ => dgB_lt h1p) H2.one hS T40).ski) (fun w h1 hF => ?_)
          obtain ⟨⟨rfl, F3⟩, kk1⟩ := hF
          have F4 : FBt h h1 := F2.tr (FBt.r F3 (by omega))
          have C4 : CH h1 3 N := C3.fr2 F3 (by omega)
          have R4 : RtAt h1 17 l (dgB (N 1) l k) := R2.fr' (fun q _ _ => F3.2 q (by omega))
          have FC4 : FoundT h1 (inT N S now l (ouT N S now l) k) := FC2.fr (fun q _ _ => F3.2 q (by omega))
          have H4 : SLv h1 N S (dgB (N 1) l k) l := H2.fr (F3.2 37 (by omega)) (F3.2 38 (by omega))
          have U39 := T39.fr (F3.2 39 (by omega))
          have U40 : ShI h1 40 14 := T40.sk kk1
          replace e3 := C4.1
          replace e36 := (F3.2 36 (by omega)).trans e36
          have e17 := R4.choose_spec.1.1
          refine rk_istore rfl (Nat.le_of_ble_eq_true rfl) rfl ?_
          refine rk_iload rfl rfl ?_
          refine rk_iload rfl rfl ?_
          refine rk_icmp_ge rfl rfl (fun hc51 => ?_) (fun hc51 => ?_)
          · replace hc51 := (nI_leI (by omega) (by omega)).mp hc51
            have hs2 : inT N S now l (ouT N S now l) (k + 1) = inT N S now l (ouT N S now l) k := hst.trans (if_neg (by show ¬ vT N S now l k < _; omega))
            have FC5 := FC4
            rw [← hs2] at FC5
            rw [← hs2]
            have F7 := F4
            have R5 := R4
            have H5 := H4
            have C5 := C4
            have V39 := U39
            have V40 := U40
            refine rk_aload_n rfl rfl ?_
            refine rk_aload_n rfl rfl ?_
            refine rk_get rfl (by assumption) rfl ?_
            refine rk_get rfl (by assumption) rfl ?_
            refine rk_cv1i rfl rfl (by assumption) rfl rfl (Nat.le_of_ble_eq_true rfl) (Nat.le_of_ble_eq_true rfl) (s94t h1p h6 (show l ≤ 5 by omega) hkl R5) (fun w h1 hF => ?_)
            obtain ⟨F8, H8⟩ := hF
            have F6 := F7.tr (FBt.r F8 (by omega))
            have T39 := V39.fr (F8.2 39 (by omega))
            have T40 := V40.fr (F8.2 40 (by omega))
            have FC6 := FC5.fr (fun q _ _ => F8.2 q (by omega))
            have H9 : SLv h1 N S (dgB (N 1) l k) l := H5.fr (F8.2 37 (by omega)) (F8.2 38 (by omega))
            have H06 : SLv h1 N S (fun _ => 0) 0 := H9.cg (Nat.zero_le _) (fun i hi => absurd hi (by omega))
            have H6 : (k + 1 < N 1 ^ l ∧ (∃ ch, w = nI ch ∧ ch ≤ l ∧ SLv h1 N S (dgB (N 1) l (k + 1)) ch) ∧ RtAt h1 17 l (dgB (N 1) l (k + 1))) ∨ (k + 1 = N 1 ^ l ∧ w = -1 ∧ ∃ n f, RouteAt h1 17 n f) := by
              rcases H8 with ⟨q1, ⟨c2, q2, q3, q4⟩, q5⟩ | q
              · exact Or.inl ⟨q1, ⟨c2, q2, by omega, H9.cg (by omega) (fun i hi => (q4 i hi).symm)⟩, q5⟩
              · exact Or.inr q
            refine rk_istore rfl (Nat.le_of_ble_eq_true rfl) rfl ?_
            refine rk_iinc rfl rfl (n_inc _) rfl ?_
            refine rk_goto rfl rfl ?_
            exact ih (k + 1) _ _ _ (by omega) (by omega) F6 T39 T40 FC6 H06 H6
          · replace hc51 := mt (nI_leI (by omega) (by omega)).mpr hc51
            have hs2 : inT N S now l (ouT N S now l) (k + 1) = (vT N S now l k, l, dgB (N 1) l k) := hst.trans (if_pos (by show vT N S now l k < _; omega))
            obtain ⟨f17, r17, hf17⟩ := id R4
            obtain ⟨⟨n15, f15, r15⟩, -⟩ := FC4
            have q15 := r15.1
            refine rk_iload rfl rfl ?_
            refine rk_istore rfl (Nat.le_of_ble_eq_true rfl) rfl ?_
            refine rk_aload rfl rfl ?_
            refine rk_aload_n rfl rfl ?_
            refine rk_cv1v rfl rfl (by assumption) rfl rfl (Nat.le_of_ble_eq_true rfl) (Nat.le_of_ble_eq_true rfl) (s92 r15 (by omega) r17 (by omega)) (fun h1 hF => ?_)
            obtain ⟨F5, f5, r5, hf5⟩ := hF
            have F7 : FBt h h1 := F4.tr (FBt.r F5 (by omega))
            have FC5 : FoundT h1 (inT N S now l (ouT N S now l) (k + 1)) := ⟨⟨_, _, r5⟩, fun _ => by rw [hs2]; exact ⟨_, r5, fun j hj => (hf5 j hj).trans (hf17 j hj)⟩⟩
            have R5 : RtAt h1 17 l (dgB (N 1) l k) := R4.fr' (fun q _ _ => F5.2 q (by omega))
            have H5 : SLv h1 N S (dgB (N 1) l k) l := H4.fr (F5.2 37 (by omega)) (F5.2 38 (by omega))
            have V39 := U39.fr (F5.2 39 (by omega))
            have V40 := U40.fr (F5.2 40 (by omega))
            have C5 : CH h1 3 N := C4.fr2 F5 (by omega)
            replace e3 := C5.1
            replace e36 := (F5.2 36 (by omega)).trans e36
            replace e17 := R5.choose_spec.1.1
            rw [show nI (vT N S now l k) = nI (inT N S now l (ouT N S now l) (k + 1)).1 by rw [hs2]]
            refine rk_aload_n rfl rfl ?_
            refine rk_aload_n rfl rfl ?_
            refine rk_get rfl (by assumption) rfl ?_
            refine rk_get rfl (by assumption) rfl ?_
            refine rk_cv1i rfl rfl (by assumption) rfl rfl (Nat.le_of_ble_eq_true rfl) (Nat.le_of_ble_eq_true rfl) (s94t h1p h6 (show l ≤ 5 by omega) hkl R5) (fun w h1 hF => ?_)
            obtain ⟨F8, H8⟩ := hF
            have F6 := F7.tr (FBt.r F8 (by omega))
            have T39 := V39.fr (F8.2 39 (by omega))
            have T40 := V40.fr (F8.2 40 (by omega))
            have FC6 := FC5.fr (fun q _ _ => F8.2 q (by omega))
            have H9 : SLv h1 N S (dgB (N 1) l k) l := H5.fr (F8.2 37 (by omega)) (F8.2 38 (by omega))
            have H06 : SLv h1 N S (fun _ => 0) 0 := H9.cg (Nat.zero_le _) (fun i hi => absurd hi (by omega))
            have H6 : (k + 1 < N 1 ^ l ∧ (∃ ch, w = nI ch ∧ ch ≤ l ∧ SLv h1 N S (dgB (N 1) l (k + 1)) ch) ∧ RtAt h1 17 l (dgB (N 1) l (k + 1))) ∨ (k + 1 = N 1 ^ l ∧ w = -1 ∧ ∃ n f, RouteAt h1 17 n f) := by
              rcases H8 with ⟨q1, ⟨c2, q2, q3, q4⟩, q5⟩ | q
              · exact Or.inl ⟨q1, ⟨c2, q2, by omega, H9.cg (by omega) (fun i hi => (q4 i hi).symm)⟩, q5⟩
              · exact Or.inr q
            refine rk_istore rfl (Nat.le_of_ble_eq_true rfl) rfl ?_
            refine rk_iinc rfl rfl (n_inc _) rfl ?_
            refine rk_goto rfl rfl ?_
            exact ih (k + 1) _ _ _ (by omega) (by omega) F6 T39 T40 FC6 H06 H6
theorem l127 {X : ai_X} {h : ai_H} {N : Nat → Nat} {S : Nat} {now : Bool} (hN : HN N) (C : CH h 3 N) (d36 : h[36]? = some cSg) (h0 : ¬ N 0 = 0) (hS : S < 2 ^ N 0) : ∀ (d : Nat) (l : Nat) (g : ai_H) (c7 c8 c9 : Option Value), 6 < l + d → (l ≤ 6) → (FBt h g) → (ShI g 39 10) → (ShI g 40 14) → (FoundT g (ouT N S now l)) → (∃ n f, RouteAt g 17 n f) → (SLv g N S (fun _ => 0) 0) → Rk X am_127 7 [some (.ref 36), some (.int (nI S)), some (.int (bI (now = true))), some (.ref 17), some (.ref 15), some (.int (nI (ouT N S now l).1)), some (.int (nI l)), c7, c8, c9] [] g (Qi (fun w h1 => w = nI (ouT N S now 6).1 ∧ FBt h h1 ∧ FoundT h1 (ouT N S now 6) ∧ ∃ n f, RouteAt h1 17 n f)) := by
  intro d
  induction d with
  | zero => intro l g c7 c8 c9 hd hl F S39 S40 FC R H0; exfalso; omega
  | succ d ih =>
    intro l g c7 c8 c9 hd hl F S39 S40 FC R H0
    have C2 : CH g 3 N := C.fr (fun q _ _ => F.2 q (by omega) (by omega))
    have e3 := C2.1
    have e36 := (F.2 36 (by omega) (by omega)).trans d36
    have h1p : 0 < N 1 := by have := hN.1; omega
    have h6 := hN.t
    have hp14 := hN.p14
    obtain ⟨n17, f17, R17⟩ := id R
    have e17 := R17.1
    have hou := (TOk.ou (S := S) (now := now) h1p l hl).1
    refine rk_iload rfl rfl ?_
    refine rk_iconst (v := nI 5) rfl (by decide) ?_
    refine rk_icmp_gt rfl rfl (fun hc9 => ?_) (fun hc9 => ?_)
    · replace hc9 := (nI_ltI (by omega) (by omega)).mp hc9
      have hout : ouT N S now l = ouT N S now 6 := by rw [show l = 6 by omega]
      refine rk_iload rfl rfl ?_
      rw [hout] at FC ⊢
      exact rk_ireturn rfl rfl ⟨_, _, rfl, rfl, F, FC, R⟩
    · replace hc9 := mt (nI_ltI (by omega) (by omega)).mpr hc9
      refine rk_iload rfl rfl ?_
      refine rk_if_le rfl rfl (fun hc11 => ?_) (fun hc11 => ?_)
      · replace hc11 := (n0_le (by omega)).mp hc11
        have hout : ouT N S now l = ouT N S now 6 := by
          have := ouT_e (N := N) (S := S) (now := now) (l := l) (by omega) (6 - l)
          rw [show l + (6 - l) = 6 by omega] at this
          exact this.symm
        refine rk_iload rfl rfl ?_
        rw [hout] at FC ⊢
        exact rk_ireturn rfl rfl ⟨_, _, rfl, rfl, F, FC, R⟩
      · replace hc11 := mt (n0_le (by omega)).mpr hc11
        refine rk_aload_n rfl rfl ?_
        refine rk_iload rfl rfl ?_
        refine rk_cv1v rfl rfl (by assumption) rfl rfl (Nat.le_of_ble_eq_true rfl) (Nat.le_of_ble_eq_true rfl) (s93 R17 (by omega)) (fun h1 hF => ?_)
        obtain ⟨F1, R1⟩ := hF
        refine rk_iconst (v := nI 0) rfl (by decide) ?_
        refine rk_istore rfl (Nat.le_of_ble_eq_true rfl) rfl ?_
        refine rk_iconst (v := nI 0) rfl (by decide) ?_
        refine rk_istore rfl (Nat.le_of_ble_eq_true rfl) rfl ?_
        refine l127i (h := h) hN C d36 h0 hS (l := l) (by omega) (fun g2 w7 k c9 F3 T39 T40 FC3 R3 H3 => ?_) (N 1 ^ l + 1) 0 h1 _ _ (by omega) (Nat.zero_le _) (F.tr (FBt.r F1 (by omega))) (S39.fr (F1.2 39 (by omega))) (S40.fr (F1.2 40 (by omega))) (FC.fr (fun q _ _ => F1.2 q (by omega))) (H0.fr (F1.2 37 (by omega)) (F1.2 38 (by omega))) (Or.inl ⟨Nat.pow_pos h1p, ⟨0, rfl, Nat.zero_le _, (H0.fr (F1.2 37 (by omega)) (F1.2 38 (by omega))).cg (Nat.zero_le _) (fun i hi => absurd hi (by omega))⟩, ?_⟩)
        · refine rk_iinc rfl rfl (n_inc _) rfl ?_
          refine rk_goto rfl rfl ?_
          exact ih (l + 1) g2 _ _ _ (by omega) (by omega) F3 T39 T40 FC3 R3 H3
        · obtain ⟨f1, r1, hf1⟩ := R1
          exact ⟨f1, r1, fun j hj => by rw [hf1 j hj, dgB_0]⟩
theorem s127 {X : ai_X} {h : ai_H} {N : Nat → Nat} {S : Nat} {now : Bool} (hN : HN N) (C : CH h 3 N) (d36 : h[36]? = some cSg) (h0 : ¬ N 0 = 0) (hS : S < 2 ^ N 0) (S37 : ShI h 37 84) (S38 : ShI h 38 84) (S39 : ShI h 39 10) (S40 : ShI h 40 14) (R15 : ∃ n f, RouteAt h 15 n f) (R : ∃ n f, RouteAt h 17 n f) : Mt X am_127 [.ref 36, .int (nI S), .int (bI (now = true)), .ref 17, .ref 15] h (Qi (fun w h1 => w = nI (ouT N S now 6).1 ∧ FBt h h1 ∧ FoundT h1 (ouT N S now 6) ∧ ∃ n f, RouteAt h1 17 n f)) := by
  refine rk_aload_n rfl rfl ?_
  refine rk_iload_n rfl rfl ?_
  refine rk_cv1v rfl rfl (by assumption) rfl rfl (Nat.le_of_ble_eq_true rfl) (Nat.le_of_ble_eq_true rfl) ((s123 (x := fun _ => 0) hN C d36 hS S37 S38 S39).skv) (fun h1 hF => ?_)
  obtain ⟨⟨F1, H1⟩, k1⟩ := hF
  have H0 : SLv h1 N S (fun _ => 0) 0 := by
    obtain ⟨f37, f38, c37, c38, hf⟩ := H1
    exact ⟨f37, f38, c37, c38, fun j hj r hr => by have : j = 0 := by omega
                                                   subst this; exact hf r hr⟩
  obtain ⟨n5, f5, r5⟩ := R15
  obtain ⟨n7, f7, r7⟩ := R
  refine rk_bipush (v := nI 15) rfl (by decide) ?_
  refine rk_istore rfl (Nat.le_of_ble_eq_true rfl) rfl ?_
  refine rk_iconst (v := nI 0) rfl (by decide) ?_
  refine rk_istore rfl (Nat.le_of_ble_eq_true rfl) rfl ?_
  exact l127 (h := h) hN C d36 h0 hS 7 0 _ _ _ _ (by omega) (by omega) (FBt.r F1 (by omega)) (S39.sk k1) (S40.sk k1) ⟨⟨n5, f5, r5.fr (fun q _ _ => F1.2 q (by omega))⟩, fun y => absurd y (Nat.lt_irrefl 15)⟩ ⟨n7, f7, r7.fr (fun q _ _ => F1.2 q (by omega))⟩ H0
theorem c156_v {X : ai_X} {h : ai_H} {tp : Int32} {N : Nat → Nat} (d0 : h[0]? = some (cOne tp)) (hN : HN N) (C : CH h 3 N) {S : Nat} {now : Bool} (d36 : h[36]? = some cSg) (hS : 0 < S ∧ S < 2 ^ N 0) (S37 : ShI h 37 84) (S38 : ShI h 38 84) (S39 : ShI h 39 10) (S40 : ShI h 40 14) (R15 : ∃ n f, RouteAt h 15 n f) (R : ∃ n f, RouteAt h 17 n f) : Mt X am_156 [.ref 0, .int (nI S), .int (bI (now = true))] h (Qi (fun w h1 => w = nI (ouT N S now 6).1 ∧ FBt h h1 ∧ FoundT h1 (ouT N S now 6) ∧ ∃ n f, RouteAt h1 17 n f)) := by
  have e3 := C.1
  have h0 : ¬ N 0 = 0 := fun y => by
    have q := hS.2
    rw [y, Nat.pow_zero] at q
    omega
  refine rk_aload_n rfl rfl ?_
  refine rk_get rfl (by assumption) rfl ?_
  refine rk_iload_n rfl rfl ?_
  refine rk_cv1e rfl rfl (by assumption) rfl rfl (Nat.le_of_ble_eq_true rfl) (Nat.le_of_ble_eq_true rfl) (s26N hN C _) ?_
  refine rk_if_eq rfl rfl (fun hc4 => ?_) (fun hc4 => ?_)
  · replace hc4 := (bI_0).mp hc4
    exact absurd (isSet_mk hN hS.1 hS.2) hc4
  · replace hc4 := Decidable.not_not.mp (mt bI_0.mpr hc4)
    refine rk_aload_n rfl rfl ?_
    refine rk_get rfl (by assumption) rfl ?_
    refine rk_iload_n rfl rfl ?_
    refine rk_iload_n rfl rfl ?_
    refine rk_aload_n rfl rfl ?_
    refine rk_get rfl (by assumption) rfl ?_
    refine rk_aload_n rfl rfl ?_
    refine rk_get rfl (by assumption) rfl ?_
    refine rk_cv4i rfl rfl (by assumption) rfl rfl (Nat.le_of_ble_eq_true rfl) (Nat.le_of_ble_eq_true rfl) (s127 (now := now) hN C d36 h0 hS.2 S37 S38 S39 S40 R15 R) (fun w h1 hF => ?_)
    refine rk_goto rfl rfl ?_
    exact rk_ireturn rfl rfl ⟨_, _, rfl, hF⟩
theorem c156_x {X : ai_X} {h : ai_H} {tp : Int32} {N : Nat → Nat} (d0 : h[0]? = some (cOne tp)) (hN : HN N) (C : CH h 3 N) {a c : Int32} (hx : ¬ IsSet N a) : Mt X am_156 [.ref 0, .int a, .int c] h (Qe (-3) h) := by
  have e3 := C.1
  refine rk_aload_n rfl rfl ?_
  refine rk_get rfl (by assumption) rfl ?_
  refine rk_iload_n rfl rfl ?_
  refine rk_cv1e rfl rfl (by assumption) rfl rfl (Nat.le_of_ble_eq_true rfl) (Nat.le_of_ble_eq_true rfl) (s26N hN C _) ?_
  refine rk_if_eq rfl rfl (fun hc4 => ?_) (fun hc4 => ?_)
  · replace hc4 := (bI_0).mp hc4
    refine rk_bipush (v := (-3)) rfl (by decide) ?_
    exact rk_ireturn rfl rfl Qe_mk
  · replace hc4 := Decidable.not_not.mp (mt bI_0.mpr hc4)
    exact absurd hc4 hx
