/-! A SEARCH BY SETS: the class -/
def nc (b : Option Nat) : Nat := match b with | none => 3 | some _ => 0
def ns (b : Option Nat) (z : Nat) : Nat := match b with | none => z | some _ => 0
def np (b : Option Nat) (L : Nat) : Nat := match b with | none => L | some p => p
theorem s96b {X : ai_X} {h : ai_H} {o cap n : Nat} {b : Option Nat} (S : SrchAt h o cap n b) (hb : ∀ p, b = some p → o < p) (hn : P2 n) (hcn : cap ≤ n) (ho : o < h.length) : Mt X am_96 [.ref o] h (Qn (nc b) (ns b (n + cap + cap)) (Qv (fun h1 => FrN o (np b h.length) (nc b) h h1 ∧ SE h1 o (np b h.length) cap n))) := by
  obtain ⟨p, c, s, hm, ⟨rfl, rfl, rfl⟩ | ⟨rfl, rfl, rfl, rfl⟩⟩ := s96 (X := X) S hb hn hcn ho
  · exact hm
  · exact hm
theorem bfT_no {nx : Nat → Nat → Nat} {ok : Nat → Bool} {B : Bf} {k t : Nat} (h : ¬ ok (nx ((bfT nx ok B k t).st k) t) = true) : bfT nx ok B k (t + 1) = bfT nx ok B k t := by rw [bfT, bfS, if_neg h]
theorem bfT_ok {nx : Nat → Nat → Nat} {ok : Nat → Bool} {B : Bf} {k t : Nat} (h : ok (nx ((bfT nx ok B k t).st k) t) = true) : bfT nx ok B k (t + 1) = bfA (bfT nx ok B k t) (nx ((bfT nx ok B k t).st k) t) k t := by rw [bfT, bfS, if_pos h]
theorem bfA_all {B : Bf} {x k t : Nat} {P : Nat → Prop} (h : ∀ i, i < B.m → P (B.st i)) (hn : ¬ mem B.st x B.m = true → P x) : ∀ i, i < (bfA B x k t).m → P ((bfA B x k t).st i) := by
  unfold bfA
  split
  · exact h
  · rename_i hm
    intro i hi
    have hi' : i < B.m + 1 := hi
    show P (un B.st B.m x i)
    unfold un
    split
    · exact hn hm
    · exact h i (by omega)
theorem bfA_new {B : Bf} {x k t : Nat} (h : ¬ mem B.st x B.m = true) : (bfA B x k t).m = B.m + 1 ∧ (bfA B x k t).st B.m = x ∧ ∀ i, i < B.m → (bfA B x k t).st i = B.st i := by
  unfold bfA
  rw [if_neg h]
  exact ⟨rfl, un_s _ _ _, fun i hi => un_n (Nat.ne_of_lt hi)⟩
theorem bfK_s {nx : Nat → Nat → Nat} {ok : Nat → Bool} {T x k : Nat} (h : k < (bfK nx ok T x k).m) : bfK nx ok T x (k + 1) = bfT nx ok (bfK nx ok T x k) k T := by rw [bfK, if_pos h]
theorem bfK_end {nx : Nat → Nat → Nat} {ok : Nat → Bool} {T x k W : Nat} (h : (bfK nx ok T x k).m ≤ k) (hk : k ≤ W) : bfK nx ok T x W = bfK nx ok T x k := by
  have := bfK_stop h (W - k)
  rwa [show k + (W - k) = W by omega] at this
theorem bfK_pre {nx : Nat → Nat → Nat} {ok : Nat → Bool} {T x k W : Nat} (hk : k ≤ W) : Pre (bfK nx ok T x k) (bfK nx ok T x W) := by
  have := bfK_mono nx ok T x k (W - k)
  rwa [show k + (W - k) = W by omega] at this
theorem BI.lt1 {nx : Nat → Nat → Nat} {ok : Nat → Bool} {T x W : Nat} {B : Bf} (H : BI nx ok T x B) (hW : 0 < W) (h : ∀ i, i < B.m → 0 < B.st i ∧ B.st i < W) : B.m < W := by
  have := php (W - 1) B.m (fun i => B.st i - 1) (fun i hi => by have := h i hi; show B.st i - 1 < W - 1; omega) (fun i j hi hj e => H.2.2.1 i j hi hj (by
    have h1 := h i hi
    have h2 := h j hj
    have e' : B.st i - 1 = B.st j - 1 := e
    omega))
  omega
def okS (sh y : Nat) : Bool := decide (y &&& sh = 0)
theorem okS_t {sh y : Nat} : okS sh y = true ↔ y &&& sh = 0 := decide_eq_true_iff
theorem set_bit {s : Nat} (h : 0 < s) : ∃ k, s / 2 ^ k % 2 = 1 := by
  apply Classical.byContradiction
  intro z
  have : s = 0 := bs_ext (fun k => ⟨fun y => absurd ⟨k, y⟩ z, fun y => absurd y (bt_zero k)⟩)
  omega
theorem img_pos {N : Nat → Nat} {s t : Nat} (h0 : 0 < s) (hs : s < 2 ^ N 0) : 0 < img N s t := by
  obtain ⟨r, hr⟩ := set_bit h0
  have : img N s t / 2 ^ pl N r t % 2 = 1 := (bt_mim _).mpr ⟨r, bt_lt hs hr, hr, bt_mb.mpr (Or.inl rfl)⟩
  apply Nat.pos_of_ne_zero
  intro z
  rw [z] at this
  exact bt_zero _ this
theorem set_bd {N : Nat → Nat} {ok : Nat → Bool} {x : Nat} {B : Bf} (hN : HN N) (hx : 0 < x ∧ x < 2 ^ N 0) (H : BI (img N) ok (N 1) x B) : (∀ i, i < B.m → 0 < B.st i ∧ B.st i < 2 ^ N 0) ∧ B.m < 16384 := by
  have h1 := H.all (P := fun y => 0 < y ∧ y < 2 ^ N 0) hx (fun y t hy ht _ => ⟨img_pos hy.1 hy.2, img_lt hN ht⟩)
  have hp := hN.p14
  exact ⟨h1, H.lt1 (by omega) (fun i hi => ⟨(h1 i hi).1, by have := (h1 i hi).2; omega⟩)⟩
/-- a search that found, with a row of its own -/
def FrQ (o p : Nat) (h h1 : ai_H) : Prop := h1.length = h.length ∧ ∀ q : Nat, q ≠ 15 → q ≠ 16 → q ≠ o → ¬ (p ≤ q ∧ q < p + 3) → h1[q]? = h[q]?
theorem FrS.q {o p : Nat} {h h1 : ai_H} (F : FrS o p h h1) : FrQ o p h h1 := ⟨F.1, fun q _ _ a b => F.2 q a b⟩
theorem FrS.q2 {o p : Nat} {h h1 h2 : ai_H} (F : FrS o p h h1) (G : Fr 15 (15 + 2) h1 h2) : FrQ o p h h2 := ⟨G.1.trans F.1, fun q a b c d => (G.2 q (by omega)).trans (F.2 q c d)⟩
/-- a found row is written -/
theorem s102F {X : ai_X} {h g : ai_H} {o p cap n T x : Nat} {nx : Nat → Nat → Nat} {ok : Nat → Bool} {B : Bf} {n0 : Int32} {f0 : Nat → Int32} (S : SB g o p cap n B) (hI : BI nx ok T x B) (hT : T ≤ 8) (ho : 17 ≤ o) (hp : 17 ≤ p) (F : FrS o p h g) (R : RouteAt h 15 n0 f0) : Mt X am_102 [.ref o, .ref 15] g (Qi (fun w h1 => w = nI (dep B.pa (B.m - 1)) ∧ FrQ o p h h1 ∧ SrchAt h1 o cap n (some p) ∧ ((500 < dep B.pa (B.m - 1) ∧ h1[15]? = h[15]? ∧ h1[16]? = h[16]?) ∨ (dep B.pa (B.m - 1) ≤ 500 ∧ RtAt h1 15 (dep B.pa (B.m - 1)) (rowTo B (B.m - 1)))))) := by
  have R' : RouteAt g 15 n0 f0 := R.fr (fun q _ _ => F.2 q (by omega) (by omega))
  refine (s102 S hI hT (by omega) R').mono ?_
  rintro o' ⟨w, h1, rfl, rfl, ⟨z1, rfl⟩ | ⟨z1, z2, z3⟩⟩
  · exact ⟨_, _, rfl, rfl, F.q, S.at', Or.inl ⟨z1, F.2 15 (by omega) (by omega), F.2 16 (by omega) (by omega)⟩⟩
  · exact ⟨_, _, rfl, rfl, F.q2 z2, (S.fr (z2.2 o (by omega)) (fun q _ _ => z2.2 q (by omega))).at', Or.inr ⟨z1, z3⟩⟩
theorem l107i {X : ai_X} {h : ai_H} {N : Nat → Nat} {n1 n2 goal n0 : Int32} {xa xb : Value} {f0 : Nat → Int32} {p set sh : Nat} (hN : HN N) (C : CH h 3 N) (d24 : h[24]? = some (cSets n1 n2 xa xb)) (I : IM h (tf N true) (N 1)) (R : RouteAt h 15 n0 f0) (hp : 80 ≤ p) (hset : 0 < set ∧ set < 2 ^ N 0) (hsh : sh < 16384) {k : Nat} {B : Bf} (hB : BI (img N) (okS sh) (N 1) set B) (hk : k < B.m) {P : ai_O → Prop} (z1 : ∀ g c7, FrS 22 p h g → SB g 22 p 16384 16384 (bfT (img N) (okS sh) B k (N 1)) → (∀ i, i < (bfT (img N) (okS sh) B k (N 1)).m → ¬ gl goal ((bfT (img N) (okS sh) B k (N 1)).st i) = true) → Rk X am_107 71 [some (.ref 24), some (.int (nI set)), some (.int goal), some (.int (nI sh)), some (.ref 15), some (.int (nI k)), some (.int (nI (N 1))), c7] [] g P) (z2 : ∀ B1 w h1, Pre B1 (bfT (img N) (okS sh) B k (N 1)) → BI (img N) (okS sh) (N 1) set B1 → gl goal (B1.st (B1.m - 1)) = true → (∀ i, i < B1.m - 1 → ¬ gl goal (B1.st i) = true) → FrQ 22 p h h1 → SrchAt h1 22 16384 16384 (some p) → w = nI (dep B1.pa (B1.m - 1)) → ((500 < dep B1.pa (B1.m - 1) ∧ h1[15]? = h[15]? ∧ h1[16]? = h[16]?) ∨ (dep B1.pa (B1.m - 1) ≤ 500 ∧ RtAt h1 15 (dep B1.pa (B1.m - 1)) (rowTo B1 (B1.m - 1)))) → P (some (.int w), h1, 0, 0)) : ∀ (d : Nat) (t : Nat) (g : ai_H) (c7 : Option Value), N 1 < t + d → (t ≤ N 1) → (FrS 22 p h g) → (SB g 22 p 16384 16384 (bfT (img N) (okS sh) B k t)) → ((∀ i, i < (bfT (img N) (okS sh) B k t).m → ¬ gl goal ((bfT (img N) (okS sh) B k t).st i) = true)) → Rk X am_107 35 [some (.ref 24), some (.int (nI set)), some (.int goal), some (.int (nI sh)), some (.ref 15), some (.int (nI k)), some (.int (nI t)), c7] [] g (P) := by
  intro d
  induction d with
  | zero => intro t g c7 hd ht F S G; exfalso; omega
  | succ d ih =>
    intro t g c7 hd ht F S G
    have C2 : CH g 3 N := C.fr (fun q _ _ => F.2 q (by omega) (by omega))
    have e3 := C2.1
    have e24 := (F.2 24 (by omega) (by omega)).trans d24
    have I2 : IM g (tf N true) (N 1) := I.fr (F.2 25 (by omega) (by omega))
    obtain ⟨base, e22⟩ := S.obj
    have h6 := hN.t
    have hn := hN.n
    have hp14 := hN.p14
    have hBt := hB.tones hk t ht
    have hkt : k < (bfT (img N) (okS sh) B k t).m := Nat.lt_of_lt_of_le hk (bfT_pre _ _ B k t).1
    obtain ⟨hst, hm16⟩ := set_bd hN hset hBt
    have hs16 := (hst k hkt).2
    refine rk_iload rfl rfl ?_
    refine rk_aload_n rfl rfl ?_
    refine rk_get rfl (by first | assumption | exact S1.obj.choose_spec | exact (F1.2 24 (by omega) (by omega)).trans e24) rfl ?_
    refine rk_get rfl (by first | assumption | exact S1.obj.choose_spec | exact (F1.2 24 (by omega) (by omega)).trans e24) rfl ?_
    refine rk_icmp_ge rfl rfl (fun hc39 => ?_) (fun hc39 => ?_)
    · replace hc39 := (nI_leI (by omega) (by omega)).mp hc39
      have ht2 : t = N 1 := by omega
      subst ht2
      exact z1 g _ F S G
    · replace hc39 := mt (nI_leI (by omega) (by omega)).mpr hc39
      refine rk_aload_n rfl rfl ?_
      refine rk_aload_n rfl rfl ?_
      refine rk_get rfl (by first | assumption | exact S1.obj.choose_spec | exact (F1.2 24 (by omega) (by omega)).trans e24) rfl ?_
      refine rk_iload rfl rfl ?_
      refine rk_cv1e rfl rfl (by first | assumption | exact S1.obj.choose_spec | exact (F1.2 24 (by omega) (by omega)).trans e24) rfl rfl (Nat.le_of_ble_eq_true rfl) (Nat.le_of_ble_eq_true rfl) (s98B S hkt) ?_
      refine rk_iload rfl rfl ?_
      refine rk_cv2e rfl rfl (by first | assumption | exact S1.obj.choose_spec | exact (F1.2 24 (by omega) (by omega)).trans e24) rfl rfl (Nat.le_of_ble_eq_true rfl) (Nat.le_of_ble_eq_true rfl) (s105 (may := true) hN e24 I2 (by omega) (by omega)) ?_
      rw [if_pos rfl]
      have hy := img_lt (s := (bfT (img N) (okS sh) B k t).st k) (t := t) hN (by omega)
      have hya : (img N ((bfT (img N) (okS sh) B k t).st k) t &&& sh) ≤ sh := Nat.and_le_right
      refine rk_istore rfl (Nat.le_of_ble_eq_true rfl) rfl ?_
      refine rk_iload rfl rfl ?_
      refine rk_iload_n rfl rfl ?_
      refine rk_iand rfl (b_andU _ _) ?_
      refine rk_if_ne rfl rfl (fun hc51 => ?_) (fun hc51 => ?_)
      · replace hc51 := mt (n0_eq (by omega)).mpr hc51
        have hno := bfT_no (nx := img N) (ok := okS sh) (B := B) (k := k) (t := t) (fun z => hc51 (okS_t.mp z))
        have F2 := F
        have S2 := S
        rw [← hno] at S2
        have G2 := G
        rw [← hno] at G2
        refine rk_iinc rfl rfl (n_inc _) rfl ?_
        refine rk_goto rfl rfl ?_
        exact ih (t + 1) _ _ (by omega) (by omega) F2 S2 G2
      · replace hc51 := Decidable.not_not.mp hc51
        replace hc51 := (n0_eq (by omega)).mp hc51
        have hok : okS sh (img N ((bfT (img N) (okS sh) B k t).st k) t) = true := okS_t.mpr hc51
        have hT1 := bfT_ok (nx := img N) (ok := okS sh) (B := B) (k := k) (t := t) hok
        refine rk_aload_n rfl rfl ?_
        refine rk_get rfl (by first | assumption | exact S1.obj.choose_spec | exact (F1.2 24 (by omega) (by omega)).trans e24) rfl ?_
        refine rk_iload rfl rfl ?_
        refine rk_iload rfl rfl ?_
        refine rk_iload rfl rfl ?_
        refine rk_cv3i rfl rfl (by first | assumption | exact S1.obj.choose_spec | exact (F1.2 24 (by omega) (by omega)).trans e24) rfl rfl (Nat.le_of_ble_eq_true rfl) (Nat.le_of_ble_eq_true rfl) (s101B S hBt.1 (by omega) (by omega) (by omega) (by omega)) (fun w h1 hF => ?_)
        obtain ⟨rfl, F1, S1⟩ := hF
        refine rk_if_eq rfl rfl (fun hc58 => ?_) (fun hc58 => ?_)
        · replace hc58 := (bI_0).mp hc58
          have F2 := F.tr F1
          have S2 := S1
          have G2 := bfA_all (x := img N ((bfT (img N) (okS sh) B k t).st k) t) (k := k) (t := t) (P := fun y => ¬ gl goal y = true) G (fun z => absurd z hc58)
          rw [← hT1] at S2 G2
          refine rk_iinc rfl rfl (n_inc _) rfl ?_
          refine rk_goto rfl rfl ?_
          exact ih (t + 1) _ _ (by omega) (by omega) F2 S2 G2
        · replace hc58 := Decidable.not_not.mp (mt bI_0.mpr hc58)
          have hI1 : BI (img N) (okS sh) (N 1) set (bfA (bfT (img N) (okS sh) B k t) (img N ((bfT (img N) (okS sh) B k t).st k) t) k t) := by
            have := hBt.step (t := t) hkt (by omega)
            rwa [bfS, if_pos hok] at this
          refine rk_aload_n rfl rfl ?_
          refine rk_iload rfl rfl ?_
          refine rk_iload_n rfl rfl ?_
          refine rk_cv2e rfl rfl (by first | assumption | exact S1.obj.choose_spec | exact (F1.2 24 (by omega) (by omega)).trans e24) rfl rfl (Nat.le_of_ble_eq_true rfl) (Nat.le_of_ble_eq_true rfl) (s106 (by omega) goal) ?_
          refine rk_if_eq rfl rfl (fun hc63 => ?_) (fun hc63 => ?_)
          · replace hc63 := (bI_0).mp hc63
            have F2 := F.tr F1
            have S2 := S1
            have G2 := bfA_all (x := img N ((bfT (img N) (okS sh) B k t).st k) t) (k := k) (t := t) (P := fun y => ¬ gl goal y = true) G (fun _ => hc63)
            rw [← hT1] at S2 G2
            refine rk_iinc rfl rfl (n_inc _) rfl ?_
            refine rk_goto rfl rfl ?_
            exact ih (t + 1) _ _ (by omega) (by omega) F2 S2 G2
          · replace hc63 := Decidable.not_not.mp (mt bI_0.mpr hc63)
            refine rk_aload_n rfl rfl ?_
            refine rk_get rfl (by first | assumption | exact S1.obj.choose_spec | exact (F1.2 24 (by omega) (by omega)).trans e24) rfl ?_
            refine rk_aload rfl rfl ?_
            refine rk_cv1i rfl rfl (by first | assumption | exact S1.obj.choose_spec | exact (F1.2 24 (by omega) (by omega)).trans e24) rfl rfl (Nat.le_of_ble_eq_true rfl) (Nat.le_of_ble_eq_true rfl) (s102F S1 hI1 (by omega) (by omega) (by omega) (F.tr F1) R) (fun w h1 hF => ?_)
            obtain ⟨rfl, F3, S3, z3⟩ := hF
            obtain ⟨y1, y2, y3⟩ := bfA_new (k := k) (t := t) hc58
            refine rk_ireturn rfl rfl (z2 _ _ _ ?_ hI1 ?_ ?_ F3 S3 rfl z3)
            · rw [← hT1]
              have := bfT_mono (img N) (okS sh) B k (t + 1) (N 1 - (t + 1))
              rwa [show t + 1 + (N 1 - (t + 1)) = N 1 by omega] at this
            · rw [y1, Nat.add_sub_cancel, y2]
              exact hc63
            · intro i hi
              rw [y1, Nat.add_sub_cancel] at hi
              rw [y3 i hi]
              exact G i hi
theorem l107 {X : ai_X} {h : ai_H} {N : Nat → Nat} {n1 n2 goal n0 : Int32} {xa xb : Value} {f0 : Nat → Int32} {p set sh : Nat} (hN : HN N) (C : CH h 3 N) (d24 : h[24]? = some (cSets n1 n2 xa xb)) (I : IM h (tf N true) (N 1)) (R : RouteAt h 15 n0 f0) (hp : 80 ≤ p) (hset : 0 < set ∧ set < 2 ^ N 0) (hsh : sh < 16384) : ∀ (d : Nat) (k : Nat) (g : ai_H) (c6 c7 : Option Value), 16384 < k + d → (k ≤ (bfK (img N) (okS sh) (N 1) set k).m) → (k ≤ 16384) → (FrS 22 p h g) → (SB g 22 p 16384 16384 (bfK (img N) (okS sh) (N 1) set k)) → ((∀ i, i < (bfK (img N) (okS sh) (N 1) set k).m → ¬ gl goal ((bfK (img N) (okS sh) (N 1) set k).st i) = true)) → Rk X am_107 25 [some (.ref 24), some (.int (nI set)), some (.int goal), some (.int (nI sh)), some (.ref 15), some (.int (nI k)), c6, c7] [] g (Qi (fun w h1 => FrQ 22 p h h1 ∧ SrchAt h1 22 16384 16384 (some p) ∧ CF h h1 w (bfK (img N) (okS sh) (N 1) set 16384) (gl goal))) := by
  intro d
  induction d with
  | zero => intro k g c6 c7 hd hk hk2 F S G; exfalso; omega
  | succ d ih =>
    intro k g c6 c7 hd hk hk2 F S G
    have C2 : CH g 3 N := C.fr (fun q _ _ => F.2 q (by omega) (by omega))
    have e3 := C2.1
    have e24 := (F.2 24 (by omega) (by omega)).trans d24
    have I2 : IM g (tf N true) (N 1) := I.fr (F.2 25 (by omega) (by omega))
    obtain ⟨base, e22⟩ := S.obj
    have h6 := hN.t
    have hn := hN.n
    have hp14 := hN.p14
    have hBk := BI.heads (nx := img N) (ok := okS sh) (T := N 1) (x := set) k
    obtain ⟨hst, hm16⟩ := set_bd hN hset hBk
    refine rk_iload rfl rfl ?_
    refine rk_sipush (v := nI 16384) rfl (by decide) ?_
    refine rk_icmp_ge rfl rfl (fun hc27 => ?_) (fun hc27 => ?_)
    · replace hc27 := (nI_leI (by omega) (by omega)).mp hc27
      omega
    · replace hc27 := mt (nI_leI (by omega) (by omega)).mpr hc27
      refine rk_iload rfl rfl ?_
      refine rk_aload_n rfl rfl ?_
      refine rk_get rfl (by assumption) rfl ?_
      refine rk_cv0e rfl rfl (by assumption) rfl rfl (Nat.le_of_ble_eq_true rfl) (Nat.le_of_ble_eq_true rfl) (s97B S) ?_
      refine rk_icmp_ge rfl rfl (fun hc32 => ?_) (fun hc32 => ?_)
      · replace hc32 := (nI_leI (by omega) (by omega)).mp hc32
        refine rk_iconst (v := (-1)) rfl (by decide) ?_
        refine rk_ireturn rfl rfl ⟨_, _, rfl, F.q, S.at', ?_⟩
        rw [bfK_end (W := 16384) (by omega) (by omega)]
        exact CF.none G (F.2 15 (by omega) (by omega)) (F.2 16 (by omega) (by omega))
      · replace hc32 := mt (nI_leI (by omega) (by omega)).mpr hc32
        refine rk_iconst (v := nI 0) rfl (by decide) ?_
        refine rk_istore rfl (Nat.le_of_ble_eq_true rfl) rfl ?_
        refine l107i (B := (bfK (img N) (okS sh) (N 1) set k)) hN C d24 I R hp hset hsh hBk (by omega) ?_ ?_ (N 1 + 1) 0 g _ (by omega) (by omega) F S G
        · intro g2 c7 F2 S2 G2
          rw [← bfK_s (by omega)] at S2 G2
          refine rk_iinc rfl rfl (n_inc _) rfl ?_
          refine rk_goto rfl rfl ?_
          exact ih (k + 1) g2 _ _ (by omega) (by have := (bfK_1 (img N) (okS sh) (N 1) set k).1; omega) (by omega) F2 S2 G2
        · intro B1 w h1 P1 H1 g1 g2 F3 S3 hw z3
          rw [← bfK_s (by omega)] at P1
          exact ⟨_, _, rfl, F3, S3, CF.found (P1.tr (bfK_pre (by omega))) H1 (by have := H1.1; omega) g1 g2 hw z3⟩
theorem r107 {X : ai_X} {h : ai_H} {N : Nat → Nat} {n1 n2 goal n0 : Int32} {xa xb : Value} {f0 : Nat → Int32} {p set sh : Nat} (hN : HN N) (C : CH h 3 N) (d24 : h[24]? = some (cSets n1 n2 xa xb)) (I : IM h (tf N true) (N 1)) (R : RouteAt h 15 n0 f0) (hp : 80 ≤ p) (hset : 0 < set ∧ set < 2 ^ N 0) (hsh : sh < 16384) (E : SE h 22 p 16384 16384) : Rk X am_107 6 [some (.ref 24), some (.int (nI set)), some (.int goal), some (.int (nI sh)), some (.ref 15), none, none, none] [] h (Qi (fun w h1 => FrQ 22 p h h1 ∧ SrchAt h1 22 16384 16384 (some p) ∧ CF h h1 w (bfK (img N) (okS sh) (N 1) set 16384) (gl goal))) := by
  obtain ⟨base, e22⟩ := E.obj
  have hp14 := hN.p14
  have h6 := hN.t
  refine rk_aload_n rfl rfl ?_
  refine rk_get rfl (by first | assumption | exact S1.obj.choose_spec) rfl ?_
  refine rk_iload_n rfl rfl ?_
  refine rk_iconst (v := (-1)) rfl (by decide) ?_
  refine rk_iconst (v := nI 0) rfl (by decide) ?_
  refine rk_cv3i rfl rfl (by first | assumption | exact S1.obj.choose_spec) rfl rfl (Nat.le_of_ble_eq_true rfl) (Nat.le_of_ble_eq_true rfl) (s101R E (by omega) (by omega)) (fun w h1 hF => ?_)
  obtain ⟨rfl, F1, S1⟩ := hF
  have e24 := (F1.2 24 (by omega) (by omega)).trans d24
  have hB0 := BI.zero (nx := img N) (ok := okS sh) (T := N 1) (x := set)
  refine rk_pop rfl ?_
  refine rk_aload_n rfl rfl ?_
  refine rk_iload_n rfl rfl ?_
  refine rk_iload_n rfl rfl ?_
  refine rk_cv2e rfl rfl (by first | assumption | exact S1.obj.choose_spec) rfl rfl (Nat.le_of_ble_eq_true rfl) (Nat.le_of_ble_eq_true rfl) (s106 (by omega) goal) ?_
  refine rk_if_eq rfl rfl (fun hc17 => ?_) (fun hc17 => ?_)
  · replace hc17 := (bI_0).mp hc17
    refine rk_iconst (v := nI 0) rfl (by decide) ?_
    refine rk_istore rfl (Nat.le_of_ble_eq_true rfl) rfl ?_
    refine (l107 hN C d24 I R hp hset hsh 16385 0 _ none none (by omega) (by omega) (by omega) F1 S1 (fun i hi => ?_))
    have hi' : i < 1 := hi
    exact hc17
  · replace hc17 := Decidable.not_not.mp (mt bI_0.mpr hc17)
    refine rk_aload_n rfl rfl ?_
    refine rk_get rfl (by first | assumption | exact S1.obj.choose_spec) rfl ?_
    refine rk_aload rfl rfl ?_
    refine rk_cv1i rfl rfl (by first | assumption | exact S1.obj.choose_spec) rfl rfl (Nat.le_of_ble_eq_true rfl) (Nat.le_of_ble_eq_true rfl) (s102F S1 hB0 (by omega) (by omega) (by omega) F1 R) (fun w h1 hF => ?_)
    obtain ⟨rfl, F3, S3, z3⟩ := hF
    exact rk_ireturn rfl rfl ⟨_, _, rfl, F3, S3, CF.found (k := 0) (bfK_pre (k := 0) (by omega)) hB0 (by show 0 < 1; omega) hc17 (fun i hi => absurd hi (by omega)) rfl z3⟩
/-- 'bring', cells being made or not -/
theorem s107 {X : ai_X} {h : ai_H} {N : Nat → Nat} {n1 n2 goal n0 : Int32} {xa xb : Value} {f0 f25 : Nat → Int32} {set sh : Nat} {b : Option Nat} (hN : HN N) (C : CH h 3 N) (d24 : h[24]? = some (cSets n1 n2 xa xb)) (c25 : h[25]? = some (cI 1536 f25)) (hf : ∀ j, j < 12 → f25 (128 * j) = 0) (R : RouteAt h 15 n0 f0) (hset : 0 < set ∧ set < 2 ^ N 0) (hsh : sh < 16384) (S : SrchAt h 22 16384 16384 b) (hb : ∀ p, b = some p → 80 ≤ p) (hl : 80 ≤ h.length) : Mt X am_107 [.ref 24, .int (nI set), .int goal, .int (nI sh), .ref 15] h (Qn (nc b) (ns b 49152) (Qi (fun w h1 => h1.length = h.length + nc b ∧ (∀ q : Nat, q < h.length → q ≠ 15 → q ≠ 16 → q ≠ 22 → q ≠ 25 → ¬ (np b h.length ≤ q ∧ q < np b h.length + 3) → h1[q]? = h[q]?) ∧ (∃ f, h1[25]? = some (cI 1536 f) ∧ ∀ j, j < 12 → f (128 * j) = 0) ∧ SrchAt h1 22 16384 16384 (some (np b h.length)) ∧ CF h h1 w (bfK (img N) (okS sh) (N 1) set 16384) (gl goal)))) := by
  have hp80 : 80 ≤ np b h.length := by
    cases b with
    | none => exact hl
    | some p => exact hb p rfl
  refine rk_aload_n rfl rfl ?_
  refine rk_iconst (v := nI 1) rfl (by decide) ?_
  refine rk_cv1v rfl rfl d24 rfl rfl (Nat.le_of_ble_eq_true rfl) (Nat.le_of_ble_eq_true rfl) (s104 (may := true) hN C d24 c25 hf (by rw [bI_t rfl]; exact nI_one)) (fun h1 hF => ?_)
  obtain ⟨F1, I1⟩ := hF
  have e24 := (F1.2 24 (by omega)).trans d24
  have C1 := C.fr2 F1 (by omega)
  have R1 : RouteAt h1 15 n0 f0 := R.fr (fun q _ _ => F1.2 q (by omega))
  have S1 : SrchAt h1 22 16384 16384 b := S.fr (F1.2 22 (by omega)) (fun p e q _ _ => F1.2 q (by have := hb p e; omega))
  have E1 := s96b (X := X) S1 (fun p e => by have := hb p e; omega) (Or.inl rfl) (by omega) (by rw [F1.1]; omega)
  rw [F1.1] at E1
  refine rk_aload_n rfl rfl ?_
  refine rk_get rfl e24 rfl ?_
  obtain ⟨y, hy⟩ : ∃ fs, h1[22]? = some (.inr (7, fs)) := by
    rcases S1 with ⟨-, z⟩ | ⟨p, base, many, sl, s1, s2, -, z, -⟩
    · exact ⟨_, z⟩
    · exact ⟨_, z⟩
  refine rk_cq0v rfl rfl hy rfl rfl (Nat.le_of_ble_eq_true rfl) (Nat.le_of_ble_eq_true rfl) E1 (fun h2 hF => ?_)
  obtain ⟨F2, E2⟩ := hF
  have hl1 := F1.1
  have hl2 := F2.1
  have k2 : ∀ q : Nat, q < 80 → q ≠ 22 → h2[q]? = h1[q]? := fun q hq h22 => F2.2 q (by omega) h22 (by omega)
  refine (r107 hN (C1.fr (fun q _ _ => k2 q (by omega) (by omega))) ((k2 24 (by omega) (by omega)).trans e24) (I1.fr (k2 25 (by omega) (by omega))) (R1.fr (fun q _ _ => k2 q (by omega) (by omega))) hp80 hset hsh E2).mono ?_
  rintro o ⟨w, h3, rfl, F3, S3, z3⟩
  have k3 : ∀ q : Nat, q < 80 → q ≠ 22 → q ≠ 15 → q ≠ 16 → h3[q]? = h1[q]? := fun q a b1 c d => (F3.2 q c d b1 (by omega)).trans (k2 q a b1)
  refine ⟨_, _, rfl, by rw [F3.1, hl2, hl1], fun q a b1 c d e1 f => ?_, ?_, S3, ?_⟩
  · exact (F3.2 q b1 c d f).trans ((F2.2 q (by omega) d f).trans (F1.2 q (by omega)))
  · obtain ⟨f, g1, g2, -⟩ := I1
    exact ⟨f, (k3 25 (by omega) (by omega) (by omega) (by omega)).trans g1, g2⟩
  · have e15 : h2[15]? = h[15]? := (k2 15 (by omega) (by omega)).trans (F1.2 15 (by omega))
    have e16 : h2[16]? = h[16]? := (k2 16 (by omega) (by omega)).trans (F1.2 16 (by omega))
    unfold CF at z3 ⊢
    rw [e15, e16] at z3
    exact z3
