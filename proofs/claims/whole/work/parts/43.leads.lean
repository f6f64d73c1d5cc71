/-! LEADS: the class's search -/
/-- cells that leading changes: the search, and who is led -/
def FrL (p : Nat) (h h1 : ai_H) : Prop := h1.length = h.length ∧ ∀ q : Nat, q ≠ 22 → q ≠ 35 → ¬ (p ≤ q ∧ q < p + 3) → h1[q]? = h[q]?
theorem FrL.rfl' {p : Nat} {h : ai_H} : FrL p h h := ⟨rfl, fun _ _ _ _ => rfl⟩
theorem FrL.s {p : Nat} {h h1 h2 : ai_H} (x : FrL p h h1) (y : FrS 22 p h1 h2) : FrL p h h2 := ⟨y.1.trans x.1, fun q a b c => (y.2 q a c).trans (x.2 q a b c)⟩
theorem FrL.l {p : Nat} {h h1 h2 : ai_H} (x : FrL p h h1) (y : Fr 35 36 h1 h2) : FrL p h h2 := ⟨y.1.trans x.1, fun q a b c => (y.2 q (by omega)).trans (x.2 q a b c)⟩
def FrK (p : Nat) (h h1 : ai_H) : Prop := h1.length = h.length ∧ ∀ q : Nat, q ≠ 15 → q ≠ 16 → q ≠ 22 → q ≠ 35 → ¬ (p ≤ q ∧ q < p + 3) → h1[q]? = h[q]?
theorem FrL.k {p : Nat} {h h1 : ai_H} (x : FrL p h h1) : FrK p h h1 := ⟨x.1, fun q _ _ a b c => x.2 q a b c⟩
theorem FrL.kq {p : Nat} {h h1 h2 : ai_H} (x : FrL p h h1) (y : FrQ 22 p h1 h2) : FrK p h h2 := ⟨y.1.trans x.1, fun q a b c d e => (y.2 q a b c e).trans (x.2 q c d e)⟩
theorem s102G {X : ai_X} {g : ai_H} {o p cap n T x : Nat} {nx : Nat → Nat → Nat} {ok : Nat → Bool} {B : Bf} {n0 : Int32} {f0 : Nat → Int32} (S : SB g o p cap n B) (hI : BI nx ok T x B) (hT : T ≤ 8) (ho : 17 ≤ o) (hp : 17 ≤ p) (R : RouteAt g 15 n0 f0) : Mt X am_102 [.ref o, .ref 15] g (Qi (fun w h1 => w = nI (dep B.pa (B.m - 1)) ∧ FrQ o p g h1 ∧ SrchAt h1 o cap n (some p) ∧ ((500 < dep B.pa (B.m - 1) ∧ h1[15]? = g[15]? ∧ h1[16]? = g[16]?) ∨ (dep B.pa (B.m - 1) ≤ 500 ∧ RtAt h1 15 (dep B.pa (B.m - 1)) (rowTo B (B.m - 1)))))) := s102F S hI hT ho hp FrS.rfl' R
theorem l13i {X : ai_X} {h : ai_H} {N : Nat → Nat} {n : Nat} {n0 : Int32} {f0 : Nat → Int32} {p x r : Nat} {bits : Int32} (hn : N23 n) (hN : HN N) (C : CH h 3 N) (d33 : h[33]? = some (cCo (nI n))) (A0 : ShI h 35 3) (R : RouteAt h 15 n0 f0) (hp : 80 ≤ p) (hx : vL N n x) (hr : r < N 0) {k : Nat} {B : Bf} (hB : BI (nxL N n) (okL N n) (N 1) x B) (hk : k < B.m) {P : ai_O → Prop} (z1 : ∀ g, FrL p h g → ShI g 35 3 → SB g 22 p 16384 16384 (bfT (nxL N n) (okL N n) B k (N 1)) → (∀ i, i < (bfT (nxL N n) (okL N n) B k (N 1)).m → ¬ glL n r ((bfT (nxL N n) (okL N n) B k (N 1)).st i) = true) → Rk X am_13 74 [some (.ref 33), some (.int bits), some (.int (nI r)), some (.ref 15), some (.int (nI k)), some (.int (nI (N 1)))] [] g P) (z2 : ∀ B1 w h1, Pre B1 (bfT (nxL N n) (okL N n) B k (N 1)) → BI (nxL N n) (okL N n) (N 1) x B1 → glL n r (B1.st (B1.m - 1)) = true → (∀ i, i < B1.m - 1 → ¬ glL n r (B1.st i) = true) → FrK p h h1 → SrchAt h1 22 16384 16384 (some p) → w = nI (dep B1.pa (B1.m - 1)) → ((500 < dep B1.pa (B1.m - 1) ∧ h1[15]? = h[15]? ∧ h1[16]? = h[16]?) ∨ (dep B1.pa (B1.m - 1) ≤ 500 ∧ RtAt h1 15 (dep B1.pa (B1.m - 1)) (rowTo B1 (B1.m - 1)))) → P (some (.int w), h1, 0, 0)) : ∀ (d : Nat) (t : Nat) (g : ai_H), N 1 < t + d → (t ≤ N 1) → (FrL p h g) → (ShI g 35 3) → (SB g 22 p 16384 16384 (bfT (nxL N n) (okL N n) B k t)) → ((∀ i, i < (bfT (nxL N n) (okL N n) B k t).m → ¬ glL n r ((bfT (nxL N n) (okL N n) B k t).st i) = true)) → Rk X am_13 40 [some (.ref 33), some (.int bits), some (.int (nI r)), some (.ref 15), some (.int (nI k)), some (.int (nI t))] [] g (P) := by
  intro d
  induction d with
  | zero => intro t g hd ht F A1 S G; exfalso; omega
  | succ d ih =>
    intro t g hd ht F A1 S G
    have C2 : CH g 3 N := C.fr (fun q _ _ => F.2 q (by omega) (by omega) (by omega))
    have e3 := C2.1
    have e33 := (F.2 33 (by omega) (by omega) (by omega)).trans d33
    obtain ⟨base, e22⟩ := S.obj
    have h6 := hN.t
    have h14 := hN.n
    have hpw := pow14 hn
    have hBt := hB.tones hk t ht
    have hkt : k < (bfT (nxL N n) (okL N n) B k t).m := Nat.lt_of_lt_of_le hk (bfT_pre _ _ B k t).1
    obtain ⟨hst, hm16⟩ := lead_bd hN hn hx hBt
    have hvk := hst k hkt
    refine rk_iload rfl rfl ?_
    refine rk_aload_n rfl rfl ?_
    refine rk_get rfl (by first | assumption | exact S3.obj.choose_spec) rfl ?_
    refine rk_get rfl (by first | assumption | exact S3.obj.choose_spec) rfl ?_
    refine rk_icmp_ge rfl rfl (fun hc44 => ?_) (fun hc44 => ?_)
    · replace hc44 := (nI_leI (by omega) (by omega)).mp hc44
      have ht2 : t = N 1 := by omega
      subst ht2
      exact z1 g F A1 S G
    · replace hc44 := mt (nI_leI (by omega) (by omega)).mpr hc44
      refine rk_aload_n rfl rfl ?_
      refine rk_aload_n rfl rfl ?_
      refine rk_get rfl (by first | assumption | exact S3.obj.choose_spec) rfl ?_
      refine rk_iload rfl rfl ?_
      refine rk_cv1e rfl rfl (by first | assumption | exact S3.obj.choose_spec) rfl rfl (Nat.le_of_ble_eq_true rfl) (Nat.le_of_ble_eq_true rfl) (s98B S hkt) ?_
      refine rk_iload rfl rfl ?_
      refine rk_cv2v rfl rfl (by first | assumption | exact S3.obj.choose_spec) rfl rfl (Nat.le_of_ble_eq_true rfl) (Nat.le_of_ble_eq_true rfl) (s16 hn hN C2 e33 A1 hvk (by omega)) (fun h1 hF => ?_)
      obtain ⟨F1, A2⟩ := hF
      have C3 := C2.fr2 F1 (by omega)
      replace e3 := C3.1
      replace e33 := (F1.2 33 (by omega)).trans e33
      replace e22 := (F1.2 22 (by omega)).trans e22
      have S1 := S.fr (F1.2 22 (by omega)) (fun q _ _ => F1.2 q (by omega))
      have hyv : ∀ i, i < n → pl N (dgt ((bfT (nxL N n) (okL N n) B k t).st k) i) t < N 0 := fun i hi => hN.xpl (hvk.1 i hi) (by omega)
      have hy14 : ∀ i, i < n → pl N (dgt ((bfT (nxL N n) (okL N n) B k t).st k) i) t < 14 := fun i hi => by have := hyv i hi; omega
      have hvn := nxL_v hN hn hvk (show t < N 1 by omega)
      have hvn2 : pack (fun j => pl N (dgt ((bfT (nxL N n) (okL N n) B k t).st k) j) t) n < 14 ^ n := pack_lt hn hy14
      have hdg : ∀ i, i < n → dgt (nxL N n ((bfT (nxL N n) (okL N n) B k t).st k) t) i = pl N (dgt ((bfT (nxL N n) (okL N n) B k t).st k) i) t := dgt_pack hn hy14
      have hbad : bad N (dgt (nxL N n ((bfT (nxL N n) (okL N n) B k t).st k) t)) n = bad N (fun j => pl N (dgt ((bfT (nxL N n) (okL N n) B k t).st k) j) t) n := bad_cg hdg
      refine rk_aload_n rfl rfl ?_
      refine rk_cv0e rfl rfl (by first | assumption | exact S3.obj.choose_spec) rfl rfl (Nat.le_of_ble_eq_true rfl) (Nat.le_of_ble_eq_true rfl) (s17 hn hN C3 e33 A2 hyv) ?_
      refine rk_if_ne rfl rfl (fun hc54 => ?_) (fun hc54 => ?_)
      · replace hc54 := Decidable.not_not.mp (mt bI_0.mpr hc54)
        have hno := bfT_no (nx := nxL N n) (ok := okL N n) (B := B) (k := k) (t := t) (fun z => hc54 (hbad.symm.trans (okL_t.mp z)))
        have F2 := F.l F1
        have H2 : ShI h1 35 3 := ⟨_, A2.choose_spec.1⟩
        have S2 := S1
        rw [← hno] at S2
        have G2 := G
        rw [← hno] at G2
        refine rk_iinc rfl rfl (n_inc _) rfl ?_
        refine rk_goto rfl rfl ?_
        exact ih (t + 1) _ (by omega) (by omega) F2 H2 S2 G2
      · replace hc54 := Decidable.not_not.mp hc54
        replace hc54 := (bI_0).mp hc54
        have hok : okL N n (nxL N n ((bfT (nxL N n) (okL N n) B k t).st k) t) = true := okL_t.mpr (hbad.trans (Decidable.not_not.mp hc54))
        have hT1 := bfT_ok (nx := nxL N n) (ok := okL N n) (B := B) (k := k) (t := t) hok
        refine rk_aload_n rfl rfl ?_
        refine rk_get rfl (by first | assumption | exact S3.obj.choose_spec) rfl ?_
        refine rk_aload_n rfl rfl ?_
        refine rk_cv0e rfl rfl (by first | assumption | exact S3.obj.choose_spec) rfl rfl (Nat.le_of_ble_eq_true rfl) (Nat.le_of_ble_eq_true rfl) (s15 hn e33 A2 hy14) ?_
        refine rk_iload rfl rfl ?_
        refine rk_iload rfl rfl ?_
        refine rk_cv3i rfl rfl (by first | assumption | exact S3.obj.choose_spec) rfl rfl (Nat.le_of_ble_eq_true rfl) (Nat.le_of_ble_eq_true rfl) (s101B S1 hBt.1 (by omega) (by omega) (by omega) (by omega)) (fun w h1 hF => ?_)
        obtain ⟨rfl, F3, S3⟩ := hF
        have F2 := (F.l F1).s F3
        refine rk_if_eq rfl rfl (fun hc62 => ?_) (fun hc62 => ?_)
        · replace hc62 := (bI_0).mp hc62
          have H2 : ShI h1 35 3 := ⟨_, ((F3.2 35 (by omega) (by omega)).trans A2.choose_spec.1)⟩
          have S2 := S3
          have G2 := bfA_all (x := (nxL N n ((bfT (nxL N n) (okL N n) B k t).st k) t)) (k := k) (t := t) (P := fun y => ¬ glL n r y = true) G (fun z => absurd z hc62)
          rw [show pack (fun j => pl N (dgt ((bfT (nxL N n) (okL N n) B k t).st k) j) t) n = (nxL N n ((bfT (nxL N n) (okL N n) B k t).st k) t) from rfl, ← hT1] at S2
          rw [← hT1] at G2
          refine rk_iinc rfl rfl (n_inc _) rfl ?_
          refine rk_goto rfl rfl ?_
          exact ih (t + 1) _ (by omega) (by omega) F2 H2 S2 G2
        · replace hc62 := Decidable.not_not.mp (mt bI_0.mpr hc62)
          have hI1 : BI (nxL N n) (okL N n) (N 1) x (bfA (bfT (nxL N n) (okL N n) B k t) (nxL N n ((bfT (nxL N n) (okL N n) B k t).st k) t) k t) := by
            have := hBt.step (t := t) hkt (by omega)
            rwa [bfS, if_pos hok] at this
          have C4 : CH h1 3 N := C3.fr (fun q _ _ => F3.2 q (by omega) (by omega))
          have f33 := (F3.2 33 (by omega) (by omega)).trans e33
          have A4 := A2.fr (F3.2 35 (by omega) (by omega))
          have R3 : RouteAt h1 15 n0 f0 := R.fr (fun q _ _ => F2.2 q (by omega) (by omega) (by omega))
          refine rk_aload_n rfl rfl ?_
          refine rk_iload_n rfl rfl ?_
          refine rk_cv1e rfl rfl (by first | assumption | exact S3.obj.choose_spec) rfl rfl (Nat.le_of_ble_eq_true rfl) (Nat.le_of_ble_eq_true rfl) (s18 hn hN C4 f33 A4 hyv (by omega)) ?_
          refine rk_if_eq rfl rfl (fun hc66 => ?_) (fun hc66 => ?_)
          · replace hc66 := (bI_0).mp hc66
            have H2 : ShI h1 35 3 := ⟨_, A4.choose_spec.1⟩
            have S2 := S3
            have G2 := bfA_all (x := (nxL N n ((bfT (nxL N n) (okL N n) B k t).st k) t)) (k := k) (t := t) (P := fun y => ¬ glL n r y = true) G (fun _ z => hc66 (fun i hi => by rw [← hdg i hi]; exact glL_t.mp z i hi))
            rw [show pack (fun j => pl N (dgt ((bfT (nxL N n) (okL N n) B k t).st k) j) t) n = (nxL N n ((bfT (nxL N n) (okL N n) B k t).st k) t) from rfl, ← hT1] at S2
            rw [← hT1] at G2
            refine rk_iinc rfl rfl (n_inc _) rfl ?_
            refine rk_goto rfl rfl ?_
            exact ih (t + 1) _ (by omega) (by omega) F2 H2 S2 G2
          · replace hc66 := Decidable.not_not.mp (mt bI_0.mpr hc66)
            refine rk_aload_n rfl rfl ?_
            refine rk_get rfl (by first | assumption | exact S3.obj.choose_spec) rfl ?_
            refine rk_aload_n rfl rfl ?_
            refine rk_cv1i rfl rfl (by first | assumption | exact S3.obj.choose_spec) rfl rfl (Nat.le_of_ble_eq_true rfl) (Nat.le_of_ble_eq_true rfl) (s102G S3 hI1 (by omega) (by omega) (by omega) R3) (fun w h1 hF => ?_)
            obtain ⟨rfl, F5, S5, z3⟩ := hF
            obtain ⟨y1, y2, y3⟩ := bfA_new (k := k) (t := t) hc62
            refine rk_ireturn rfl rfl (z2 _ _ _ ?_ hI1 ?_ ?_ (F2.kq F5) S5 rfl ?_)
            · rw [← hT1]
              have := bfT_mono (nxL N n) (okL N n) B k (t + 1) (N 1 - (t + 1))
              rwa [show t + 1 + (N 1 - (t + 1)) = N 1 by omega] at this
            · rw [show (bfA (bfT (nxL N n) (okL N n) B k t) (nxL N n ((bfT (nxL N n) (okL N n) B k t).st k) t) k t).m = _ from y1, Nat.add_sub_cancel, show (bfA (bfT (nxL N n) (okL N n) B k t) (nxL N n ((bfT (nxL N n) (okL N n) B k t).st k) t) k t).st _ = _ from y2]
              exact glL_t.mpr (fun i hi => (hdg i hi).trans (hc66 i hi))
            · intro i hi
              rw [show (bfA (bfT (nxL N n) (okL N n) B k t) (nxL N n ((bfT (nxL N n) (okL N n) B k t).st k) t) k t).m = _ from y1, Nat.add_sub_cancel] at hi
              rw [show (bfA (bfT (nxL N n) (okL N n) B k t) (nxL N n ((bfT (nxL N n) (okL N n) B k t).st k) t) k t).st i = _ from y3 i hi]
              exact G i hi
            · rw [F2.2 15 (by omega) (by omega) (by omega), F2.2 16 (by omega) (by omega) (by omega)] at z3
              exact z3
theorem l13 {X : ai_X} {h : ai_H} {N : Nat → Nat} {n : Nat} {n0 : Int32} {f0 : Nat → Int32} {p x r : Nat} {bits : Int32} (hn : N23 n) (hN : HN N) (C : CH h 3 N) (d33 : h[33]? = some (cCo (nI n))) (A0 : ShI h 35 3) (R : RouteAt h 15 n0 f0) (hp : 80 ≤ p) (hx : vL N n x) (hr : r < N 0) : ∀ (d : Nat) (k : Nat) (g : ai_H) (c5 : Option Value), 2744 < k + d → (k ≤ (bfK (nxL N n) (okL N n) (N 1) x k).m) → (k ≤ 2744) → (FrL p h g) → (ShI g 35 3) → (SB g 22 p 16384 16384 (bfK (nxL N n) (okL N n) (N 1) x k)) → ((∀ i, i < (bfK (nxL N n) (okL N n) (N 1) x k).m → ¬ glL n r ((bfK (nxL N n) (okL N n) (N 1) x k).st i) = true)) → Rk X am_13 30 [some (.ref 33), some (.int bits), some (.int (nI r)), some (.ref 15), some (.int (nI k)), c5] [] g (Qi (fun w h1 => FrK p h h1 ∧ SrchAt h1 22 16384 16384 (some p) ∧ CF h h1 w (bfK (nxL N n) (okL N n) (N 1) x 2744) (glL n r))) := by
  intro d
  induction d with
  | zero => intro k g c5 hd hk hk2 F A1 S G; exfalso; omega
  | succ d ih =>
    intro k g c5 hd hk hk2 F A1 S G
    have C2 : CH g 3 N := C.fr (fun q _ _ => F.2 q (by omega) (by omega) (by omega))
    have e3 := C2.1
    have e33 := (F.2 33 (by omega) (by omega) (by omega)).trans d33
    obtain ⟨base, e22⟩ := S.obj
    have h6 := hN.t
    have h14 := hN.n
    have hpw := pow14 hn
    have hBk := BI.heads (nx := nxL N n) (ok := okL N n) (T := N 1) (x := x) k
    obtain ⟨hst, hm16⟩ := lead_bd hN hn hx hBk
    refine rk_iload rfl rfl ?_
    refine rk_sipush (v := nI 2744) rfl (by decide) ?_
    refine rk_icmp_ge rfl rfl (fun hc32 => ?_) (fun hc32 => ?_)
    · replace hc32 := (nI_leI (by omega) (by omega)).mp hc32
      refine rk_iconst (v := (-1)) rfl (by decide) ?_
      refine rk_ireturn rfl rfl ⟨_, _, rfl, F.k, S.at', ?_⟩
      rw [bfK_end (k := k) (W := 2744) (by omega) (by omega)]
      exact CF.none G (F.2 15 (by omega) (by omega) (by omega)) (F.2 16 (by omega) (by omega) (by omega))
    · replace hc32 := mt (nI_leI (by omega) (by omega)).mpr hc32
      refine rk_iload rfl rfl ?_
      refine rk_aload_n rfl rfl ?_
      refine rk_get rfl (by assumption) rfl ?_
      refine rk_cv0e rfl rfl (by assumption) rfl rfl (Nat.le_of_ble_eq_true rfl) (Nat.le_of_ble_eq_true rfl) (s97B S) ?_
      refine rk_icmp_ge rfl rfl (fun hc37 => ?_) (fun hc37 => ?_)
      · replace hc37 := (nI_leI (by omega) (by omega)).mp hc37
        refine rk_iconst (v := (-1)) rfl (by decide) ?_
        refine rk_ireturn rfl rfl ⟨_, _, rfl, F.k, S.at', ?_⟩
        rw [bfK_end (k := k) (W := 2744) (by omega) (by omega)]
        exact CF.none G (F.2 15 (by omega) (by omega) (by omega)) (F.2 16 (by omega) (by omega) (by omega))
      · replace hc37 := mt (nI_leI (by omega) (by omega)).mpr hc37
        refine rk_iconst (v := nI 0) rfl (by decide) ?_
        refine rk_istore rfl (Nat.le_of_ble_eq_true rfl) rfl ?_
        refine l13i (B := (bfK (nxL N n) (okL N n) (N 1) x k)) (h := h) hn hN C d33 A0 R hp hx hr hBk (by omega) ?_ ?_ (N 1 + 1) 0 g (by omega) (by omega) F A1 S G
        · intro g2 F2 H2 S2 G2
          rw [← bfK_s (by omega)] at S2 G2
          refine rk_iinc rfl rfl (n_inc _) rfl ?_
          refine rk_goto rfl rfl ?_
          exact ih (k + 1) g2 _ (by omega) (by have := (bfK_1 (nxL N n) (okL N n) (N 1) x k).1; omega) (by omega) F2 H2 S2 G2
        · intro B1 w h1 P1 H1 g1 g2 F3 S3 hw z3
          rw [← bfK_s (by omega)] at P1
          exact ⟨_, _, rfl, F3, S3, CF.found (P1.tr (bfK_pre (by omega))) H1 (by have := H1.1; omega) g1 g2 hw z3⟩
theorem r13 {X : ai_X} {h : ai_H} {N : Nat → Nat} {n : Nat} {n0 : Int32} {f0 : Nat → Int32} {p x r : Nat} {bits : Int32} (hn : N23 n) (hN : HN N) (C : CH h 3 N) (d33 : h[33]? = some (cCo (nI n))) (R : RouteAt h 15 n0 f0) (hp : 80 ≤ p) (hx : vL N n x) (hr : r < N 0) {y : Nat → Nat} (E : SE h 22 p 16384 16384) (A : AN h 35 3 n y) (hy : ∀ i, i < n → y i < N 0) (hxy : x = pack y n) : Rk X am_13 11 [some (.ref 33), some (.int bits), some (.int (nI r)), some (.ref 15), none, none] [] h (Qi (fun w h1 => FrK p h h1 ∧ SrchAt h1 22 16384 16384 (some p) ∧ CF h h1 w (bfK (nxL N n) (okL N n) (N 1) x 2744) (glL n r))) := by
  obtain ⟨base, e22⟩ := E.obj
  have h14 := hN.n
  have h6 := hN.t
  have hpw := pow14 hn
  have hx2 := hx.2
  have hy14 : ∀ i, i < n → y i < 14 := fun i hi => by have := hy i hi; omega
  have hdg : ∀ i, i < n → dgt x i = y i := by rw [hxy]; exact dgt_pack hn hy14
  have A0 : ShI h 35 3 := ⟨_, A.choose_spec.1⟩
  refine rk_aload_n rfl rfl ?_
  refine rk_get rfl (by first | assumption | exact S1.obj.choose_spec) rfl ?_
  refine rk_aload_n rfl rfl ?_
  refine rk_cv0e rfl rfl (by first | assumption | exact S1.obj.choose_spec) rfl rfl (Nat.le_of_ble_eq_true rfl) (Nat.le_of_ble_eq_true rfl) (s15 hn d33 A hy14) ?_
  rw [← hxy]
  refine rk_iconst (v := (-1)) rfl (by decide) ?_
  refine rk_iconst (v := nI 0) rfl (by decide) ?_
  refine rk_cv3i rfl rfl (by first | assumption | exact S1.obj.choose_spec) rfl rfl (Nat.le_of_ble_eq_true rfl) (Nat.le_of_ble_eq_true rfl) (s101R E (by omega) (by omega)) (fun w h1 hF => ?_)
  obtain ⟨rfl, F1, S1⟩ := hF
  have e33 := (F1.2 33 (by omega) (by omega)).trans d33
  have C2 : CH h1 3 N := C.fr (fun q _ _ => F1.2 q (by omega) (by omega))
  have A2 := A.fr (F1.2 35 (by omega) (by omega))
  have hB0 := BI.zero (nx := nxL N n) (ok := okL N n) (T := N 1) (x := x)
  refine rk_pop rfl ?_
  refine rk_aload_n rfl rfl ?_
  refine rk_iload_n rfl rfl ?_
  refine rk_cv1e rfl rfl (by first | assumption | exact S1.obj.choose_spec) rfl rfl (Nat.le_of_ble_eq_true rfl) (Nat.le_of_ble_eq_true rfl) (s18 hn hN C2 e33 A2 hy (by omega)) ?_
  refine rk_if_eq rfl rfl (fun hc22 => ?_) (fun hc22 => ?_)
  · replace hc22 := (bI_0).mp hc22
    refine rk_iconst (v := nI 0) rfl (by decide) ?_
    refine rk_istore rfl (Nat.le_of_ble_eq_true rfl) rfl ?_
    refine (l13 hn hN C d33 A0 R hp hx hr 2745 0 _ none (by omega) (by omega) (by omega) (FrL.rfl'.s F1) ⟨_, A2.choose_spec.1⟩ S1 (fun i hi => ?_))
    have hi' : i < 1 := hi
    exact fun z => hc22 (fun i hi => (hdg i hi).symm.trans (glL_t.mp z i hi))
  · replace hc22 := Decidable.not_not.mp (mt bI_0.mpr hc22)
    refine rk_aload_n rfl rfl ?_
    refine rk_get rfl (by first | assumption | exact S1.obj.choose_spec) rfl ?_
    refine rk_aload_n rfl rfl ?_
    refine rk_cv1i rfl rfl (by first | assumption | exact S1.obj.choose_spec) rfl rfl (Nat.le_of_ble_eq_true rfl) (Nat.le_of_ble_eq_true rfl) (s102F S1 hB0 (by omega) (by omega) (by omega) F1 R) (fun w h1 hF => ?_)
    obtain ⟨rfl, F3, S3, z3⟩ := hF
    exact rk_ireturn rfl rfl ⟨_, _, rfl, ⟨F3.1, fun q a b c _ f => F3.2 q a b c f⟩, S3, CF.found (k := 0) (bfK_pre (k := 0) (by omega)) hB0 (by show 0 < 1; omega) (glL_t.mpr (fun i hi => (hdg i hi).trans (hc22 i hi))) (fun i hi => absurd hi (by omega)) rfl z3⟩
