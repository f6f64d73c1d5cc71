/-! PAIRED: the model, the obligation -/
def FrPd (h h1 : ai_H) : Prop := h1.length = h.length ∧ ∀ q : Nat, q ≠ 52 → q ≠ 53 → ¬ (57 ≤ q ∧ q < 64) → h1[q]? = h[q]?
theorem FrPd.rfl' {h : ai_H} : FrPd h h := ⟨rfl, fun _ _ _ _ => rfl⟩
theorem FrPd.m {h h1 h2 : ai_H} (a : FrPd h h1) (b : FrM h1 h2) : FrPd h h2 := ⟨b.1.trans a.1, fun q x y z => (b.2 q x (by omega)).trans (a.2 q x y z)⟩
theorem FrPd.f {h h1 h2 : ai_H} {i j : Nat} (a : FrPd h h1) (b : Fr i j h1 h2) (hi : 63 ≤ i ∨ 53 ≤ i ∧ j ≤ 54) (hj : j ≤ 64) : FrPd h h2 := ⟨b.1.trans a.1, fun q x y z => (b.2 q (by omega)).trans (a.2 q x y z)⟩
theorem MR.fr {h h1 : ai_H} {w : Nat → Int32} {mk : Nat} (K : ∀ q : Nat, q = 52 ∨ (57 ≤ q ∧ q < 63) → h1[q]? = h[q]?) (H : MR h w mk) : MR h1 w mk := by
  obtain ⟨a, v1, b0, b1, b2, b3, b4, sm, b5, b6⟩ := H
  have e := (K 52 (by omega)).trans b0
  exact ⟨a.fr (fun q _ _ => K q (by omega)) b0 e rfl, v1, e, b1, b2, b3, b4, sm, (K 62 (by omega)).trans b5, b6⟩
def bA (st : Nat) : Int32 := if st = 0 then -1 else nI ((st - 1) / 14)
def bB (st : Nat) : Int32 := if st = 0 then -1 else nI ((st - 1) % 14)
def bLp (N : Nat → Nat) (st : Nat) : Int32 := if st = 0 then nI 0 else nI (pdn N (st - 1))
theorem bA_m1 {st : Nat} (h : st < 2 ^ 30) : bA st = -1 ↔ st = 0 := by
  constructor
  · intro z
    apply Decidable.byContradiction
    intro y
    rw [bA, if_neg y] at z
    exact nm_eq (by omega) z
  · intro z
    rw [bA, if_pos z]
theorem l245b {X : ai_X} {h : ai_H} {w A : Nat → Int32} {N : Nat → Nat} {S : Nat} (c53 : h[53]? = some (cI 2346 A)) (hN : HN N) (M : MH A N) (hS : S < 16384) {mx a : Nat} (hmx : mx < 2 ^ 28) {m0 : Nat} (hm0 : m0 + 200 ≤ mx) (ha : a < N 0) {c1 : Option Value} {y3 : Int32} {P : ai_O → Prop} (z : ∀ g m c8 c9, FrM h g → MR g w m → m ≤ m0 + 14 * (a + 1) → Rk X am_245 81 [some (.ref 52), c1, some (.int (nI S)), some (.int y3), some (.int (bA (nall N S (a + 1)))), some (.int (bB (nall N S (a + 1)))), some (.int (bLp N (nall N S (a + 1)))), some (.int (nI a)), c8, c9] [] g P) : ∀ (d : Nat) (k : Nat) (g : ai_H) (m : Nat) (c9 : Option Value), N 0 < a + 1 + k + d → (a + 1 + k ≤ N 0) → (FrM h g) → (MR g w m) → (m ≤ m0 + 14 * a + k) → Rk X am_245 35 [some (.ref 52), c1, some (.int (nI S)), some (.int y3), some (.int (bA (nrow N S (nall N S a) a k))), some (.int (bB (nrow N S (nall N S a) a k))), some (.int (bLp N (nrow N S (nall N S a) a k))), some (.int (nI a)), some (.int (nI (a + 1 + k))), c9] [] g (P) := by
  intro d
  induction d with
  | zero => intro k g m c9 hd hk F H hm; exfalso; omega
  | succ d ih =>
    intro k g m c9 hd hk F H hm
    obtain ⟨a0, a1, a268, a269, a270, a271, apl, apc, aot, asg, awt⟩ := id M
    have hn := hN.n
    obtain ⟨v, e52, -⟩ := H.obj
    have e53 := (F.2 53 (by omega) (by omega)).trans c53
    have hnv : nV N (nrow N S (nall N S a) a k) := nrow_v hn ha (nall_v hn a (by omega)) k (by omega)
    have hnp : nPp N S (nrow N S (nall N S a) a k) := nrow_p hn (nall_p hn a (by omega)) k (by omega)
    refine rk_iload rfl rfl ?_
    refine rk_aload_n rfl rfl ?_
    refine rk_get rfl (by assumption) rfl ?_
    refine rk_iconst (v := nI 0) rfl (by decide) ?_
    refine rk_iald rfl (by assumption) (rfl) (by omega) (by decide) ?_
    rw [a0]
    refine rk_icmp_ge rfl rfl (fun hc40 => ?_) (fun hc40 => ?_)
    · replace hc40 := (nI_leI (by omega) (by omega)).mp hc40
      have hk2 : k = N 0 - (a + 1) := by omega
      subst hk2
      exact z g m _ _ F H (by omega)
    · replace hc40 := mt (nI_leI (by omega) (by omega)).mpr hc40
      refine rk_iload_n rfl rfl ?_
      refine rk_iload rfl rfl ?_
      refine rk_ishr rfl (b_shr (by omega) (by omega)) ?_
      refine rk_iconst (v := nI 1) rfl (by decide) ?_
      refine rk_iand rfl (b_and1U _) ?_
      refine rk_if_eq rfl rfl (fun hc46 => ?_) (fun hc46 => ?_)
      · replace hc46 := (n0_eq (by omega)).mp hc46
        have hbit : ¬ (S / 2 ^ a % 2 = 1 ∧ S / 2 ^ (a + 1 + k) % 2 = 1) := fun y => by omega
        refine rk_iinc rfl rfl (n_inc _) rfl ?_
        refine rk_goto rfl rfl ?_
        have hs2 : (nrow N S (nall N S a) a (k + 1)) = (nrow N S (nall N S a) a k) := if_neg (by first | exact fun y => hbit y.1 | exact fun y => y.2.1 z2 | exact fun y => hbest y.2.2)
        have zz := ih (k + 1) _ m c9 (by omega) (by omega) F H (by omega)
        rw [hs2] at zz
        exact zz
      · replace hc46 := mt (n0_eq (by omega)).mpr hc46
        refine rk_iload_n rfl rfl ?_
        refine rk_iload rfl rfl ?_
        refine rk_ishr rfl (b_shr (by omega) (by omega)) ?_
        refine rk_iconst (v := nI 1) rfl (by decide) ?_
        refine rk_iand rfl (b_and1U _) ?_
        refine rk_if_ne rfl rfl (fun hc52 => ?_) (fun hc52 => ?_)
        · replace hc52 := mt (n0_eq (by omega)).mpr hc52
          have hbit : S / 2 ^ a % 2 = 1 ∧ S / 2 ^ (a + 1 + k) % 2 = 1 := by omega
          refine rk_aload_n rfl rfl ?_
          refine rk_iload rfl rfl ?_
          refine rk_iload rfl rfl ?_
          refine rk_cv2i rfl rfl (by assumption) rfl rfl (Nat.le_of_ble_eq_true rfl) (Nat.le_of_ble_eq_true rfl) (s241E e53 hN M ha (show a + 1 + k < N 0 by omega) H (by omega)) (fun w h1 hF => ?_)
          obtain ⟨F1, H1, z1⟩ := hF
          obtain ⟨v1, f52, -⟩ := H1.obj
          clear e52 e53
          refine rk_istore rfl (Nat.le_of_ble_eq_true rfl) rfl ?_
          rcases z1 with ⟨rfl, z2⟩ | ⟨kk, B, rfl, zk1, zPre, zBI, zk, ⟨w1, zw, zMB⟩, z6, z7, z8, z9⟩
          · refine rk_iload rfl rfl ?_
            refine rk_iconst (v := (-1)) rfl (by decide) ?_
            refine rk_icmp_eq rfl rfl (fun hc61 => ?_) (fun hc61 => ?_)
            · refine rk_iinc rfl rfl (n_inc _) rfl ?_
              refine rk_goto rfl rfl ?_
              have hs2 : (nrow N S (nall N S a) a (k + 1)) = (nrow N S (nall N S a) a k) := if_neg (by first | exact fun y => hbit y.1 | exact fun y => y.2.1 z2 | exact fun y => hbest y.2.2)
              have zz := ih (k + 1) _ (m + 1) (some (.int (-1))) (by omega) (by omega) (F.tr F1) H1 (by omega)
              rw [hs2] at zz
              exact zz
            · exact absurd rfl hc61
          replace z6 : eM N (a * 14 + (a + 1 + k)) = nI (dep B.pa kk) := z6
          refine rk_iload rfl rfl ?_
          refine rk_iconst (v := (-1)) rfl (by decide) ?_
          refine rk_icmp_eq rfl rfl (fun hc61 => ?_) (fun hc61 => ?_)
          · exact absurd hc61 (nm_eq (by omega))
          · refine rk_iload rfl rfl ?_
            refine rk_iconst (v := (-1)) rfl (by decide) ?_
            refine rk_icmp_eq rfl rfl (fun hc64 => ?_) (fun hc64 => ?_)
            · have hbest : (nrow N S (nall N S a) a k) = 0 ∨ eM N (a * 14 + (a + 1 + k)) < eM N ((nrow N S (nall N S a) a k) - 1) := Or.inl ((bA_m1 (by omega)).mp hc64)
              refine rk_iload rfl rfl ?_
              refine rk_istore rfl (Nat.le_of_ble_eq_true rfl) rfl ?_
              refine rk_iload rfl rfl ?_
              refine rk_istore rfl (Nat.le_of_ble_eq_true rfl) rfl ?_
              refine rk_aload_n rfl rfl ?_
              refine rk_iload rfl rfl ?_
              refine rk_cv1e rfl rfl (by assumption) rfl rfl (Nat.le_of_ble_eq_true rfl) (Nat.le_of_ble_eq_true rfl) (s242 zMB zBI zk) ?_
              refine rk_istore rfl (Nat.le_of_ble_eq_true rfl) rfl ?_
              refine rk_iinc rfl rfl (n_inc _) rfl ?_
              refine rk_goto rfl rfl ?_
              first
                | (have hs2 : (nrow N S (nall N S a) a (k + 1)) = a * 14 + (a + 1 + k) + 1 := if_pos ⟨hbit, by rw [z6]; exact nm_eq (by omega), hbest⟩
                   have hA' : bA (a * 14 + (a + 1 + k) + 1) = nI a := by rw [bA, if_neg (by omega), show (a * 14 + (a + 1 + k) + 1 - 1) / 14 = a by omega]
                   have hB' : bB (a * 14 + (a + 1 + k) + 1) = nI (a + 1 + k) := by rw [bB, if_neg (by omega), show (a * 14 + (a + 1 + k) + 1 - 1) % 14 = a + 1 + k by omega]
                   have hL' : bLp N (a * 14 + (a + 1 + k) + 1) = nI (dep B.pa kk) := by
                     rw [bLp, if_neg (by omega), show a * 14 + (a + 1 + k) + 1 - 1 = a * 14 + (a + 1 + k) by omega]
                     show nI (eM N (a * 14 + (a + 1 + k))).toNatClampNeg = _
                     rw [z6, nI_clamp (by omega)]
                   have zz := ih (k + 1) h1 (m + 1) (some (.int (nI kk))) (by omega) (by omega) (F.tr F1) H1 (by omega)
                   rw [hs2, hA', hB', hL'] at zz
                   exact zz)
                | (have hs2 : (nrow N S (nall N S a) a (k + 1)) = (nrow N S (nall N S a) a k) := if_neg (fun y => hbest y.2.2)
                   have zz := ih (k + 1) h1 (m + 1) (some (.int (nI kk))) (by omega) (by omega) (F.tr F1) H1 (by omega)
                   rw [hs2] at zz
                   exact zz)
            · have h0 : ¬ (nrow N S (nall N S a) a k) = 0 := fun y => hc64 ((bA_m1 (by omega)).mpr y)
              obtain ⟨pd1, pd2, pd3⟩ := pdn_ok hN h0 hnv hnp
              have hbl : bLp N (nrow N S (nall N S a) a k) = nI (pdn N ((nrow N S (nall N S a) a k) - 1)) := if_neg h0
              rw [hbl]
              refine rk_aload_n rfl rfl ?_
              refine rk_iload rfl rfl ?_
              refine rk_cv1e rfl rfl (by assumption) rfl rfl (Nat.le_of_ble_eq_true rfl) (Nat.le_of_ble_eq_true rfl) (s242 zMB zBI zk) ?_
              refine rk_iload rfl rfl ?_
              refine rk_icmp_lt rfl rfl (fun hc69 => ?_) (fun hc69 => ?_)
              · replace hc69 := (nI_ltI (by omega) (by omega)).mp hc69
                have hbest : (nrow N S (nall N S a) a k) = 0 ∨ eM N (a * 14 + (a + 1 + k)) < eM N ((nrow N S (nall N S a) a k) - 1) := Or.inr (by rw [pd3, z6]; exact (nI_ltI (by omega) (by omega)).mpr hc69)
                refine rk_iload rfl rfl ?_
                refine rk_istore rfl (Nat.le_of_ble_eq_true rfl) rfl ?_
                refine rk_iload rfl rfl ?_
                refine rk_istore rfl (Nat.le_of_ble_eq_true rfl) rfl ?_
                refine rk_aload_n rfl rfl ?_
                refine rk_iload rfl rfl ?_
                refine rk_cv1e rfl rfl (by assumption) rfl rfl (Nat.le_of_ble_eq_true rfl) (Nat.le_of_ble_eq_true rfl) (s242 zMB zBI zk) ?_
                refine rk_istore rfl (Nat.le_of_ble_eq_true rfl) rfl ?_
                refine rk_iinc rfl rfl (n_inc _) rfl ?_
                refine rk_goto rfl rfl ?_
                first
                  | (have hs2 : (nrow N S (nall N S a) a (k + 1)) = a * 14 + (a + 1 + k) + 1 := if_pos ⟨hbit, by rw [z6]; exact nm_eq (by omega), hbest⟩
                     have hA' : bA (a * 14 + (a + 1 + k) + 1) = nI a := by rw [bA, if_neg (by omega), show (a * 14 + (a + 1 + k) + 1 - 1) / 14 = a by omega]
                     have hB' : bB (a * 14 + (a + 1 + k) + 1) = nI (a + 1 + k) := by rw [bB, if_neg (by omega), show (a * 14 + (a + 1 + k) + 1 - 1) % 14 = a + 1 + k by omega]
                     have hL' : bLp N (a * 14 + (a + 1 + k) + 1) = nI (dep B.pa kk) := by
                       rw [bLp, if_neg (by omega), show a * 14 + (a + 1 + k) + 1 - 1 = a * 14 + (a + 1 + k) by omega]
                       show nI (eM N (a * 14 + (a + 1 + k))).toNatClampNeg = _
                       rw [z6, nI_clamp (by omega)]
                     have zz := ih (k + 1) h1 (m + 1) (some (.int (nI kk))) (by omega) (by omega) (F.tr F1) H1 (by omega)
                     rw [hs2, hA', hB', hL'] at zz
                     exact zz)
                  | (have hs2 : (nrow N S (nall N S a) a (k + 1)) = (nrow N S (nall N S a) a k) := if_neg (fun y => hbest y.2.2)
                     have zz := ih (k + 1) h1 (m + 1) (some (.int (nI kk))) (by omega) (by omega) (F.tr F1) H1 (by omega)
                     rw [hs2] at zz
                     exact zz)
              · replace hc69 := mt (nI_ltI (by omega) (by omega)).mpr hc69
                have hbest : ¬ ((nrow N S (nall N S a) a k) = 0 ∨ eM N (a * 14 + (a + 1 + k)) < eM N ((nrow N S (nall N S a) a k) - 1)) := fun y => by
                  rcases y with y | y
                  · exact h0 y
                  · rw [pd3, z6] at y
                    exact hc69 ((nI_ltI (by omega) (by omega)).mp y)
                rw [← hbl]
                refine rk_goto rfl rfl ?_
                refine rk_iinc rfl rfl (n_inc _) rfl ?_
                refine rk_goto rfl rfl ?_
                first
                  | (have hs2 : (nrow N S (nall N S a) a (k + 1)) = a * 14 + (a + 1 + k) + 1 := if_pos ⟨hbit, by rw [z6]; exact nm_eq (by omega), hbest⟩
                     have hA' : bA (a * 14 + (a + 1 + k) + 1) = nI a := by rw [bA, if_neg (by omega), show (a * 14 + (a + 1 + k) + 1 - 1) / 14 = a by omega]
                     have hB' : bB (a * 14 + (a + 1 + k) + 1) = nI (a + 1 + k) := by rw [bB, if_neg (by omega), show (a * 14 + (a + 1 + k) + 1 - 1) % 14 = a + 1 + k by omega]
                     have hL' : bLp N (a * 14 + (a + 1 + k) + 1) = nI (dep B.pa kk) := by
                       rw [bLp, if_neg (by omega), show a * 14 + (a + 1 + k) + 1 - 1 = a * 14 + (a + 1 + k) by omega]
                       show nI (eM N (a * 14 + (a + 1 + k))).toNatClampNeg = _
                       rw [z6, nI_clamp (by omega)]
                     have zz := ih (k + 1) h1 (m + 1) (some (.int (nI kk))) (by omega) (by omega) (F.tr F1) H1 (by omega)
                     rw [hs2, hA', hB', hL'] at zz
                     exact zz)
                  | (have hs2 : (nrow N S (nall N S a) a (k + 1)) = (nrow N S (nall N S a) a k) := if_neg (fun y => hbest y.2.2)
                     have zz := ih (k + 1) h1 (m + 1) (some (.int (nI kk))) (by omega) (by omega) (F.tr F1) H1 (by omega)
                     rw [hs2] at zz
                     exact zz)
        · replace hc52 := Decidable.not_not.mp hc52
          replace hc52 := (n0_eq (by omega)).mp hc52
          have hbit : ¬ (S / 2 ^ a % 2 = 1 ∧ S / 2 ^ (a + 1 + k) % 2 = 1) := fun y => by omega
          refine rk_goto rfl rfl ?_
          refine rk_iinc rfl rfl (n_inc _) rfl ?_
          refine rk_goto rfl rfl ?_
          have hs2 : (nrow N S (nall N S a) a (k + 1)) = (nrow N S (nall N S a) a k) := if_neg (by first | exact fun y => hbit y.1 | exact fun y => y.2.1 z2 | exact fun y => hbest y.2.2)
          have zz := ih (k + 1) _ m c9 (by omega) (by omega) F H (by omega)
          rw [hs2] at zz
          exact zz
theorem l245a {X : ai_X} {h : ai_H} {w A : Nat → Int32} {N : Nat → Nat} {S : Nat} (c53 : h[53]? = some (cI 2346 A)) (hN : HN N) (M : MH A N) (hS : S < 16384) {mx : Nat} (hmx : mx < 2 ^ 28) {m0 : Nat} (hm0 : m0 + 200 ≤ mx) {c1 : Option Value} {y3 : Int32} {P : ai_O → Prop} (z : ∀ g m c7 c8 c9, FrM h g → MR g w m → m ≤ m0 + 196 → Rk X am_245 83 [some (.ref 52), c1, some (.int (nI S)), some (.int y3), some (.int (bA (nall N S (N 0)))), some (.int (bB (nall N S (N 0)))), some (.int (bLp N (nall N S (N 0)))), c7, c8, c9] [] g P) : ∀ (d : Nat) (a : Nat) (g : ai_H) (m : Nat) (c8 c9 : Option Value), N 0 < a + d → (a ≤ N 0) → (FrM h g) → (MR g w m) → (m ≤ m0 + 14 * a) → Rk X am_245 25 [some (.ref 52), c1, some (.int (nI S)), some (.int y3), some (.int (bA (nall N S a))), some (.int (bB (nall N S a))), some (.int (bLp N (nall N S a))), some (.int (nI a)), c8, c9] [] g (P) := by
  intro d
  induction d with
  | zero => intro a g m c8 c9 hd ha F H hm; exfalso; omega
  | succ d ih =>
    intro a g m c8 c9 hd ha F H hm
    obtain ⟨a0, a1, a268, a269, a270, a271, apl, apc, aot, asg, awt⟩ := id M
    have hn := hN.n
    obtain ⟨v, e52, -⟩ := H.obj
    have e53 := (F.2 53 (by omega) (by omega)).trans c53
    refine rk_iload rfl rfl ?_
    refine rk_aload_n rfl rfl ?_
    refine rk_get rfl (by assumption) rfl ?_
    refine rk_iconst (v := nI 0) rfl (by decide) ?_
    refine rk_iald rfl (by assumption) (rfl) (by omega) (by decide) ?_
    rw [a0]
    refine rk_icmp_ge rfl rfl (fun hc30 => ?_) (fun hc30 => ?_)
    · replace hc30 := (nI_leI (by omega) (by omega)).mp hc30
      have ha2 : a = N 0 := by omega
      subst ha2
      exact z g m _ _ _ F H (by omega)
    · replace hc30 := mt (nI_leI (by omega) (by omega)).mpr hc30
      refine rk_iload rfl rfl ?_
      refine rk_iconst (v := nI 1) rfl (by decide) ?_
      refine rk_iadd rfl (nI_add _ _) ?_
      refine rk_istore rfl (Nat.le_of_ble_eq_true rfl) rfl ?_
      refine l245b (h := h) c53 hN M hS hmx hm0 (a := a) (by omega) (fun g2 m2 c8 c9 F2 H2 hm2 => ?_) (N 0 + 1) 0 g m _ (by omega) (by omega) F H (by omega)
      refine rk_iinc rfl rfl (n_inc _) rfl ?_
      refine rk_goto rfl rfl ?_
      exact ih (a + 1) g2 m2 _ _ (by omega) (by omega) F2 H2 (by omega)
theorem l245t {X : ai_X} {h : ai_H} {w : Nat → Int32} {mk T x kk L : Nat} {r1 r2 rw0 : Nat → Nat} {nx : Nat → Nat → Nat} {ok : Nat → Bool} {B : Bf} (S : MB h w mk r1 r2 B) (hI : BI nx ok T x B) (hk : kk < B.m) (hL : L + dep B.pa kk ≤ 500) {c1 c2 c4 c5 c6 : Option Value} {y7 : Int32} {P : ai_O → Prop} (z : ∀ g f (y8 : Int32) c9, Fr 63 64 h g → g[63]? = some (cI 700 f) → (∀ p, p < L → f p = nI (rw0 p)) → (∀ p, p < dep B.pa kk → f (L + p) = nI (rowTo B kk p)) → Rk X am_245 127 [some (.ref 52), c1, c2, some (.int (nI (L + dep B.pa kk))), c4, c5, c6, some (.int y7), some (.int y8), c9] [] g P) : ∀ (d : Nat) (j : Nat) (g : ai_H) (f : Nat → Int32), dep B.pa kk < j + d → (j ≤ dep B.pa kk) → (Fr 63 64 h g) → (g[63]? = some (cI 700 f)) → (∀ p, p < L → f p = nI (rw0 p)) → (∀ p, dep B.pa kk - j ≤ p → p < dep B.pa kk → f (L + p) = nI (rowTo B kk p)) → Rk X am_245 106 [some (.ref 52), c1, c2, some (.int (nI (L + dep B.pa kk))), c4, c5, c6, some (.int y7), some (.int (nI (L + dep B.pa kk - j))), some (.int (nI (anc B.pa kk j)))] [] g (P) := by
  intro d
  induction d with
  | zero => intro j g f hd hj F c63 hf0 hf; exfalso; omega
  | succ d ih =>
    intro j g f hd hj F c63 hf0 hf
    obtain ⟨v, f57, f58, f59, f60, sp, sm, T', -, S', c59, c60, hfr⟩ := id S
    obtain ⟨c0, hv21, hv22, c57, c58, c61, c62, hmk, hmm, hsm, hLP, hst⟩ := id S'
    have hpar := hI.par
    obtain ⟨hj1, hj2⟩ := dep_anc hpar hk j hj
    have hj3 := dep_end hpar hk hj
    have hdl := dep_le hpar kk hk
    have e0 := (F.2 52 (by omega)).trans c0
    have e59 := (F.2 59 (by omega)).trans c59
    have e60 := (F.2 60 (by omega)).trans c60
    clear c0 c59 c60 c57 c58 c61 c62
    refine rk_aload_n rfl rfl ?_
    refine rk_get rfl (by assumption) rfl ?_
    refine rk_iload rfl rfl ?_
    refine rk_iald rfl (by assumption) (rfl) (by omega) (by decide) ?_
    rw [(hfr _ hj1).1]
    refine rk_iconst (v := (-1)) rfl (by decide) ?_
    refine rk_icmp_eq rfl rfl (fun hc111 => ?_) (fun hc111 => ?_)
    · have hk0 : anc B.pa kk j = 0 := Decidable.byContradiction fun y => nm_eq (a := B.pa (anc B.pa kk j)) (by have := hpar _ (by omega) hj1; omega) ((if_neg y).symm.trans hc111)
      have hjd := hj3.mp hk0
      exact z g f _ _ F c63 hf0 (fun p hp => hf p (by omega) hp)
    · have hk0 : ¬ anc B.pa kk j = 0 := fun y => hc111 (if_pos y)
      have hjd : j ≠ dep B.pa kk := fun y => hk0 (hj3.mpr y)
      refine rk_iinc rfl rfl (n_dec (by omega)) rfl ?_
      refine rk_aload_n rfl rfl ?_
      refine rk_get rfl (by assumption) rfl ?_
      refine rk_iload rfl rfl ?_
      refine rk_aload_n rfl rfl ?_
      refine rk_get rfl (by assumption) rfl ?_
      refine rk_iload rfl rfl ?_
      refine rk_iald rfl (by assumption) (rfl) (by omega) (by decide) ?_
      rw [(hfr _ hj1).2 hk0]
      refine rk_iast rfl c63 (rfl) (by omega) (by decide) ?_
      refine hp_gen c63 (fun h1 g1 hk1 hl1 => ?_)
      replace e0 := (hk1 _ (by omega)).trans e0
      replace e59 := (hk1 _ (by omega)).trans e59
      replace e60 := (hk1 _ (by omega)).trans e60
      replace c63 := g1
      refine rk_aload_n rfl rfl ?_
      refine rk_get rfl (by assumption) rfl ?_
      refine rk_iload rfl rfl ?_
      refine rk_iald rfl (by assumption) (rfl) (by omega) (by decide) ?_
      rw [(hfr _ hj1).1, if_neg hk0]
      refine rk_istore rfl (Nat.le_of_ble_eq_true rfl) rfl ?_
      refine rk_goto rfl rfl ?_
      refine ih (j + 1) h1 _ (by omega) (by omega) (F.tr (Fr.mk1 hk1 hl1 (by omega) (by omega))) c63 (fun p hp => ?_) (fun p a1 a2 => ?_)
      · simp only [upd]
        rw [if_neg (by omega)]
        exact hf0 p hp
      · simp only [upd]
        by_cases y : p = dep B.pa kk - j - 1
        · rw [if_pos (by omega), rowTo, show dep B.pa kk - 1 - p = j by omega]
        · rw [if_neg (by omega)]
          exact hf p (by omega) a2
theorem l245i {X : ai_X} {h : ai_H} {v A : Nat → Int32} {N : Nat → Nat} (c0 : h[52]? = some (cMdl v)) (c1 : h[53]? = some (cI 2346 A)) (hN : HN N) (M : MH A N) {s L j : Nat} {gx : Nat → Nat} {f2 : Nat → Int32} (hs : s < 2 ^ N 0) (hL : L + j ≤ 500) (c63 : h[63]? = some (cI 700 f2)) (hy : ∀ i, i < j → f2 (L + i) = nI (gx i)) (hg : ∀ i, i < j → gx i < N 1) {y1 y8 : Int32} {x4 x5 x6 x7 : Option Value} {P : ai_O → Prop} (z : Rk X am_245 144 [some (.ref 52), some (.int y1), some (.int (nI (pis N gx s j))), some (.int (nI (L + j))), x4, x5, x6, x7, some (.int y8), some (.int (nI (L + j)))] [] h P) : ∀ (d : Nat) (k : Nat), j < k + d → (k ≤ j) → Rk X am_245 131 [some (.ref 52), some (.int y1), some (.int (nI (pis N gx s k))), some (.int (nI (L + j))), x4, x5, x6, x7, some (.int y8), some (.int (nI (L + k)))] [] h (P) := by
  intro d
  induction d with
  | zero => intro k hd hk; exfalso; omega
  | succ d ih =>
    intro k hd hk
    have hn := hN.p14
    have hsk : pis N gx s k < 2 ^ N 0 := pis_lt hN hs k (fun i hi => hg i (by omega))
    refine rk_iload rfl rfl ?_
    refine rk_iload_n rfl rfl ?_
    refine rk_icmp_ge rfl rfl (fun hc133 => ?_) (fun hc133 => ?_)
    · replace hc133 := (nI_leI (by omega) (by omega)).mp hc133
      have hk2 : k = j := by omega
      subst hk2
      exact z
    · replace hc133 := mt (nI_leI (by omega) (by omega)).mpr hc133
      refine rk_aload_n rfl rfl ?_
      refine rk_iload_n rfl rfl ?_
      refine rk_aload_n rfl rfl ?_
      refine rk_get rfl (by assumption) rfl ?_
      refine rk_iload rfl rfl ?_
      refine rk_iald rfl (by assumption) (rfl) (by omega) (by decide) ?_
      rw [hy k (by omega)]
      refine rk_cv2e rfl rfl (by assumption) rfl rfl (Nat.le_of_ble_eq_true rfl) (Nat.le_of_ble_eq_true rfl) (s212 c0 c1 hN M (by omega) (hg k (by omega))) ?_
      refine rk_istore_n rfl (Nat.le_of_ble_eq_true rfl) rfl ?_
      refine rk_iinc rfl rfl (n_inc _) rfl ?_
      refine rk_goto rfl rfl ?_
      exact ih (k + 1) (by omega) (by omega)
theorem l245f {X : ai_X} {h : ai_H} {v A f2 : Nat → Int32} {L : Nat} {r : Nat → Nat} (c0 : h[52]? = some (cMdl v)) (c63 : h[63]? = some (cI 700 f2)) (hL : L ≤ 500) (hf : ∀ p, p < L → f2 p = nI (r p)) {x1 x2 x5 x6 x7 x8 x9 : Option Value} : ∀ (d : Nat) (k : Nat) (g : ai_H) (A1 : Nat → Int32), L < k + d → (k ≤ L) → (Fr 53 54 h g) → (g[53]? = some (cI 2346 A1)) → (A1 281 = nI L) → (∀ i, i < k → A1 (282 + i) = nI (r i)) → (∀ q, ¬ (281 ≤ q ∧ q < 782) → A1 q = A q) → Rk X am_245 152 [some (.ref 52), x1, x2, some (.int (nI L)), some (.int (nI k)), x5, x6, x7, x8, x9] [] g (Qi (fun y h1 => y = nI L ∧ Fr 53 54 h h1 ∧ ∃ A1, h1[53]? = some (cI 2346 A1) ∧ FD A A1 L r)) := by
  intro d
  induction d with
  | zero => intro k g A1 hd hk F c53 h281 hx hq; exfalso; omega
  | succ d ih =>
    intro k g A1 hd hk F c53 h281 hx hq
    have e52 := (F.2 52 (by omega)).trans c0
    have e63 := (F.2 63 (by omega)).trans c63
    clear c0 c63
    refine rk_iload rfl rfl ?_
    refine rk_iload_n rfl rfl ?_
    refine rk_icmp_ge rfl rfl (fun hc154 => ?_) (fun hc154 => ?_)
    · replace hc154 := (nI_leI (by omega) (by omega)).mp hc154
      refine rk_iload_n rfl rfl ?_
      have hk2 : k = L := by omega
      subst hk2
      exact rk_ireturn rfl rfl ⟨_, _, rfl, rfl, F, A1, c53, h281, hx, hq⟩
    · replace hc154 := mt (nI_leI (by omega) (by omega)).mpr hc154
      refine rk_aload_n rfl rfl ?_
      refine rk_get rfl (by assumption) rfl ?_
      refine rk_sipush (v := nI 282) rfl (by decide) ?_
      refine rk_iload rfl rfl ?_
      refine rk_iadd rfl (nI_add _ _) ?_
      refine rk_aload_n rfl rfl ?_
      refine rk_get rfl (by assumption) rfl ?_
      refine rk_iload rfl rfl ?_
      refine rk_iald rfl (by assumption) (rfl) (by omega) (by decide) ?_
      rw [hf k (by omega)]
      refine rk_iast rfl c53 (rfl) (by omega) (by decide) ?_
      refine hp_gen c53 (fun h1 g1 hk1 hl1 => ?_)
      replace e52 := (hk1 _ (by omega)).trans e52
      replace e63 := (hk1 _ (by omega)).trans e63
      replace c53 := g1
      refine rk_iinc rfl rfl (n_inc _) rfl ?_
      refine rk_goto rfl rfl ?_
      refine ih (k + 1) h1 _ (by omega) (by omega) (F.tr (Fr.mk1 hk1 hl1 (by omega) (by omega))) c53 ?_ (fun i hi => ?_) (fun q hq1 => ?_)
      · simp only [upd]; rw [if_neg (by omega)]; exact h281
      · simp only [upd]
        by_cases y : i = k
        · subst y; rw [if_pos rfl]
        · rw [if_neg (by omega)]; exact hx i (by omega)
      · simp only [upd]; rw [if_neg (by omega)]; exact hq q hq1
/-- how the model ends -/
def PMd (N : Nat → Nat) (A w : Nat → Int32) (mx : Nat) (h h1 : ai_H) (r : Option PT) (y : Int32) : Prop := FrPd h h1 ∧ (∃ m, m ≤ mx ∧ MR h1 w m) ∧ ∃ A1, h1[53]? = some (cI 2346 A1) ∧ ((r = none ∧ y = -1 ∧ A1 = A) ∨ ∃ s, r = some s ∧ y = nI s.2.1 ∧ pOk N s ∧ FD A A1 s.2.1 s.2.2)
theorem l245 {X : ai_X} {h : ai_H} {w A : Nat → Int32} {N : Nat → Nat} (c53 : h[53]? = some (cI 2346 A)) (hN : HN N) (M : MH A N) {mx : Nat} (hmx : mx < 2 ^ 28) {y1 : Int32} : ∀ (d : Nat) (f : Nat) (s : PT) (gg : ai_H) (m : Nat) (f63 : Nat → Int32) (c4 c5 c6 c7 c8 c9 : Option Value), f < d → (pop s.1 14 ≤ f + 1) → (pOk N s) → (FrPd h gg) → (MR gg w m) → (m + 200 * f ≤ mx) → (gg[63]? = some (cI 700 f63)) → (∀ p, p < s.2.1 → f63 p = nI (s.2.2 p)) → (gg[53]? = some (cI 2346 A)) → Rk X am_245 13 [some (.ref 52), some (.int y1), some (.int (nI s.1)), some (.int (nI s.2.1)), c4, c5, c6, c7, c8, c9] [] gg (Qi (fun y h1 => PMd N A w mx h h1 (prs N f s) y)) := by
  intro d
  induction d with
  | zero => intro f s gg m f63 c4 c5 c6 c7 c8 c9 hd hpf hs F H hm c63 hr e53; exfalso; omega
  | succ d ih =>
    intro f s gg m f63 c4 c5 c6 c7 c8 c9 hd hpf hs F H hm c63 hr e53
    obtain ⟨a0, a1, a268, a269, a270, a271, apl, apc, aot, asg, awt⟩ := id M
    have hn := hN.n
    have hp14 := hN.p14
    have hs1 := hs.1
    have hs2 := hs.2.1
    obtain ⟨v, e52, -⟩ := H.obj
    have F0 : True := trivial
    have hpo := pop_le s.1 14
    have hnv := nall_v (S := s.1) hn (N 0) (Nat.le_refl _)
    refine rk_iload_n rfl rfl ?_
    refine rk_cs1e rfl rfl rfl (Nat.le_of_ble_eq_true rfl) (Nat.le_of_ble_eq_true rfl) (s213 (by omega)) ?_
    refine rk_iconst (v := nI 1) rfl (by decide) ?_
    refine rk_icmp_le rfl rfl (fun hc16 => ?_) (fun hc16 => ?_)
    · replace hc16 := (nI_leI (by omega) (by omega)).mp hc16
      refine rk_aload_n rfl rfl ?_
      refine rk_get rfl (by assumption) rfl ?_
      refine rk_sipush (v := nI 281) rfl (by decide) ?_
      refine rk_iload_n rfl rfl ?_
      refine rk_iast rfl e53 (rfl) (by omega) (by decide) ?_
      refine hp_gen e53 (fun h1 g1 hk1 hl1 => ?_)
      replace e52 := (hk1 _ (by omega)).trans e52
      replace c63 := (hk1 _ (by omega)).trans c63
      have Fk := hk1
      have Fl := hl1
      replace e53 := g1
      refine rk_iconst (v := nI 0) rfl (by decide) ?_
      refine rk_istore rfl (Nat.le_of_ble_eq_true rfl) rfl ?_
      refine (l245f (A := A) (r := s.2.2) e52 c63 hs.2.1 hr (s.2.1 + 1) 0 _ _ (by omega) (Nat.zero_le _) Fr.rfl' e53 (if_pos rfl) (fun i hi => absurd hi (by omega)) (fun q hq => if_neg (by omega))).mono ?_
      rintro o ⟨y, h3, rfl, rfl, F5, A1, d53, fd⟩
      have F6 : Fr 53 54 gg h3 := (Fr.mk1 Fk Fl (by omega) (by omega)).tr F5
      exact ⟨_, _, rfl, F.f F6 (Or.inr ⟨by omega, by omega⟩) (by omega), ⟨m, by omega, H.fr (fun q hq => F6.2 q (by omega))⟩, A1, d53, Or.inr ⟨s, prs_1 hc16 f, rfl, hs, fd⟩⟩
    · replace hc16 := mt (nI_leI (by omega) (by omega)).mpr hc16
      obtain ⟨f', hff⟩ : ∃ f', f = f' + 1 := ⟨f - 1, by omega⟩
      refine rk_iconst (v := (-1)) rfl (by decide) ?_
      refine rk_istore rfl (Nat.le_of_ble_eq_true rfl) rfl ?_
      refine rk_iconst (v := (-1)) rfl (by decide) ?_
      refine rk_istore rfl (Nat.le_of_ble_eq_true rfl) rfl ?_
      refine rk_iconst (v := nI 0) rfl (by decide) ?_
      refine rk_istore rfl (Nat.le_of_ble_eq_true rfl) rfl ?_
      refine rk_iconst (v := nI 0) rfl (by decide) ?_
      refine rk_istore rfl (Nat.le_of_ble_eq_true rfl) rfl ?_
      refine l245a (h := gg) (S := s.1) (m0 := m) e53 hN M (by omega) hmx (by omega) (fun g2 m2 c7 c8 c9 F2 H2 hm2 => ?_) (N 0 + 1) 0 gg m _ _ (by omega) (Nat.zero_le _) FrM.rfl' H (by omega)
      have g253 := (F2.2 53 (by omega) (by omega)).trans e53
      obtain ⟨v2, g252, -⟩ := H2.obj
      refine rk_iload rfl rfl ?_
      refine rk_iconst (v := (-1)) rfl (by decide) ?_
      refine rk_icmp_eq rfl rfl (fun hc85 => ?_) (fun hc85 => ?_)
      · have hz := (bA_m1 (by omega)).mp hc85
        have hex : prs N (f) s = none := by rw [hff]; exact prs_n (by omega) hz
        refine rk_iconst (v := (-1)) rfl (by decide) ?_
        exact rk_ireturn rfl rfl ⟨_, _, rfl, F.m F2, ⟨m2, by omega, H2⟩, A, g253, Or.inl ⟨hex, rfl, rfl⟩⟩
      · have hz : ¬ nall N s.1 (N 0) = 0 := fun y => hc85 ((bA_m1 (by omega)).mpr y)
        have hA1 : bA (nall N s.1 (N 0)) = nI ((nall N s.1 (N 0) - 1) / 14) := if_neg hz
        have hB1 : bB (nall N s.1 (N 0)) = nI ((nall N s.1 (N 0) - 1) % 14) := if_neg hz
        have hL1 : bLp N (nall N s.1 (N 0)) = nI (pdn N (nall N s.1 (N 0) - 1)) := if_neg hz
        rw [hA1, hB1, hL1]
        obtain ⟨q1, q2, q3, q4, q5, q6, q7, q8⟩ := near_ok hN hs hz
        have hqq : (nall N s.1 (N 0) - 1) / 14 * 14 + (nall N s.1 (N 0) - 1) % 14 = (nall N s.1 (N 0) - 1) := by omega
        refine rk_iload_n rfl rfl ?_
        refine rk_iload rfl rfl ?_
        refine rk_iadd rfl (nI_add _ _) ?_
        refine rk_sipush (v := nI 500) rfl (by decide) ?_
        refine rk_icmp_le rfl rfl (fun hc90 => ?_) (fun hc90 => ?_)
        · replace hc90 := (nI_leI (by omega) (by omega)).mp hc90
          have hb : ¬ 500 < s.2.1 + pdn N (nall N s.1 (N 0) - 1) := by omega
          refine rk_aload_n rfl rfl ?_
          refine rk_iload rfl rfl ?_
          refine rk_iload rfl rfl ?_
          refine rk_cv2i rfl rfl (by assumption) rfl rfl (Nat.le_of_ble_eq_true rfl) (Nat.le_of_ble_eq_true rfl) (s241E g253 hN M q1 q2 H2 (by omega)) (fun w h1 hF => ?_)
          obtain ⟨F1, H1, z1⟩ := hF
          obtain ⟨v1, f52, -⟩ := H1.obj
          have f53 := (F1.2 53 (by omega) (by omega)).trans g253
          have e63' := (F1.2 63 (by omega) (by omega)).trans ((F2.2 63 (by omega) (by omega)).trans c63)
          rcases z1 with ⟨-, z2⟩ | ⟨kk, B, rfl, zk1, zPre, zBI, zk, ⟨w1, zw, zMB⟩, z6, z7, z8, z9⟩
          · rw [hqq] at z2
            exact absurd (q5.symm.trans z2) (nm_eq (by omega))
          have hdk : dep B.pa kk = pdn N (nall N s.1 (N 0) - 1) := by
            rw [hqq] at z6
            exact (nI_eq (by omega) (by omega)).mp (z6.symm.trans q5)
          have hLj : s.2.1 + dep B.pa kk = s.2.1 + dep B.pa kk - 0 := rfl
          rw [← hdk]
          refine rk_istore rfl (Nat.le_of_ble_eq_true rfl) rfl ?_
          refine rk_iload_n rfl rfl ?_
          refine rk_iload rfl rfl ?_
          refine rk_iadd rfl (nI_add _ _) ?_
          refine rk_istore_n rfl (Nat.le_of_ble_eq_true rfl) rfl ?_
          refine rk_iload_n rfl rfl ?_
          refine rk_istore rfl (Nat.le_of_ble_eq_true rfl) rfl ?_
          refine rk_iload rfl rfl ?_
          refine rk_istore rfl (Nat.le_of_ble_eq_true rfl) rfl ?_
          refine l245t (rw0 := s.2.2) zMB zBI zk (by omega) (fun g3 f3 y8 c9 F3 d63 yy1 y2 => ?_) (dep B.pa kk + 1) 0 h1 f63 (by omega) (Nat.zero_le _) Fr.rfl' e63' hr (fun p a1 a2 => absurd a1 (by omega))
          have g52 : ∃ v, g3[52]? = some (cMdl v) := ⟨_, (F3.2 52 (by omega)).trans f52⟩
          obtain ⟨v3, g52⟩ := g52
          have g53 := (F3.2 53 (by omega)).trans f53
          refine rk_iload_n rfl rfl ?_
          refine rk_iload rfl rfl ?_
          refine rk_isub rfl (pk_sub (by omega)) ?_
          refine rk_istore rfl (Nat.le_of_ble_eq_true rfl) rfl ?_
          rw [show s.2.1 + dep B.pa kk - dep B.pa kk = s.2.1 + 0 by omega]
          refine l245i (gx := pg N (nall N s.1 (N 0) - 1)) g52 g53 hN M hs.1 (by omega) d63 (fun i hi => by rw [y2 i hi, z9 i hi, hdk, hqq]) (fun i hi => q6 i (by omega)) ?_ (dep B.pa kk + 1) 0 (by omega) (Nat.zero_le _)
          refine rk_goto rfl rfl ?_
          rw [hff, prs_s (by omega) hz hb]
          have F7 : FrPd h g3 := ((F.m F2).m F1).f F3 (Or.inl (by omega)) (by omega)
          have zz := ih f' (pnx N s) g3 (m2 + 1) f3 (some (.int (nI ((nall N s.1 (N 0) - 1) / 14)))) (some (.int (nI ((nall N s.1 (N 0) - 1) % 14)))) (some (.int (nI (dep B.pa kk)))) (some (.int (nI kk))) (some (.int y8)) (some (.int (nI (s.2.1 + dep B.pa kk)))) (by omega) (by omega) (q8 hb) F7 (H1.fr (fun q hq => F3.2 q (by omega))) (by omega) d63 (fun p hp => ?_) g53
          · have e1 : (pnx N s).1 = pis N (pg N (nall N s.1 (N 0) - 1)) s.1 (dep B.pa kk) := by rw [hdk]; rfl
            have e2 : (pnx N s).2.1 = s.2.1 + dep B.pa kk := by rw [hdk]; rfl
            rw [e1, e2] at zz
            exact zz
          · show f3 p = nI (if p < s.2.1 then s.2.2 p else pg N (nall N s.1 (N 0) - 1) (p - s.2.1))
            have hp' : p < s.2.1 + pdn N (nall N s.1 (N 0) - 1) := hp
            by_cases y : p < s.2.1
            · rw [if_pos y, yy1 p y]
            · rw [if_neg y]
              have := y2 (p - s.2.1) (by omega)
              rw [show s.2.1 + (p - s.2.1) = p by omega, z9 _ (by omega), hdk, hqq] at this
              exact this
        · replace hc90 := mt (nI_leI (by omega) (by omega)).mpr hc90
          have hb : 500 < s.2.1 + pdn N (nall N s.1 (N 0) - 1) := by omega
          have hex : prs N (f) s = none := by rw [hff]; exact prs_b (by omega) hz hb
          refine rk_iconst (v := (-1)) rfl (by decide) ?_
          exact rk_ireturn rfl rfl ⟨_, _, rfl, F.m F2, ⟨m2, by omega, H2⟩, A, g253, Or.inl ⟨hex, rfl, rfl⟩⟩
theorem m245_v {X : ai_X} {h : ai_H} {w A : Nat → Int32} {N : Nat → Nat} {mk : Nat} (c53 : h[53]? = some (cI 2346 A)) (hN : HN N) (M : MH A N) (H : MR h w mk) (hmk : mk + 3000 < 2 ^ 28) {S : Nat} (hS : 0 < S ∧ S < 2 ^ N 0) (S63 : ShI h 63 700) : Rk X am_245 3 (ai_loc (ai_mL am_245) [.ref 52, .int (nI S)]) [] h (Qi (fun y h1 => PMd N A w (mk + 3000) h h1 (prs N 14 (S, 0, fun _ => 0)) y)) := by
  obtain ⟨v, e52, -⟩ := H.obj
  obtain ⟨f63, c63⟩ := S63
  refine rk_aload_n rfl rfl ?_
  refine rk_iload_n rfl rfl ?_
  refine rk_cv1e rfl rfl (by assumption) rfl rfl (Nat.le_of_ble_eq_true rfl) (Nat.le_of_ble_eq_true rfl) (s208N e52 c53 hN M _) ?_
  refine rk_if_ne rfl rfl (fun hc6 => ?_) (fun hc6 => ?_)
  · replace hc6 := Decidable.not_not.mp (mt bI_0.mpr hc6)
    refine rk_iload_n rfl rfl ?_
    refine rk_istore_n rfl (Nat.le_of_ble_eq_true rfl) rfl ?_
    refine rk_iconst (v := nI 0) rfl (by decide) ?_
    refine rk_istore_n rfl (Nat.le_of_ble_eq_true rfl) rfl ?_
    have hpo := pop_le S 14
    exact l245 c53 hN M hmk 15 14 (S, 0, fun _ => 0) h mk f63 _ _ _ _ _ _ (by omega) (show pop S 14 ≤ 14 + 1 by omega) ⟨hS.2, by show (0 : Nat) ≤ 500; omega, fun p hp => absurd hp (by show ¬ p < 0; omega)⟩ FrPd.rfl' H (by omega) c63 (fun p hp => absurd hp (by show ¬ p < 0; omega)) c53
  · replace hc6 := Decidable.not_not.mp hc6
    replace hc6 := (bI_0).mp hc6
    exact absurd (isSet_mk hN hS.1 hS.2) hc6
theorem m245_x {X : ai_X} {h : ai_H} {v A : Nat → Int32} {N : Nat → Nat} (c0 : h[52]? = some (cMdl v)) (c1 : h[53]? = some (cI 2346 A)) (hN : HN N) (M : MH A N) {a : Int32} (hx : ¬ IsSet N a) : Rk X am_245 3 (ai_loc (ai_mL am_245) [.ref 52, .int a]) [] h (Qe (-3) h) := by
  refine rk_aload_n rfl rfl ?_
  refine rk_iload_n rfl rfl ?_
  refine rk_cv1e rfl rfl (by assumption) rfl rfl (Nat.le_of_ble_eq_true rfl) (Nat.le_of_ble_eq_true rfl) (s208N c0 c1 hN M _) ?_
  refine rk_if_ne rfl rfl (fun hc6 => ?_) (fun hc6 => ?_)
  · replace hc6 := Decidable.not_not.mp (mt bI_0.mpr hc6)
    exact absurd hc6 hx
  · replace hc6 := Decidable.not_not.mp hc6
    replace hc6 := (bI_0).mp hc6
    refine rk_bipush (v := (-3)) rfl (by decide) ?_
    exact rk_ireturn rfl rfl Qe_mk
/-- helpers were written on both sides; what is FOUND may be another row -/
theorem finW {m c s mk : Nat} {h h3 : ai_H} {tp : Nat} {T A A1 im rs rm v : Nat → Int32} {nu : Nat → Int64} {fk fp : Int32} {b : Nat → Option Nat} {N : Nat → Nat} (hP : InvP m c s h tp T A im rs rm nu fk fp b) (hV : HV A 0 (N 0) (N 1) (N 271)) (hmk : mk ≤ 4000 * (m + 1)) (hv : v 5 = nI tp ∧ v 13 = fk ∧ v 14 = fp) (hl : h3.length = h.length) (K : ∀ q : Nat, (q < 9 ∨ (19 ≤ q ∧ q < 26) ∨ q = 27 ∨ q = 36 ∨ q = 41 ∨ (44 ≤ q ∧ q < 52) ∨ q = 54 ∨ q = 55 ∨ 77 ≤ q) → h3[q]? = h[q]?) (R9 : ∃ F G, HouseAt h3 9 F G) (R15 : ∃ n f, RouteAt h3 15 n f ∧ FC n f A1 0) (R17 : ∃ n f, RouteAt h3 17 n f) (h33 : ∃ n, h3[33]? = some (.inr (1, [.ref 3, .ref 22, .ref 34, .ref 35, .int n]))) (Mw : MW h3 v mk) (c53 : h3[53]? = some (cI 2346 A1)) (hA1 : ∀ q, ¬ (281 ≤ q ∧ q < 782) → A1 q = A q) (hFV : FV A1 0 (N 1)) (k : ai_Sk h h3) : Inv (m + 1) (c + 0) (s + 0) h3 := by
  obtain ⟨hA, hBB, hR, hI, hS, hO, hM, hVV, hD, hc, hs⟩ := id hP
  have h80 := hM.len
  refine Inv.srch (b1 := b) hP k ?_ ?_ rfl rfl (hD.fr (by omega)) (by omega) (by omega) R9 R15 R17 h33 ?_ c53 hA1 ?_
  · exact fun q hq kp hbl => K q (by omega)
  · exact hS.fr (fun q _ _ => K q (by omega)) (fun i p _ hi e q _ _ => by
      have := (hD i p hi e).1
      exact K q (by omega))
  · obtain ⟨v1, w0, w1, w2, w3, w4, w5⟩ := Mw
    exact ⟨v1, mk, w0, w1.trans hv.1, w2.trans hv.2.1, w3.trans hv.2.2, w4, hmk, w5⟩
  · intro n t w hV' _
    have : t = N 1 := by
      have e1 := hV.2.1
      have e2 := hV'.2.1
      rw [e1] at e2
      have h1 := hV.2.2.2.2.2.1
      have h2 := hV'.2.2.2.2.2.1
      exact ((nI_eq (by omega) (by omega)).mp e2).symm
    subst this
    exact hFV
/-- a row is FOUND on both sides -/
theorem FD.fc {A A1 : Nat → Int32} {L : Nat} {x : Nat → Nat} {h : ai_H} (H : FD A A1 L x) (R : RtAt h 15 L x) (hL : L ≤ 500) : ∃ n f, RouteAt h 15 n f ∧ FC n f A1 0 := by
  obtain ⟨f, r, y⟩ := R
  refine ⟨_, f, r, by rw [Nat.zero_add]; exact H.1.symm, fun i hi => ?_⟩
  rw [Nat.zero_add, H.1, nI_clamp (by omega)] at hi
  rw [y i hi, Nat.zero_add, H.2.1 i hi]
theorem FD.fv {A A1 : Nat → Int32} {L T : Nat} {x : Nat → Nat} (H : FD A A1 L x) (hL : L ≤ 500) (hx : ∀ p, p < L → x p < T) : FV A1 0 T := Or.inr ⟨L, hL, by rw [Nat.zero_add]; exact H.1, fun i hi => ⟨_, hx i hi, by rw [Nat.zero_add]; exact H.2.1 i hi⟩⟩
theorem RtAt.fr' {h h1 : ai_H} {p L : Nat} {x : Nat → Nat} (K : ∀ q : Nat, p ≤ q → q < p + 2 → h1[q]? = h[q]?) (R : RtAt h p L x) : RtAt h1 p L x := by
  obtain ⟨f, r, y⟩ := R
  exact ⟨f, r.fr K, y⟩
theorem ob18 (X : ai_X) : O18 X Inv := by
  intro a0
  refine ob_gen fun m c s h hm I => ?_
  obtain ⟨tp, T, A, im, rs, rm, nu, fk, fp, b, hP⟩ := id I
  obtain ⟨N, mk, hN, C, M, -, hV, hFV, H, hmk, hv⟩ := Inv.sdat hP hm
  obtain ⟨hA, hB, hR, hI, hS, hO, hM, hVV, hD, hc, hs⟩ := id hP
  obtain ⟨v, d52⟩ := I.m52
  have d53 := hM.2.1
  have d0 := hA.1
  have h80 := hM.len
  have d27 := hO.1
  obtain ⟨f28, c28⟩ := hO.2.2.2.2.2.2.1
  obtain ⟨-, ⟨F9, G9, R9⟩, ⟨n0, f0, R, hFC⟩, R17⟩ := id hB
  obtain ⟨n33, d33⟩ := hO.2.1
  have S63 : ShI h 63 700 := hM.2.2.2.2.2.2.2.2.2.2.2.2.2.1
  by_cases hx : IsSet N a0
  · obtain ⟨S, s1, s2, rfl⟩ := isSet_of hN hx
    obtain ⟨n7, f7, r7⟩ := R17
    have hcl := c149_v (X := X) d0 hN C d27 c28 ⟨s1, s2⟩ ⟨n0, f0, R⟩ ⟨n7, f7, r7⟩
    refine ⟨match prs N 14 (S, 0, fun _ => 0) with | none => -1 | some s => nI s.2.1, fun h1 => ∃ g w, Fr 28 29 h g ∧ PC N g h1 (prs N 14 (S, 0, fun _ => 0)) w, hcl.mono ?_, ?_⟩
    · rintro o ⟨w, h1, rfl, g, F1, hpc⟩
      refine ⟨_, _, rfl, ?_, g, w, F1, hpc⟩
      rcases hpc.2.2.2 with ⟨e1, e2, -⟩ | ⟨s, e1, e2, -⟩
      · rw [e1, e2]
      · rw [e1, e2]
    · rintro h1 ⟨g, w, F1, l1, K1, R17b, hpc⟩ k1
      have K2 : ∀ q : Nat, q ≠ 15 → q ≠ 16 → q ≠ 17 → q ≠ 18 → q ≠ 28 → h1[q]? = h[q]? := fun q a1 a2 a3 a4 a5 => (K1 q a1 a2 a3 a4).trans (F1.2 q (by omega))
      have e52 := (K2 52 (by omega) (by omega) (by omega) (by omega) (by omega)).trans d52
      refine ⟨⟨_, e52⟩, md_g rfl rfl rfl rfl e52 (fun h2 g2 hk hl => ?_)⟩
      have K3 : ∀ q : Nat, q ≠ 15 → q ≠ 16 → q ≠ 17 → q ≠ 18 → q ≠ 28 → q ≠ 52 → h2[q]? = h[q]? := fun q a1 a2 a3 a4 a5 a6 => (hk q a6).trans (K2 q a1 a2 a3 a4 a5)
      have H2 : MQs h2 mk := H.fr (fun q a1 a2 => K3 q (by omega) (by omega) (by omega) (by omega) (by omega) (by omega)) d52 g2 rfl
      refine (m245_v ((K3 53 (by omega) (by omega) (by omega) (by omega) (by omega) (by omega)).trans d53) hN M (H2.mr g2) (by omega) ⟨s1, s2⟩ (S63.fr (K3 63 (by omega) (by omega) (by omega) (by omega) (by omega) (by omega)))).mono ?_
      rintro o ⟨y, h3, rfl, F3, ⟨m3, hm3, H3⟩, A1, c53, hpm⟩
      have K4 : ∀ q : Nat, q ≠ 15 → q ≠ 16 → q ≠ 17 → q ≠ 18 → q ≠ 28 → q ≠ 52 → q ≠ 53 → ¬ (57 ≤ q ∧ q < 64) → h3[q]? = h[q]? := fun q a1 a2 a3 a4 a5 a6 a7 a8 => (F3.2 q a6 a7 a8).trans (K3 q a1 a2 a3 a4 a5 a6)
      have K5 : ∀ q : Nat, q ≠ 52 → q ≠ 53 → ¬ (57 ≤ q ∧ q < 64) → h3[q]? = h1[q]? := fun q a1 a2 a3 => (F3.2 q a1 a2 a3).trans (hk q a1)
      have hl3 : h3.length = h.length := ((F3.1.trans hl).trans l1).trans F1.1
      have R9' : ∃ F G, HouseAt h3 9 F G := ⟨F9, G9, R9.fr (fun q _ _ => K4 q (by omega) (by omega) (by omega) (by omega) (by omega) (by omega) (by omega) (by omega))⟩
      have R17c : ∃ n f, RouteAt h3 17 n f := by
        obtain ⟨n, f, z⟩ := R17b
        exact ⟨n, f, z.fr (fun q _ _ => K5 q (by omega) (by omega) (by omega))⟩
      have d33' : ∃ n, h3[33]? = some (.inr (1, [.ref 3, .ref 22, .ref 34, .ref 35, .int n])) := ⟨n33, (K4 33 (by omega) (by omega) (by omega) (by omega) (by omega) (by omega) (by omega) (by omega)).trans d33⟩
      have KK : ∀ q : Nat, (q < 9 ∨ (19 ≤ q ∧ q < 26) ∨ q = 27 ∨ q = 36 ∨ q = 41 ∨ (44 ≤ q ∧ q < 52) ∨ q = 54 ∨ q = 55 ∨ 77 ≤ q) → h3[q]? = h[q]? := fun q hq => K4 q (by omega) (by omega) (by omega) (by omega) (by omega) (by omega) (by omega) (by omega)
      rcases hpc with ⟨e1, e2, e3, e4⟩ | ⟨s, e1, e2, hs', R15⟩
      · rcases hpm with ⟨-, y2, rfl⟩ | ⟨s', y1, -⟩
        · refine ⟨_, _, rfl, by rw [e1]; exact y2, fun k2 => finW hP hV (by omega) (hv v d52) hl3 KK R9' ⟨n0, f0, ?_, hFC⟩ R17c d33' H3.2 c53 (fun _ _ => rfl) hFV (k1.trans k2)⟩
          exact ⟨((K5 15 (by omega) (by omega) (by omega)).trans (e3.trans (F1.2 15 (by omega)))).trans R.1, ((K5 16 (by omega) (by omega) (by omega)).trans (e4.trans (F1.2 16 (by omega)))).trans R.2⟩
        · rw [e1] at y1; cases y1
      · rcases hpm with ⟨y1, -⟩ | ⟨s', y1, y2, hs2, fd⟩
        · rw [e1] at y1; cases y1
        · rw [e1] at y1
          cases y1
          exact ⟨_, _, rfl, by rw [e1]; exact y2, fun k2 => finW hP hV (by omega) (hv v d52) hl3 KK R9' (fd.fc (R15.fr' (fun q _ _ => K5 q (by omega) (by omega) (by omega))) hs2.2.1) R17c d33' H3.2 c53 fd.2.2 (fd.fv hs2.2.1 hs2.2.2) (k1.trans k2)⟩
  · exact og_pure I (c149_x d0 hN C hx) (md_thr rfl rfl rfl rfl d52 (fun h2 g2 hk => m245_x g2 ((hk 53 (by omega)).trans d53) hN M hx))
