/-! HOUSE: the class clears the draft, reads all -/
section PUTH2
variable {X : ai_X} {M : ai_M} {k : Nat} {ls : ai_L} {st : List Value} {h : ai_H} {P : ai_O → Prop}
theorem rk_putH' {pc len f p q i ad : Nat} {v0 : Value} {F : Nat → Int32} {w : Int32} (hr : (ai_mR M)[k]? = some (pc, .putfield i, len, v0, 2, f, p, q)) (hh : h[ad]? = some (cHouse ad F)) (hf : f < 7) (z : ∀ (h1 : ai_H) (F1 : Nat → Int32), h1[ad]? = some (cHouse ad F1) → F1 f = w → (∀ j, j ≠ f → F1 j = F j) → (∀ q : Nat, q ≠ ad → h1[q]? = h[q]?) → h1.length = h.length → Rk X M (k + 1) ls st h1 P) : Rk X M k ls (.int w :: .ref ad :: st) h P :=
  rk_putH hr hh hf (fun h1 a c d => z h1 _ a (if_pos rfl) (fun j hj => if_neg hj) c d)
end PUTH2
theorem gth {F g0 g1 g2 g3 g4 : Nat → Int32} (hF : ∀ j, j < 7 → F j = 0) (h3 : ∀ j, j < 14 → g3 j = 0) : ∃ c, DV F g0 g1 g2 g3 g4 c ∧ ∀ q, q < 2 ∨ (254 ≤ q ∧ q < 272) ∨ q = 280 → c q = 0 := by
  refine ⟨fun q => if 2 ≤ q ∧ q < 86 then g0 (q - 2) else if 86 ≤ q ∧ q < 170 then g1 (q - 86) else if 170 ≤ q ∧ q < 254 then g2 (q - 170) else 0, ⟨hF 0 (by omega), hF 1 (by omega), hF 2 (by omega), hF 3 (by omega), hF 4 (by omega), hF 5 (by omega), hF 6 (by omega), fun k hk => ?_, fun k hk => ?_, fun k hk => ?_, fun k hk => ?_, fun k hk hk2 => absurd hk2 (Nat.not_lt_zero k)⟩, fun q hq => ?_⟩
  · simp only
    rw [if_pos (by omega), show 2 + k - 2 = k by omega]
  · simp only
    rw [if_neg (by omega), if_pos (by omega), show 86 + k - 86 = k by omega]
  · simp only
    rw [if_neg (by omega), if_neg (by omega), if_pos (by omega), show 170 + k - 170 = k by omega]
  · simp only
    rw [if_neg (by omega), if_neg (by omega), if_neg (by omega)]
    exact h3 k hk
  · simp only
    rw [if_neg (by omega), if_neg (by omega), if_neg (by omega)]
/-- cleared so far -/
def CK (c : Nat → Int32) (m : Nat) : Prop := (∀ d, d < m → c (2 + d) = nI (d / 6) ∧ c (86 + d) = -1 ∧ c (170 + d) = 0) ∧ ∀ q, q < 2 ∨ (254 ≤ q ∧ q < 272) ∨ q = 280 → c q = 0
theorem CK.step {c : Nat → Int32} {r i : Nat} (hr : r < 14) (hi : i < 6) (H : CK c (6 * r + i)) : CK (c3 c (6 * r + i) r) (6 * r + (i + 1)) := by
  obtain ⟨a, b⟩ := H
  refine ⟨fun d hd => ?_, fun q hq => ?_⟩
  · by_cases z : d = 6 * r + i
    · rw [z, show (6 * r + i) / 6 = r by omega]
      refine ⟨?_, ?_, ?_⟩
      · rw [c3, updE (by omega), updE (by omega), updS]
      · rw [c3, updE (by omega), updS]
      · rw [c3, updS]
    · obtain ⟨x, y, w⟩ := a d (by omega)
      refine ⟨?_, ?_, ?_⟩
      · rw [c3, updE (by omega), updE (by omega), updE (by omega)]; exact x
      · rw [c3, updE (by omega), updE (by omega), updE (by omega)]; exact y
      · rw [c3, updE (by omega), updE (by omega), updE (by omega)]; exact w
  · rw [c3_n (by omega) (by omega)]; exact b q hq
theorem CK.fin {h : ai_H} {c : Nat → Int32} (H : CK c 84) (D : DC h c) : DC h clr := by
  obtain ⟨F, g0, g1, g2, g3, g4, d9, d10, d11, d12, d13, d14, a0, a1, a2, a3, a4, a5, a6, b0, b1, b2, b3, b4⟩ := D
  obtain ⟨x, y⟩ := H
  refine ⟨F, g0, g1, g2, g3, g4, d9, d10, d11, d12, d13, d14, a0.trans (y 0 (by omega)), a1.trans (y 1 (by omega)), a2.trans (y 280 (by omega)), a3.trans (y 270 (by omega)), a4.trans (y 271 (by omega)), a5.trans (y 268 (by omega)), a6.trans (y 269 (by omega)), fun k hk => ?_, fun k hk => ?_, fun k hk => ?_, fun k hk => ?_, fun k hk hk2 => absurd hk2 (Nat.not_lt_zero k)⟩
  · rw [b0 k hk, (x k hk).1, clr, if_pos (by omega), show 2 + k - 2 = k by omega]
  · rw [b1 k hk, (x k hk).2.1, clr, if_neg (by omega), if_pos (by omega)]
  · rw [b2 k hk, (x k hk).2.2, clr, if_neg (by omega), if_neg (by omega)]
  · rw [b3 k hk, y _ (by omega), clr, if_neg (by omega), if_neg (by omega)]
theorem l21b {X : ai_X} {h : ai_H} {r : Nat} (hr : r < 14) {P : ai_O → Prop} (z : ∀ (g : ai_H) (c : Nat → Int32), Fr 9 15 h g → DC g c → CK c (6 * (r + 1)) → Rk X am_21 42 [some (.ref 9), some (.int (nI r)), some (.int (nI 6))] [] g P) : ∀ (d : Nat) (i : Nat) (g : ai_H) (c : Nat → Int32), 6 < i + d → (i ≤ 6) → (Fr 9 15 h g) → (DC g c) → (CK c (6 * r + i)) → Rk X am_21 32 [some (.ref 9), some (.int (nI r)), some (.int (nI i))] [] g (P) := by
  intro d
  induction d with
  | zero => intro i g c hd hi F D K; exfalso; omega
  | succ d ih =>
    intro i g c hd hi F D K
    have e9 := D.at.choose_spec.choose_spec.1
    refine rk_iload_n rfl rfl ?_
    refine rk_bipush (v := nI 6) rfl (by decide) ?_
    refine rk_icmp_ge rfl rfl (fun hc34 => ?_) (fun hc34 => ?_)
    · replace hc34 := (nI_leI (by omega) (by omega)).mp hc34
      have hi6 : i = 6 := by omega
      subst hi6
      exact z g c F D (by rw [show 6 * (r + 1) = 6 * r + 6 by omega]; exact K)
    · replace hc34 := mt (nI_leI (by omega) (by omega)).mpr hc34
      refine rk_aload_n rfl rfl ?_
      refine rk_iload_n rfl rfl ?_
      refine rk_iload_n rfl rfl ?_
      refine rk_iload_n rfl rfl ?_
      refine rk_cv3v rfl rfl (by assumption) rfl rfl (Nat.le_of_ble_eq_true rfl) (Nat.le_of_ble_eq_true rfl) (s32D D (r := r) (i := i) (x := r) (by omega)) (fun h1 hF => ?_)
      obtain ⟨F2, D2⟩ := hF
      refine rk_iinc rfl rfl (n_inc _) rfl ?_
      refine rk_goto rfl rfl ?_
      exact ih (i + 1) h1 _ (by omega) (by omega) (F.tr F2) D2 (K.step hr (by omega))
theorem l21a {X : ai_X} {h : ai_H}  : ∀ (d : Nat) (r : Nat) (g : ai_H) (c : Nat → Int32) (o : Option Value), 14 < r + d → (r ≤ 14) → (Fr 9 15 h g) → (DC g c) → (CK c (6 * r)) → Rk X am_21 27 [some (.ref 9), some (.int (nI r)), o] [] g (Qv (fun h1 => Fr 9 15 h h1 ∧ DC h1 clr)) := by
  intro d
  induction d with
  | zero => intro r g c o hd hr F D K; exfalso; omega
  | succ d ih =>
    intro r g c o hd hr F D K
    refine rk_iload_n rfl rfl ?_
    refine rk_bipush (v := nI 14) rfl (by decide) ?_
    refine rk_icmp_ge rfl rfl (fun hc29 => ?_) (fun hc29 => ?_)
    · replace hc29 := (nI_leI (by omega) (by omega)).mp hc29
      have hr14 : r = 14 := by omega
      subst hr14
      exact rk_return rfl rfl ⟨_, rfl, F, K.fin D⟩
    · replace hc29 := mt (nI_leI (by omega) (by omega)).mpr hc29
      refine rk_iconst (v := nI 0) rfl (by decide) ?_
      refine rk_istore_n rfl (Nat.le_of_ble_eq_true rfl) rfl ?_
      refine l21b (h := h) (r := r) (by omega) (fun g1 c1 F1 D1 K1 => ?_) 7 0 g c (by omega) (by omega) F D (by rw [Nat.add_zero]; exact K)
      refine rk_iinc rfl rfl (n_inc _) rfl ?_
      refine rk_goto rfl rfl ?_
      exact ih (r + 1) g1 c1 _ (by omega) (by omega) F1 D1 K1
theorem s21D {X : ai_X} {h : ai_H} (H : ∃ F G, HouseAt h 9 F G) : Mt X am_21 [.ref 9] h (Qv (fun h1 => Fr 9 15 h h1 ∧ DC h1 clr)) := by
  obtain ⟨F, G, d9, d10, d11, d12, d13, d14⟩ := H
  have F0 : Fr 9 15 h h := Fr.rfl'
  refine rk_aload_n rfl rfl ?_
  refine rk_iconst (v := nI 0) rfl (by decide) ?_
  refine rk_putH' rfl d9 (by omega) (fun h1 F1 e9 u0 uo hk1 hl1 => ?_)
  replace d9 := e9
  replace d10 := (hk1 _ (by omega)).trans d10
  replace d11 := (hk1 _ (by omega)).trans d11
  replace d12 := (hk1 _ (by omega)).trans d12
  replace d13 := (hk1 _ (by omega)).trans d13
  replace d14 := (hk1 _ (by omega)).trans d14
  replace F0 := F0.tr (Fr.mk1 hk1 hl1 (by omega) (by omega))
  refine rk_aload_n rfl rfl ?_
  refine rk_iconst (v := nI 0) rfl (by decide) ?_
  refine rk_putH' rfl d9 (by omega) (fun h1 F1 e9 u1 uo hk1 hl1 => ?_)
  replace d9 := e9
  replace u0 := (uo 0 (by omega)).trans u0
  replace d10 := (hk1 _ (by omega)).trans d10
  replace d11 := (hk1 _ (by omega)).trans d11
  replace d12 := (hk1 _ (by omega)).trans d12
  replace d13 := (hk1 _ (by omega)).trans d13
  replace d14 := (hk1 _ (by omega)).trans d14
  replace F0 := F0.tr (Fr.mk1 hk1 hl1 (by omega) (by omega))
  refine rk_aload_n rfl rfl ?_
  refine rk_iconst (v := nI 0) rfl (by decide) ?_
  refine rk_putH' rfl d9 (by omega) (fun h1 F1 e9 u2 uo hk1 hl1 => ?_)
  replace d9 := e9
  replace u0 := (uo 0 (by omega)).trans u0
  replace u1 := (uo 1 (by omega)).trans u1
  replace d10 := (hk1 _ (by omega)).trans d10
  replace d11 := (hk1 _ (by omega)).trans d11
  replace d12 := (hk1 _ (by omega)).trans d12
  replace d13 := (hk1 _ (by omega)).trans d13
  replace d14 := (hk1 _ (by omega)).trans d14
  replace F0 := F0.tr (Fr.mk1 hk1 hl1 (by omega) (by omega))
  refine rk_aload_n rfl rfl ?_
  refine rk_iconst (v := nI 0) rfl (by decide) ?_
  refine rk_putH' rfl d9 (by omega) (fun h1 F1 e9 u3 uo hk1 hl1 => ?_)
  replace d9 := e9
  replace u0 := (uo 0 (by omega)).trans u0
  replace u1 := (uo 1 (by omega)).trans u1
  replace u2 := (uo 2 (by omega)).trans u2
  replace d10 := (hk1 _ (by omega)).trans d10
  replace d11 := (hk1 _ (by omega)).trans d11
  replace d12 := (hk1 _ (by omega)).trans d12
  replace d13 := (hk1 _ (by omega)).trans d13
  replace d14 := (hk1 _ (by omega)).trans d14
  replace F0 := F0.tr (Fr.mk1 hk1 hl1 (by omega) (by omega))
  refine rk_aload_n rfl rfl ?_
  refine rk_iconst (v := nI 0) rfl (by decide) ?_
  refine rk_putH' rfl d9 (by omega) (fun h1 F1 e9 u4 uo hk1 hl1 => ?_)
  replace d9 := e9
  replace u0 := (uo 0 (by omega)).trans u0
  replace u1 := (uo 1 (by omega)).trans u1
  replace u2 := (uo 2 (by omega)).trans u2
  replace u3 := (uo 3 (by omega)).trans u3
  replace d10 := (hk1 _ (by omega)).trans d10
  replace d11 := (hk1 _ (by omega)).trans d11
  replace d12 := (hk1 _ (by omega)).trans d12
  replace d13 := (hk1 _ (by omega)).trans d13
  replace d14 := (hk1 _ (by omega)).trans d14
  replace F0 := F0.tr (Fr.mk1 hk1 hl1 (by omega) (by omega))
  refine rk_aload_n rfl rfl ?_
  refine rk_iconst (v := nI 0) rfl (by decide) ?_
  refine rk_putH' rfl d9 (by omega) (fun h1 F1 e9 u5 uo hk1 hl1 => ?_)
  replace d9 := e9
  replace u0 := (uo 0 (by omega)).trans u0
  replace u1 := (uo 1 (by omega)).trans u1
  replace u2 := (uo 2 (by omega)).trans u2
  replace u3 := (uo 3 (by omega)).trans u3
  replace u4 := (uo 4 (by omega)).trans u4
  replace d10 := (hk1 _ (by omega)).trans d10
  replace d11 := (hk1 _ (by omega)).trans d11
  replace d12 := (hk1 _ (by omega)).trans d12
  replace d13 := (hk1 _ (by omega)).trans d13
  replace d14 := (hk1 _ (by omega)).trans d14
  replace F0 := F0.tr (Fr.mk1 hk1 hl1 (by omega) (by omega))
  refine rk_aload_n rfl rfl ?_
  refine rk_iconst (v := nI 0) rfl (by decide) ?_
  refine rk_putH' rfl d9 (by omega) (fun h1 F1 e9 u6 uo hk1 hl1 => ?_)
  replace d9 := e9
  replace u0 := (uo 0 (by omega)).trans u0
  replace u1 := (uo 1 (by omega)).trans u1
  replace u2 := (uo 2 (by omega)).trans u2
  replace u3 := (uo 3 (by omega)).trans u3
  replace u4 := (uo 4 (by omega)).trans u4
  replace u5 := (uo 5 (by omega)).trans u5
  replace d10 := (hk1 _ (by omega)).trans d10
  replace d11 := (hk1 _ (by omega)).trans d11
  replace d12 := (hk1 _ (by omega)).trans d12
  replace d13 := (hk1 _ (by omega)).trans d13
  replace d14 := (hk1 _ (by omega)).trans d14
  replace F0 := F0.tr (Fr.mk1 hk1 hl1 (by omega) (by omega))
  refine rk_aload_n rfl rfl ?_
  refine rk_get rfl (by assumption) rfl ?_
  refine rk_iconst (v := nI 0) rfl (by decide) ?_
  refine rk_cs2v rfl rfl rfl (Nat.le_of_ble_eq_true rfl) (Nat.le_of_ble_eq_true rfl) (s292 (by decide) d13) (fun h1 hF => ?_)
  obtain ⟨F2, g3, d13, h3⟩ := hF
  replace d9 := (F2.2 9 (by omega)).trans d9
  replace d10 := (F2.2 10 (by omega)).trans d10
  replace d11 := (F2.2 11 (by omega)).trans d11
  replace d12 := (F2.2 12 (by omega)).trans d12
  replace d14 := (F2.2 14 (by omega)).trans d14
  replace F0 := F0.tr (F2.mono (by omega) (by omega))
  refine rk_iconst (v := nI 0) rfl (by decide) ?_
  refine rk_istore_n rfl (Nat.le_of_ble_eq_true rfl) rfl ?_
  obtain ⟨c, hV, hc⟩ := gth (F := F1) (g0 := G 0) (g1 := G 1) (g2 := G 2) (g3 := g3) (g4 := G 4) (fun j hj => by
    rcases (show j = 0 ∨ j = 1 ∨ j = 2 ∨ j = 3 ∨ j = 4 ∨ j = 5 ∨ j = 6 by omega) with rfl | rfl | rfl | rfl | rfl | rfl | rfl
    · exact u0
    · exact u1
    · exact u2
    · exact u3
    · exact u4
    · exact u5
    · exact u6) h3
  exact l21a 15 0 _ c _ (by omega) (by omega) F0 ⟨_, _, _, _, _, _, d9, d10, d11, d12, d13, d14, hV⟩ ⟨fun d hd => absurd hd (by omega), hc⟩
theorem ck_0 {k : Nat} (h : k ≤ 14) : ck k = 0 ↔ k = 13 := by
  unfold ck
  repeat' split
  all_goals omega
/-- what the class's reading leaves -/
def CEd (h h1 : ai_H) (r : RR) : Prop := FrC h h1 ∧ (∃ g, h1[2]? = some (cRead (.ref 1) g) ∧ g 0 = nI r.k ∧ g 1 = if r.k = 0 then -1 else nI r.pl) ∧ (∃ F G, HouseAt h1 9 F G) ∧ (r.k = 0 → DC h1 r.c)
theorem VC.clr0 : VC clr 0 0 0 0 := ⟨rfl, rfl, rfl, rfl, by omega, by omega, by omega, Or.inl ⟨rfl, Or.inl rfl, fun _ _ _ => rfl⟩⟩
theorem l69 {X : ai_X} {h : ai_H} {b : Nat → Nat} {n : Nat} (hn : n ≤ 600) : ∀ (d i : Nat) (g : ai_H) (c : Nat → Int32) (q N t w l : Nat), n < q + d → i ≤ q → q ≤ n → FrC h g → TP g 1 b → RDT g b n 0 (-1) q → DC g c → VC c N t w l → Rk X am_69 26 [some (.ref 2), some (.ref 1), some (.int (nI n)), some (.ref 9), some (.int (nI i))] [] g (Qi (fun y h1 => y = nI (rdL b n d c q).k ∧ CEd h h1 (rdL b n d c q))) := by
  intro d
  induction d with
  | zero => intro i g c q N t w l hd hi hq; exfalso; omega
  | succ d ih =>
    intro i g c q N t w l hd hi hq FC Tp R D hv
    obtain ⟨a0, a1, a2, a3, a4, a5, a6, a7⟩ := id hv
    obtain ⟨x0, x1, x2⟩ := hv.nx
    obtain ⟨gg, e2, hg0, hg1, hg3, hg4, hg5, hg6⟩ := id R
    obtain ⟨F, g0, g1, g2, g3, g4, d9, d10, d11, d12, d13, d14, hV⟩ := id D
    have hF0 : F 0 = nI N := hV.1.trans a0
    have hF1 : F 1 = nI t := hV.2.1.trans a1
    have hk0 := ck_0 (tkd_le (b := b) (n := n) (p := q))
    have hkl := ck_le (tkd b n q)
    rw [rdL, x0, x1, x2]
    refine rk_iload rfl rfl ?_
    refine rk_aload_n rfl rfl ?_
    refine rk_get rfl (by assumption) rfl ?_
    rw [hg3]
    refine rk_icmp_gt rfl rfl (fun hc29 => ?_) (fun hc29 => ?_)
    · replace hc29 := (nI_ltI (by omega) (by omega)).mp hc29
      omega
    · replace hc29 := mt (nI_ltI (by omega) (by omega)).mpr hc29
      refine rk_aload_n rfl rfl ?_
      refine rk_get rfl (by assumption) rfl ?_
      rw [hg0]
      refine rk_if_ne rfl rfl (fun y => absurd rfl y) (fun _ => ?_)
      refine rk_aload_n rfl rfl ?_
      refine rk_get rfl (by assumption) rfl ?_
      rw [hg4]
      refine rk_if_eq rfl rfl (fun hc35 => ?_) (fun hc35 => ?_)
      · replace hc35 := (n0_eq (by omega)).mp hc35
        rw [if_pos (hk0.mp hc35)]
        refine rk_aload_n rfl rfl ?_
        refine rk_get rfl (by assumption) rfl ?_
        rw [hg0]
        refine rk_if_ne rfl rfl (fun y => absurd rfl y) (fun _ => ?_)
        refine rk_aload_n rfl rfl ?_
        refine rk_get rfl (by assumption) rfl ?_
        rw [hF0]
        refine rk_if_le rfl rfl (fun hc48 => ?_) (fun hc48 => ?_)
        · replace hc48 := (n0_le (by omega)).mp hc48
          first
            | (refine rk_aload_n rfl rfl ?_
               refine rk_get rfl e5 rfl ?_
               exact rk_ireturn rfl rfl ⟨_, _, rfl, by rw [if_pos ⟨by omega, by omega⟩]; exact w0, by rw [if_pos ⟨by omega, by omega⟩]; exact ⟨FC.t2 F3, ⟨g5, e5, w0, w1⟩, (D.fr (fun q _ _ => F3.2 q (by omega))).at, fun y => absurd y (by show ¬ 2 = 0; decide)⟩⟩)
            | (refine rk_aload_n rfl rfl ?_
               refine rk_get rfl e2 rfl ?_
               exact rk_ireturn rfl rfl ⟨_, _, rfl, by rw [if_neg (by omega)]; exact hg0, by rw [if_neg (by omega)]; exact ⟨FC, ⟨gg, e2, hg0, hg1⟩, D.at, fun _ => D⟩⟩)
        · replace hc48 := mt (n0_le (by omega)).mpr hc48
          refine rk_aload_n rfl rfl ?_
          refine rk_get rfl (by assumption) rfl ?_
          rw [hF1]
          refine rk_if_ne rfl rfl (fun hc51 => ?_) (fun hc51 => ?_)
          · replace hc51 := mt (n0_eq (by omega)).mpr hc51
            first
              | (refine rk_aload_n rfl rfl ?_
                 refine rk_get rfl e5 rfl ?_
                 exact rk_ireturn rfl rfl ⟨_, _, rfl, by rw [if_pos ⟨by omega, by omega⟩]; exact w0, by rw [if_pos ⟨by omega, by omega⟩]; exact ⟨FC.t2 F3, ⟨g5, e5, w0, w1⟩, (D.fr (fun q _ _ => F3.2 q (by omega))).at, fun y => absurd y (by show ¬ 2 = 0; decide)⟩⟩)
              | (refine rk_aload_n rfl rfl ?_
                 refine rk_get rfl e2 rfl ?_
                 exact rk_ireturn rfl rfl ⟨_, _, rfl, by rw [if_neg (by omega)]; exact hg0, by rw [if_neg (by omega)]; exact ⟨FC, ⟨gg, e2, hg0, hg1⟩, D.at, fun _ => D⟩⟩)
          · replace hc51 := Decidable.not_not.mp hc51
            replace hc51 := (n0_eq (by omega)).mp hc51
            refine rk_aload_n rfl rfl ?_
            refine rk_iconst (v := nI 2) rfl (by decide) ?_
            refine rk_aload_n rfl rfl ?_
            refine rk_get rfl (by assumption) rfl ?_
            rw [hg3]
            refine rk_cv2v rfl rfl (by assumption) rfl rfl (Nat.le_of_ble_eq_true rfl) (Nat.le_of_ble_eq_true rfl) (s70 e2 hg0) (fun h1 hF => ?_)
            obtain ⟨F3, g5, e5, w0, w1, wo⟩ := hF
            first
              | (refine rk_aload_n rfl rfl ?_
                 refine rk_get rfl e5 rfl ?_
                 exact rk_ireturn rfl rfl ⟨_, _, rfl, by rw [if_pos ⟨by omega, by omega⟩]; exact w0, by rw [if_pos ⟨by omega, by omega⟩]; exact ⟨FC.t2 F3, ⟨g5, e5, w0, w1⟩, (D.fr (fun q _ _ => F3.2 q (by omega))).at, fun y => absurd y (by show ¬ 2 = 0; decide)⟩⟩)
              | (refine rk_aload_n rfl rfl ?_
                 refine rk_get rfl e2 rfl ?_
                 exact rk_ireturn rfl rfl ⟨_, _, rfl, by rw [if_neg (by omega)]; exact hg0, by rw [if_neg (by omega)]; exact ⟨FC, ⟨gg, e2, hg0, hg1⟩, D.at, fun _ => D⟩⟩)
      · replace hc35 := mt (n0_eq (by omega)).mpr hc35
        refine rk_aload_n rfl rfl ?_
        refine rk_aload_n rfl rfl ?_
        refine rk_cv1v rfl rfl (by assumption) rfl rfl (Nat.le_of_ble_eq_true rfl) (Nat.le_of_ble_eq_true rfl) (s75 Tp hn hq R D hv) (fun h1 hF => ?_)
        have h13 : ¬ tkd b n q = 13 := fun y => hc35 (hk0.mpr y)
        rw [if_neg h13]
        have hval := lnL_v (b := b) hq h13 hv
        rw [RR.bd]
        obtain ⟨F2, ⟨k0, R2, D2⟩ | ⟨k0, E, hE, R2, H2⟩⟩ := hF
        · rw [if_pos k0]
          obtain ⟨p1, p2, N1, t1, w1, hv1⟩ := hval.2 k0
          have Tp2 := Tp.fr (F2.2 1 (by omega) (by omega))
          obtain ⟨g6, e6, h60⟩ := id R2.e2
          refine rk_aload_n rfl rfl ?_
          refine rk_cv0v rfl rfl (by assumption) rfl rfl (Nat.le_of_ble_eq_true rfl) (Nat.le_of_ble_eq_true rfl) (s71 Tp2 hn p2 R2) (fun h1 hF => ?_)
          obtain ⟨F4, R4⟩ := hF
          refine rk_iinc rfl rfl (n_inc _) rfl ?_
          refine rk_goto rfl rfl ?_
          exact ih (i + 1) _ _ _ _ _ _ _ (by omega) (by omega) p2 ((FC.tr F2).t2 F4) (Tp2.fr (F4.2 1 (by omega))) R4 (D2.fr (fun q _ _ => F4.2 q (by omega))) hv1
        · rw [if_neg k0]
          obtain ⟨g6, e6, h60⟩ := id R2.e2
          have hk4 := (lnL_v (b := b) hq h13 hv).1
          have hTp2 := Tp.fr (F2.2 1 (by omega) (by omega))
          refine rk_aload_n rfl rfl ?_
          refine rk_cv0v rfl rfl (by assumption) rfl rfl (Nat.le_of_ble_eq_true rfl) (Nat.le_of_ble_eq_true rfl) (s71 hTp2 hn hE R2) (fun h1 hF => ?_)
          obtain ⟨F4, R4⟩ := hF
          obtain ⟨g7, e7, h70, h71, h73, -⟩ := id R4
          have hf0 : ¬ g7 0 = 0 := fun y => k0 ((n0_eq (by omega)).mp (h70.symm.trans y))
          refine rk_iinc rfl rfl (n_inc _) rfl ?_
          refine rk_goto rfl rfl ?_
          refine rk_iload rfl rfl ?_
          refine rk_aload_n rfl rfl ?_
          refine rk_get rfl (by assumption) rfl ?_
          rw [h73]
          refine rk_icmp_gt rfl rfl (fun hc29 => ?_) (fun hc29 => ?_)
          · replace hc29 := (nI_ltI (by omega) (by omega)).mp hc29
            refine rk_aload_n rfl rfl ?_
            refine rk_get rfl (by assumption) rfl ?_
            refine rk_if_ne rfl rfl (fun hc45 => ?_) (fun hc45 => ?_)
            · refine rk_aload_n rfl rfl ?_
              refine rk_get rfl (by assumption) rfl ?_
              obtain ⟨F9, G9, H9⟩ := H2
              exact rk_ireturn rfl rfl ⟨_, _, rfl, h70, (FC.tr F2).t2 F4, ⟨g7, e7, h70, by rw [if_neg k0]; exact h71⟩, ⟨F9, G9, H9.fr (fun q _ _ => F4.2 q (by omega))⟩, fun y => absurd y k0⟩
            · replace hc45 := Decidable.not_not.mp hc45
              exact absurd hc45 hf0
          · replace hc29 := mt (nI_ltI (by omega) (by omega)).mpr hc29
            refine rk_aload_n rfl rfl ?_
            refine rk_get rfl (by assumption) rfl ?_
            refine rk_if_ne rfl rfl (fun hc32 => ?_) (fun hc32 => ?_)
            · refine rk_aload_n rfl rfl ?_
              refine rk_get rfl (by assumption) rfl ?_
              refine rk_if_ne rfl rfl (fun hc45 => ?_) (fun hc45 => ?_)
              · refine rk_aload_n rfl rfl ?_
                refine rk_get rfl (by assumption) rfl ?_
                obtain ⟨F9, G9, H9⟩ := H2
                exact rk_ireturn rfl rfl ⟨_, _, rfl, h70, (FC.tr F2).t2 F4, ⟨g7, e7, h70, by rw [if_neg k0]; exact h71⟩, ⟨F9, G9, H9.fr (fun q _ _ => F4.2 q (by omega))⟩, fun y => absurd y k0⟩
              · replace hc45 := Decidable.not_not.mp hc45
                exact absurd hc45 hf0
            · replace hc32 := Decidable.not_not.mp hc32
              exact absurd hc32 hf0
theorem s69 {X : ai_X} {h : ai_H} {b : Nat → Nat} {n : Nat} {rf : Value} {g : Nat → Int32} (Tp : TP h 1 b) (hn : n ≤ 600) (e2 : h[2]? = some (cRead rf g)) (H : ∃ F G, HouseAt h 9 F G) : Mt X am_69 [.ref 2, .ref 1, .int (nI n), .ref 9] h (Qi (fun y h1 => y = nI (rdL b n (n + 1) clr 0).k ∧ CEd h h1 (rdL b n (n + 1) clr 0))) := by
  obtain ⟨T, t1, hT⟩ := id Tp
  refine rk_aload_n rfl rfl ?_
  refine rk_iconst (v := nI 0) rfl (by decide) ?_
  refine rk_putR rfl e2 (f := 0) (by omega) (fun h1 g1 f2 u0 uo hk1 hl1 => ?_)
  refine rk_aload_n rfl rfl ?_
  refine rk_iconst (v := (-1)) rfl (by decide) ?_
  refine rk_putR rfl f2 (f := 1) (by omega) (fun h2 g2 f3 u1 uo2 hk2 hl2 => ?_)
  have F2 : Fr 2 3 h h2 := (Fr.mk1 hk1 hl1 (by omega) (by omega)).tr (Fr.mk1 hk2 hl2 (by omega) (by omega))
  replace u0 := (uo2 0 (by omega)).trans u0
  refine rk_aload_n rfl rfl ?_
  refine rk_aload_n rfl rfl ?_
  refine rk_put rfl f3 (Nat.le_of_ble_eq_true rfl) ft_5_2 rfl (Or.inl rfl) rfl ?_
  refine hp_gen f3 (fun h3 f4 hk3 hl3 => ?_)
  replace f4 : h3[2]? = some (cRead (.ref 1) g2) := f4
  replace F2 := F2.tr (Fr.mk1 hk3 hl3 (by omega) (by omega))
  have t3 := (F2.2 1 (by omega)).trans t1
  refine rk_aload_n rfl rfl ?_
  refine rk_iconst (v := nI 0) rfl (by decide) ?_
  refine rk_iload_n rfl rfl ?_
  refine rk_aload_n rfl rfl ?_
  refine rk_alen rfl t3 (Nat.le_of_ble_eq_true rfl) rfl ?_
  refine rk_min (w := nI n) rfl (Nat.le_of_ble_eq_true rfl) (if_neg (fun y => by have := (nI_ltI (by omega) (by omega)).mp y; omega)) ?_
  refine rk_max (w := nI n) rfl (Nat.le_of_ble_eq_true rfl) (mx_p (by omega)) ?_
  refine rk_putR rfl f4 (f := 3) (by omega) (fun h4 g4 f5 u3 uo4 hk4 hl4 => ?_)
  replace u0 := (uo4 0 (by omega)).trans u0
  replace u1 := (uo4 1 (by omega)).trans u1
  refine rk_aload_n rfl rfl ?_
  refine rk_iconst (v := nI 0) rfl (by decide) ?_
  refine rk_putR rfl f5 (f := 6) (by omega) (fun h5 g5 f6 u6 uo5 hk5 hl5 => ?_)
  replace u0 := (uo5 0 (by omega)).trans u0
  replace u1 := (uo5 1 (by omega)).trans u1
  replace u3 := (uo5 3 (by omega)).trans u3
  replace F2 := (F2.tr (Fr.mk1 hk4 hl4 (by omega) (by omega))).tr (Fr.mk1 hk5 hl5 (by omega) (by omega))
  have H5 : ∃ F G, HouseAt h5 9 F G := by
    obtain ⟨F, G, H⟩ := H
    exact ⟨F, G, H.fr (fun q _ _ => F2.2 q (by omega))⟩
  have e9 := H5.choose_spec.choose_spec.1
  have Tp5 := Tp.fr (F2.2 1 (by omega))
  refine rk_aload_n rfl rfl ?_
  refine rk_cv0v rfl rfl (by assumption) rfl rfl (Nat.le_of_ble_eq_true rfl) (Nat.le_of_ble_eq_true rfl) (s21D H5) (fun h1 hF => ?_)
  obtain ⟨F7, D7⟩ := hF
  have f7 := (F7.2 2 (by omega)).trans f6
  have R7 : RDE h1 n 0 (-1) 0 := ⟨g5, f7, u0, u1, u3, u6⟩
  have Tp7 := Tp5.fr (F7.2 1 (by omega))
  refine rk_aload_n rfl rfl ?_
  refine rk_cv0v rfl rfl (by assumption) rfl rfl (Nat.le_of_ble_eq_true rfl) (Nat.le_of_ble_eq_true rfl) (s71 Tp7 hn (Nat.zero_le _) R7) (fun h1 hF => ?_)
  obtain ⟨F8, R8⟩ := hF
  refine rk_iconst (v := nI 0) rfl (by decide) ?_
  refine rk_istore rfl (Nat.le_of_ble_eq_true rfl) rfl ?_
  exact l69 hn (n + 1) 0 _ clr 0 0 0 0 0 (by omega) (by omega) (by omega) (((FrC.rfl'.t2 F2).t9 F7).t2 F8) (Tp7.fr (F8.2 1 (by omega))) R8 (D7.fr (fun q _ _ => F8.2 q (by omega))) VC.clr0
