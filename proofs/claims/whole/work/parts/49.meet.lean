/-! MEETINGS AND SIGNS OF TWO ROOMS -/
def gM (x : Nat) : Bool := decide (x / 14 = x % 14)
def gS (N : Nat → Nat) (x : Nat) : Bool := decide (¬ sg N (x / 14) = sg N (x % 14))
theorem ab14 {a b : Nat} (hb : b < 14) : (a * 14 + b) / 14 = a ∧ (a * 14 + b) % 14 = b := by omega
theorem gM_t {a b : Nat} (hb : b < 14) : gM (a * 14 + b) = true ↔ a = b := by
  rw [gM, (ab14 hb).1, (ab14 hb).2]; exact decide_eq_true_iff
theorem gS_t {N : Nat → Nat} {a b : Nat} (hb : b < 14) : gS N (a * 14 + b) = true ↔ ¬ sg N a = sg N b := by
  rw [gS, (ab14 hb).1, (ab14 hb).2]; exact decide_eq_true_iff
theorem GP_M {N : Nat → Nat} (hN : HN N) : GP N gM := by
  have hn := hN.n
  refine ⟨fun a b ha hb => ?_, fun a ha => Or.inl ((gM_t (by omega)).mpr rfl)⟩
  rw [Bool.eq_iff_iff, gM_t (by omega), gM_t (by omega)]
  exact eq_comm
theorem GP_S {N : Nat → Nat} (hN : HN N) : GP N (gS N) := by
  have hn := hN.n
  refine ⟨fun a b ha hb => ?_, fun a ha => Or.inr (fun k => ?_)⟩
  · rw [Bool.eq_iff_iff, gS_t (by omega), gS_t (by omega)]
    exact not_congr eq_comm
  · have key : ∀ k a, a < N 0 → ¬ rcP N (gS N) k (a * 14 + a) = true := by
      intro k
      induction k with
      | zero => exact fun a ha z => (gS_t (by omega)).mp z rfl
      | succ k ih =>
        intro a ha z
        obtain ⟨t, ht, h⟩ := (any_iff _).mp z
        have h' : rcP N (gS N) k (nxP N (a * 14 + a) t) = true := h
        rw [nxP_ab (by omega)] at h'
        exact ih _ (hN.xpl ha ht) h'
    exact key k a ha
theorem ev_z {N : Nat → Nat} {g : Nat → Bool} {x : Nat} : ev N g 0 x = if g x = true then nI 0 else -1 := by
  by_cases h : g x = true
  · rw [if_pos h]
    exact ev_lst (k := 0) ⟨h, fun j hj => absurd hj (by omega)⟩ (Nat.le_refl _)
  · rw [if_neg h]
    exact ev_no (fun k hk z => h (by rw [show k = 0 by omega] at z; exact z))
theorem l52 {X : ai_X} {h : ai_H} {p : Nat} {N : Nat → Nat} (hN : HN N) (C : CH h p N) (d27 : h[27]? = some cPa) (hp : p + 6 ≤ 27) : ∀ (d : Nat) (r : Nat) (gg : ai_H) (f : Nat → Int32), N 0 < r + d → (r ≤ N 0) → (Fr 28 29 h gg) → (gg[28]? = some (cI 196 f)) → (∀ x y, x < N 0 → y < N 0 → f (x * 14 + y) = if x = y ∧ x < r then nI 0 else -1) → Rk X am_52 6 [some (.ref 27), some (.ref p), some (.int (nI r))] [] gg (Qv (fun h1 => Fr 28 29 h h1 ∧ ∃ f1, h1[28]? = some (cI 196 f1) ∧ ∀ x y, x < N 0 → y < N 0 → f1 (x * 14 + y) = ev N gM 196 (x * 14 + y))) := by
  intro d
  induction d with
  | zero => intro r gg f hd hr F c28 hf; exfalso; omega
  | succ d ih =>
    intro r gg f hd hr F c28 hf
    have C2 := C.fr2 F (by omega)
    have d0 := C2.1
    have e27 := (F.2 27 (by omega)).trans d27
    have hn := hN.n
    refine rk_iload_n rfl rfl ?_
    refine rk_aload_n rfl rfl ?_
    refine rk_get rfl (by assumption) rfl ?_
    refine rk_icmp_ge rfl rfl (fun hc9 => ?_) (fun hc9 => ?_)
    · replace hc9 := (nI_leI (by omega) (by omega)).mp hc9
      have hf0 : ∀ x y, x < N 0 → y < N 0 → f (x * 14 + y) = ev N gM 0 (x * 14 + y) := fun x y hx hy => by
        rw [hf x y hx hy, ev_z]
        by_cases z : x = y
        · rw [if_pos ⟨z, by omega⟩, if_pos ((gM_t (by omega)).mpr z)]
        · rw [if_neg (fun q => z q.1), if_neg (fun q => z ((gM_t (by omega)).mp q))]
      refine rk_aload_n rfl rfl ?_
      refine rk_aload_n rfl rfl ?_
      refine rk_cv1v rfl rfl (by assumption) rfl rfl (Nat.le_of_ble_eq_true rfl) (Nat.le_of_ble_eq_true rfl) (s54 hN (GP_M hN) C2 e27 hp c28 hf0) (fun h1 hF => ?_)
      obtain ⟨F1, y⟩ := hF
      exact rk_return rfl rfl ⟨_, rfl, F.tr F1, y⟩
    · replace hc9 := mt (nI_leI (by omega) (by omega)).mpr hc9
      refine rk_aload_n rfl rfl ?_
      refine rk_get rfl (by assumption) rfl ?_
      refine rk_aload_n rfl rfl ?_
      refine rk_iload_n rfl rfl ?_
      refine rk_iload_n rfl rfl ?_
      refine rk_cv2e rfl rfl (by assumption) rfl rfl (Nat.le_of_ble_eq_true rfl) (Nat.le_of_ble_eq_true rfl) (s50n) ?_
      refine rk_iconst (v := nI 0) rfl (by decide) ?_
      refine rk_iast rfl c28 (rfl) (by omega) (by decide) ?_
      refine hp_gen c28 (fun h1 g1 hk1 hl1 => ?_)
      replace d0 := (hk1 _ (by omega)).trans d0
      replace e27 := (hk1 _ (by omega)).trans e27
      replace c28 := g1
      refine rk_iinc rfl rfl (n_inc _) rfl ?_
      refine rk_goto rfl rfl ?_
      refine ih (r + 1) h1 _ (by omega) (by omega) (F.tr (Fr.mk1 hk1 hl1 (by omega) (by omega))) c28 (fun x y hx hy => ?_)
      simp only [upd]
      by_cases z : x * 14 + y = r * 14 + r
      · rw [if_pos z, if_pos (by omega)]
      · rw [if_neg z, hf x y hx hy]
        by_cases z2 : x = y ∧ x < r
        · rw [if_pos z2, if_pos (by omega)]
        · rw [if_neg z2, if_neg (by omega)]
theorem s52 {X : ai_X} {h : ai_H} {p : Nat} {N : Nat → Nat} {f0 : Nat → Int32} (hN : HN N) (C : CH h p N) (d27 : h[27]? = some cPa) (c28 : h[28]? = some (cI 196 f0)) (hp : p + 6 ≤ 27) : Mt X am_52 [.ref 27, .ref p] h (Qv (fun h1 => Fr 28 29 h h1 ∧ ∃ f1, h1[28]? = some (cI 196 f1) ∧ ∀ x y, x < N 0 → y < N 0 → f1 (x * 14 + y) = ev N gM 196 (x * 14 + y))) := by
  have d0 := C.1
  refine rk_aload_n rfl rfl ?_
  refine rk_get rfl (by assumption) rfl ?_
  refine rk_iconst (v := (-1)) rfl (by decide) ?_
  refine rk_cs2v rfl rfl rfl (Nat.le_of_ble_eq_true rfl) (Nat.le_of_ble_eq_true rfl) (s292 (v := -1) (by decide) c28) (fun h1 hF => ?_)
  obtain ⟨F1, f1, g28, hf1⟩ := hF
  have e27 := (F1.2 27 (by omega)).trans d27
  have C2 := C.fr2 F1 (by omega)
  have e0 := C2.1
  refine rk_iconst (v := nI 0) rfl (by decide) ?_
  refine rk_istore_n rfl (Nat.le_of_ble_eq_true rfl) rfl ?_
  refine (l52 hN C2 e27 hp (N 0 + 1) 0 _ f1 (by omega) (by omega) Fr.rfl' g28 (fun x y hx hy => ?_)).mono ?_
  · have hn := hN.n
    rw [hf1 _ (by omega), if_neg (by omega)]
  · rintro o ⟨h2, rfl, F2, y⟩
    exact ⟨_, rfl, F1.tr F2, y⟩
theorem l53i {X : ai_X} {h : ai_H} {p : Nat} {N : Nat → Nat} (hN : HN N) (C : CH h p N) (d27 : h[27]? = some cPa) (hp : p + 6 ≤ 27) {r : Nat} (hr : r < N 0) {P : ai_O → Prop} (z : ∀ gg f, Fr 28 29 h gg → gg[28]? = some (cI 196 f) → (∀ x y, x < N 0 → y < N 0 → f (x * 14 + y) = if (x < r + 1) ∧ ¬ sg N x = sg N y then nI 0 else -1) → Rk X am_53 33 [some (.ref 27), some (.ref p), some (.int (nI r)), some (.int (nI (N 0)))] [] gg P) : ∀ (d : Nat) (c : Nat) (gg : ai_H) (f : Nat → Int32), N 0 < c + d → (c ≤ N 0) → (Fr 28 29 h gg) → (gg[28]? = some (cI 196 f)) → (∀ x y, x < N 0 → y < N 0 → f (x * 14 + y) = if (x < r ∨ (x = r ∧ y < c)) ∧ ¬ sg N x = sg N y then nI 0 else -1) → Rk X am_53 12 [some (.ref 27), some (.ref p), some (.int (nI r)), some (.int (nI c))] [] gg (P) := by
  intro d
  induction d with
  | zero => intro c gg f hd hc F c28 hf; exfalso; omega
  | succ d ih =>
    intro c gg f hd hc F c28 hf
    have C2 := C.fr2 F (by omega)
    have d0 := C2.1
    have e27 := (F.2 27 (by omega)).trans d27
    have hn := hN.n
    have F0 : Fr 28 29 h gg := F
    have hs1 := hN.xsg (r := r) (by omega)
    have hs2 : c < N 0 → sg N c < 10 := fun y => hN.xsg (by omega)
    refine rk_iload_n rfl rfl ?_
    refine rk_aload_n rfl rfl ?_
    refine rk_get rfl (by assumption) rfl ?_
    refine rk_icmp_ge rfl rfl (fun hc15 => ?_) (fun hc15 => ?_)
    · replace hc15 := (nI_leI (by omega) (by omega)).mp hc15
      have hc2 : c = N 0 := by omega
      subst hc2
      refine z gg f F c28 (fun x y hx hy => ?_)
      rw [hf x y hx hy]
      by_cases z1 : (x < r ∨ (x = r ∧ y < N 0)) ∧ ¬ sg N x = sg N y
      · rw [if_pos z1, if_pos ⟨by omega, z1.2⟩]
      · rw [if_neg z1, if_neg]
        rintro ⟨q1, q2⟩
        exact z1 ⟨by omega, q2⟩
    · replace hc15 := mt (nI_leI (by omega) (by omega)).mpr hc15
      refine rk_aload_n rfl rfl ?_
      refine rk_iload_n rfl rfl ?_
      refine rk_cv1e rfl rfl (by assumption) rfl rfl (Nat.le_of_ble_eq_true rfl) (Nat.le_of_ble_eq_true rfl) (s30N C2 (by omega)) ?_
      replace hs2 := hs2 (by omega)
      refine rk_aload_n rfl rfl ?_
      refine rk_iload_n rfl rfl ?_
      refine rk_cv1e rfl rfl (by assumption) rfl rfl (Nat.le_of_ble_eq_true rfl) (Nat.le_of_ble_eq_true rfl) (s30N C2 (by omega)) ?_
      refine rk_icmp_eq rfl rfl (fun hc22 => ?_) (fun hc22 => ?_)
      · replace hc22 := (nI_eq (by omega) (by omega)).mp hc22
        have f2 : ∀ x y, x < N 0 → y < N 0 → f (x * 14 + y) = if (x < r ∨ (x = r ∧ y < c + 1)) ∧ ¬ sg N x = sg N y then nI 0 else -1 := fun x y hx hy => by
          rw [hf x y hx hy]
          by_cases z1 : (x < r ∨ (x = r ∧ y < c)) ∧ ¬ sg N x = sg N y
          · rw [if_pos z1, if_pos ⟨by omega, z1.2⟩]
          · rw [if_neg z1, if_neg]
            rintro ⟨q1, q2⟩
            by_cases z2 : x = r ∧ y = c
            · rw [z2.1, z2.2] at q2; exact q2 hc22
            · exact z1 ⟨by omega, q2⟩
        refine rk_iinc rfl rfl (n_inc _) rfl ?_
        refine rk_goto rfl rfl ?_
        exact ih (c + 1) _ _ (by omega) (by omega) F0 c28 f2
      · replace hc22 := mt (nI_eq (by omega) (by omega)).mpr hc22
        refine rk_aload_n rfl rfl ?_
        refine rk_get rfl (by assumption) rfl ?_
        refine rk_aload_n rfl rfl ?_
        refine rk_iload_n rfl rfl ?_
        refine rk_iload_n rfl rfl ?_
        refine rk_cv2e rfl rfl (by assumption) rfl rfl (Nat.le_of_ble_eq_true rfl) (Nat.le_of_ble_eq_true rfl) (s50n) ?_
        refine rk_iconst (v := nI 0) rfl (by decide) ?_
        refine rk_iast rfl c28 (rfl) (by omega) (by decide) ?_
        refine hp_gen c28 (fun h1 g1 hk1 hl1 => ?_)
        replace d0 := (hk1 _ (by omega)).trans d0
        replace e27 := (hk1 _ (by omega)).trans e27
        replace F0 := F0.tr (Fr.mk1 hk1 hl1 (by omega) (by omega))
        replace c28 := g1
        have f2 : ∀ x y, x < N 0 → y < N 0 → (upd f (r * 14 + c) (nI 0)) (x * 14 + y) = if (x < r ∨ (x = r ∧ y < c + 1)) ∧ ¬ sg N x = sg N y then nI 0 else -1 := fun x y hx hy => by
          simp only [upd]
          by_cases z2 : x * 14 + y = r * 14 + c
          · have q1 : x = r := by omega
            have q2 : y = c := by omega
            subst q1 q2
            rw [if_pos rfl, if_pos ⟨by omega, hc22⟩]
          · rw [if_neg z2, hf x y hx hy]
            by_cases z1 : (x < r ∨ (x = r ∧ y < c)) ∧ ¬ sg N x = sg N y
            · rw [if_pos z1, if_pos ⟨by omega, z1.2⟩]
            · rw [if_neg z1, if_neg]
              rintro ⟨q1, q2⟩
              exact z1 ⟨by omega, q2⟩
        refine rk_iinc rfl rfl (n_inc _) rfl ?_
        refine rk_goto rfl rfl ?_
        exact ih (c + 1) _ _ (by omega) (by omega) F0 c28 f2
theorem l53 {X : ai_X} {h : ai_H} {p : Nat} {N : Nat → Nat} (hN : HN N) (C : CH h p N) (d27 : h[27]? = some cPa) (hp : p + 6 ≤ 27) : ∀ (d : Nat) (r : Nat) (gg : ai_H) (f : Nat → Int32) (c3 : Option Value), N 0 < r + d → (r ≤ N 0) → (Fr 28 29 h gg) → (gg[28]? = some (cI 196 f)) → (∀ x y, x < N 0 → y < N 0 → f (x * 14 + y) = if x < r ∧ ¬ sg N x = sg N y then nI 0 else -1) → Rk X am_53 6 [some (.ref 27), some (.ref p), some (.int (nI r)), c3] [] gg (Qv (fun h1 => Fr 28 29 h h1 ∧ ∃ f1, h1[28]? = some (cI 196 f1) ∧ ∀ x y, x < N 0 → y < N 0 → f1 (x * 14 + y) = ev N (gS N) 196 (x * 14 + y))) := by
  intro d
  induction d with
  | zero => intro r gg f c3 hd hr F c28 hf; exfalso; omega
  | succ d ih =>
    intro r gg f c3 hd hr F c28 hf
    have C2 := C.fr2 F (by omega)
    have d0 := C2.1
    have e27 := (F.2 27 (by omega)).trans d27
    have hn := hN.n
    refine rk_iload_n rfl rfl ?_
    refine rk_aload_n rfl rfl ?_
    refine rk_get rfl (by assumption) rfl ?_
    refine rk_icmp_ge rfl rfl (fun hc9 => ?_) (fun hc9 => ?_)
    · replace hc9 := (nI_leI (by omega) (by omega)).mp hc9
      have hf0 : ∀ x y, x < N 0 → y < N 0 → f (x * 14 + y) = ev N (gS N) 0 (x * 14 + y) := fun x y hx hy => by
        rw [hf x y hx hy, ev_z]
        by_cases z : sg N x = sg N y
        · rw [if_neg (fun q => q.2 z), if_neg (fun q => (gS_t (by omega)).mp q z)]
        · rw [if_pos ⟨by omega, z⟩, if_pos ((gS_t (by omega)).mpr z)]
      refine rk_aload_n rfl rfl ?_
      refine rk_aload_n rfl rfl ?_
      refine rk_cv1v rfl rfl (by assumption) rfl rfl (Nat.le_of_ble_eq_true rfl) (Nat.le_of_ble_eq_true rfl) (s54 hN (GP_S hN) C2 e27 hp c28 hf0) (fun h1 hF => ?_)
      obtain ⟨F1, y⟩ := hF
      exact rk_return rfl rfl ⟨_, rfl, F.tr F1, y⟩
    · replace hc9 := mt (nI_leI (by omega) (by omega)).mpr hc9
      refine rk_iconst (v := nI 0) rfl (by decide) ?_
      refine rk_istore_n rfl (Nat.le_of_ble_eq_true rfl) rfl ?_
      refine l53i hN C d27 hp (by omega) ?_ (N 0 + 1) 0 gg f (by omega) (by omega) F c28 (fun x y hx hy => ?_)
      · intro g2 f2 F2 c282 hf2
        refine rk_iinc rfl rfl (n_inc _) rfl ?_
        refine rk_goto rfl rfl ?_
        exact ih (r + 1) g2 f2 _ (by omega) (by omega) F2 c282 hf2
      · rw [hf x y hx hy]
        by_cases z1 : x < r ∧ ¬ sg N x = sg N y
        · rw [if_pos z1, if_pos ⟨by omega, z1.2⟩]
        · rw [if_neg z1, if_neg]
          rintro ⟨q1, q2⟩
          exact z1 ⟨by omega, q2⟩
theorem s53 {X : ai_X} {h : ai_H} {p : Nat} {N : Nat → Nat} {f0 : Nat → Int32} (hN : HN N) (C : CH h p N) (d27 : h[27]? = some cPa) (c28 : h[28]? = some (cI 196 f0)) (hp : p + 6 ≤ 27) : Mt X am_53 [.ref 27, .ref p] h (Qv (fun h1 => Fr 28 29 h h1 ∧ ∃ f1, h1[28]? = some (cI 196 f1) ∧ ∀ x y, x < N 0 → y < N 0 → f1 (x * 14 + y) = ev N (gS N) 196 (x * 14 + y))) := by
  have d0 := C.1
  refine rk_aload_n rfl rfl ?_
  refine rk_get rfl (by assumption) rfl ?_
  refine rk_iconst (v := (-1)) rfl (by decide) ?_
  refine rk_cs2v rfl rfl rfl (Nat.le_of_ble_eq_true rfl) (Nat.le_of_ble_eq_true rfl) (s292 (v := -1) (by decide) c28) (fun h1 hF => ?_)
  obtain ⟨F1, f1, g28, hf1⟩ := hF
  have e27 := (F1.2 27 (by omega)).trans d27
  have C2 := C.fr2 F1 (by omega)
  have e0 := C2.1
  refine rk_iconst (v := nI 0) rfl (by decide) ?_
  refine rk_istore_n rfl (Nat.le_of_ble_eq_true rfl) rfl ?_
  refine (l53 hN C2 e27 hp (N 0 + 1) 0 _ f1 _ (by omega) (by omega) Fr.rfl' g28 (fun x y hx hy => ?_)).mono ?_
  · have hn := hN.n
    rw [hf1 _ (by omega), if_neg (by omega)]
  · rintro o ⟨h2, rfl, F2, y⟩
    exact ⟨_, rfl, F1.tr F2, y⟩
theorem l241i {X : ai_X} {h : ai_H} {w A : Nat → Int32} {N : Nat → Nat} {mk x : Nat} {c1 c2 : Int32} (c53 : h[53]? = some (cI 2346 A)) (hN : HN N) (M : MH A N) (hx : vD N x) {k : Nat} {B : Bf} (hB : BI (nxP N) okA (N 1) x B) (hk : k < B.m) {P : ai_O → Prop} (z1 : ∀ g, FrM h g → MB g w mk (fun x => x / 14) (fun x => x % 14) (bfT (nxP N) okA B k (N 1)) → Rk X am_241 55 [some (.ref 52), some (.int c1), some (.int c2), some (.int (nI k)), some (.int (nI (N 1)))] [] g P) : ∀ (d : Nat) (t : Nat) (g : ai_H), N 1 < t + d → (t ≤ N 1) → (FrM h g) → (MB g w mk (fun x => x / 14) (fun x => x % 14) (bfT (nxP N) okA B k t)) → Rk X am_241 28 [some (.ref 52), some (.int c1), some (.int c2), some (.int (nI k)), some (.int (nI t))] [] g (P) := by
  intro d
  induction d with
  | zero => intro t g hd ht F S; exfalso; omega
  | succ d ih =>
    intro t g hd ht F S
    obtain ⟨a0, a1, a268, a269, a270, a271, apl, apc, aot, asg, awt⟩ := id M
    obtain ⟨v, e52, hv21, hv22, -⟩ := S.obj
    obtain ⟨f57, f58, e57, e58, hsts⟩ := S.sts
    have hst1 : ∀ i, i < (bfT (nxP N) okA B k t).m → f57 i = nI ((bfT (nxP N) okA B k t).st i / 14) := fun i hi => (hsts i hi).1
    have hst2 : ∀ i, i < (bfT (nxP N) okA B k t).m → f58 i = nI ((bfT (nxP N) okA B k t).st i % 14) := fun i hi => (hsts i hi).2
    have e53 := (F.2 53 (by omega) (by omega)).trans c53
    have h6 := hN.t
    have hn := hN.n
    have hBt := hB.tones hk t ht
    have hkt : k < (bfT (nxP N) okA B k t).m := Nat.lt_of_lt_of_le hk (bfT_pre _ _ B k t).1
    obtain ⟨hst, hm16⟩ := deaf_bd hN hx hBt
    obtain ⟨hv1, hv2⟩ := hst k hkt
    have hnx : nxP N ((bfT (nxP N) okA B k t).st k) t = pl N (((bfT (nxP N) okA B k t).st k) / 14) t * 14 + pl N (((bfT (nxP N) okA B k t).st k) % 14) t := nxD_0 (by rw [Nat.zero_div])
    have hT1 := bfT_ok (nx := nxP N) (ok := okA) (B := B) (k := k) (t := t) rfl
    refine rk_iload rfl rfl ?_
    refine rk_aload_n rfl rfl ?_
    refine rk_get rfl (by assumption) rfl ?_
    refine rk_iconst (v := nI 1) rfl (by decide) ?_
    refine rk_iald rfl (by assumption) (rfl) (by omega) (by decide) ?_
    rw [a1]
    refine rk_icmp_ge rfl rfl (fun hc33 => ?_) (fun hc33 => ?_)
    · replace hc33 := (nI_leI (by omega) (by omega)).mp hc33
      have ht2 : t = N 1 := by omega
      subst ht2
      exact z1 g F S
    · replace hc33 := mt (nI_leI (by omega) (by omega)).mpr hc33
      refine rk_aload_n rfl rfl ?_
      refine rk_aload_n rfl rfl ?_
      refine rk_aload_n rfl rfl ?_
      refine rk_get rfl (by assumption) rfl ?_
      refine rk_iload_n rfl rfl ?_
      refine rk_iald rfl (by assumption) (rfl) (by omega) (by decide) ?_
      rw [hst1 k hkt]
      refine rk_iload rfl rfl ?_
      refine rk_cv2e rfl rfl (by assumption) rfl rfl (Nat.le_of_ble_eq_true rfl) (Nat.le_of_ble_eq_true rfl) (s210N e52 e53 M hN hv1 (by omega)) ?_
      have hp1 := hN.xpl hv1 (i := t) (by omega)
      refine rk_aload_n rfl rfl ?_
      refine rk_aload_n rfl rfl ?_
      refine rk_get rfl (by assumption) rfl ?_
      refine rk_iload_n rfl rfl ?_
      refine rk_iald rfl (by assumption) (rfl) (by omega) (by decide) ?_
      rw [hst2 k hkt]
      refine rk_iload rfl rfl ?_
      refine rk_cv2e rfl rfl (by assumption) rfl rfl (Nat.le_of_ble_eq_true rfl) (Nat.le_of_ble_eq_true rfl) (s210N e52 e53 M hN hv2 (by omega)) ?_
      have hp2 := hN.xpl hv2 (i := t) (by omega)
      refine rk_iload_n rfl rfl ?_
      refine rk_iload rfl rfl ?_
      refine rk_cv4i rfl rfl (by assumption) rfl rfl (Nat.le_of_ble_eq_true rfl) (Nat.le_of_ble_eq_true rfl) (s232C (r1 := fun x => x / 14) (r2 := fun x => x % 14) (x := nxP N ((bfT (nxP N) okA B k t).st k) t) S hBt.1 (by show nxP N ((bfT (nxP N) okA B k t).st k) t / 14 = _; omega) (by show nxP N ((bfT (nxP N) okA B k t).st k) t % 14 = _; omega) (by omega) (by omega) (fun i _ z1 z2 => by have y1 : (bfT (nxP N) okA B k t).st i / 14 = nxP N ((bfT (nxP N) okA B k t).st k) t / 14 := z1; have y2 : (bfT (nxP N) okA B k t).st i % 14 = nxP N ((bfT (nxP N) okA B k t).st k) t % 14 := z2; omega) (by omega)) (fun w h1 hF => ?_)
      obtain ⟨rfl, F1, S1⟩ := hF
      rw [← hT1] at S1
      refine rk_pop rfl ?_
      refine rk_iinc rfl rfl (n_inc _) rfl ?_
      refine rk_goto rfl rfl ?_
      exact ih (t + 1) _ (by omega) (by omega) (F.tr F1) S1
theorem l241 {X : ai_X} {h : ai_H} {w A : Nat → Int32} {N : Nat → Nat} {mk x : Nat} {c1 c2 : Int32} (c53 : h[53]? = some (cI 2346 A)) (hN : HN N) (M : MH A N) (hx : vD N x) : ∀ (d : Nat) (k : Nat) (g : ai_H) (c4 : Option Value), 196 < k + d → (k ≤ (bfK (nxP N) okA (N 1) x k).m) → (k ≤ 196) → (FrM h g) → (MB g w mk (fun x => x / 14) (fun x => x % 14) (bfK (nxP N) okA (N 1) x k)) → (∀ i, i < k → ¬ gM ((bfK (nxP N) okA (N 1) x k).st i) = true) → Rk X am_241 11 [some (.ref 52), some (.int c1), some (.int c2), some (.int (nI k)), c4] [] g (Qi (fun y h1 => FrM h h1 ∧ ((y = -1 ∧ (∀ i, i < (bfK (nxP N) okA (N 1) x 196).m → ¬ gM ((bfK (nxP N) okA (N 1) x 196).st i) = true) ∧ MB h1 w mk (fun x => x / 14) (fun x => x % 14) (bfK (nxP N) okA (N 1) x 196)) ∨ ∃ k B, y = nI k ∧ k < 196 ∧ Pre B (bfK (nxP N) okA (N 1) x 196) ∧ BI (nxP N) okA (N 1) x B ∧ k < B.m ∧ gM (B.st k) = true ∧ (∀ i, i < k → ¬ gM (B.st i) = true) ∧ MB h1 w mk (fun x => x / 14) (fun x => x % 14) B))) := by
  intro d
  induction d with
  | zero => intro k g c4 hd hk hk2 F S G; exfalso; omega
  | succ d ih =>
    intro k g c4 hd hk hk2 F S G
    obtain ⟨a0, a1, a268, a269, a270, a271, apl, apc, aot, asg, awt⟩ := id M
    obtain ⟨v, e52, hv21, hv22, -⟩ := S.obj
    obtain ⟨f57, f58, e57, e58, hsts⟩ := S.sts
    have hst1 : ∀ i, i < (bfK (nxP N) okA (N 1) x k).m → f57 i = nI ((bfK (nxP N) okA (N 1) x k).st i / 14) := fun i hi => (hsts i hi).1
    have hst2 : ∀ i, i < (bfK (nxP N) okA (N 1) x k).m → f58 i = nI ((bfK (nxP N) okA (N 1) x k).st i % 14) := fun i hi => (hsts i hi).2
    have e53 := (F.2 53 (by omega) (by omega)).trans c53
    have h6 := hN.t
    have hn := hN.n
    have hBk := BI.heads (nx := nxP N) (ok := okA) (T := N 1) (x := x) k
    obtain ⟨hst, hm16⟩ := deaf_bd hN hx hBk
    refine rk_iload_n rfl rfl ?_
    refine rk_aload_n rfl rfl ?_
    refine rk_get rfl (by assumption) rfl ?_
    rw [hv21]
    refine rk_icmp_ge rfl rfl (fun hc14 => ?_) (fun hc14 => ?_)
    · replace hc14 := (nI_leI (by omega) (by omega)).mp hc14
      refine rk_iconst (v := (-1)) rfl (by decide) ?_
      have hend := bfK_end (nx := nxP N) (ok := okA) (T := N 1) (x := x) (k := k) (W := 196) (by omega) (by omega)
      refine rk_ireturn rfl rfl ⟨_, _, rfl, F, Or.inl ⟨rfl, ?_, ?_⟩⟩
      · rw [hend]
        exact fun i hi => G i (by omega)
      · rw [hend]
        exact S
    · replace hc14 := mt (nI_leI (by omega) (by omega)).mpr hc14
      refine rk_aload_n rfl rfl ?_
      refine rk_get rfl (by assumption) rfl ?_
      refine rk_iload_n rfl rfl ?_
      refine rk_iald rfl (by assumption) (rfl) (by omega) (by decide) ?_
      rw [hst1 k (by omega)]
      obtain ⟨hv1, hv2⟩ := hst k (by omega)
      refine rk_aload_n rfl rfl ?_
      refine rk_get rfl (by assumption) rfl ?_
      refine rk_iload_n rfl rfl ?_
      refine rk_iald rfl (by assumption) (rfl) (by omega) (by decide) ?_
      rw [hst2 k (by omega)]
      refine rk_icmp_ne rfl rfl (fun hc23 => ?_) (fun hc23 => ?_)
      · replace hc23 := mt (nI_eq (by omega) (by omega)).mpr hc23
        have hng : ¬ gM ((bfK (nxP N) okA (N 1) x k).st k) = true := fun z => hc23 (of_decide_eq_true z)
        refine rk_iconst (v := nI 0) rfl (by decide) ?_
        refine rk_istore rfl (Nat.le_of_ble_eq_true rfl) rfl ?_
        refine l241i (B := (bfK (nxP N) okA (N 1) x k)) c53 hN M hx hBk (by omega) ?_ (N 1 + 1) 0 g (by omega) (by omega) F S
        intro g2 F2 S2
        rw [← bfK_s (by omega)] at S2
        refine rk_iinc rfl rfl (n_inc _) rfl ?_
        refine rk_goto rfl rfl ?_
        have hpk := bfK_1 (nxP N) okA (N 1) x k
        have hp1 := hpk.1
        refine ih (k + 1) g2 _ (by omega) (by omega) (by omega) F2 S2 (fun i hi => ?_)
        rw [(hpk.2 i (by omega)).1]
        by_cases z : i = k
        · subst z; exact hng
        · exact G i (by omega)
      · replace hc23 := Decidable.not_not.mp hc23
        replace hc23 := (nI_eq (by omega) (by omega)).mp hc23
        have hgo : gM ((bfK (nxP N) okA (N 1) x k).st k) = true := decide_eq_true hc23
        refine rk_iload_n rfl rfl ?_
        exact rk_ireturn rfl rfl ⟨_, _, rfl, F, Or.inr ⟨k, _, rfl, by omega, bfK_pre (by omega), hBk, by omega, hgo, G, S⟩⟩
theorem s241 {X : ai_X} {h : ai_H} {v A : Nat → Int32} {N : Nat → Nat} {mk a b : Nat} (c52 : h[52]? = some (cMdl v)) (c53 : h[53]? = some (cI 2346 A)) (hN : HN N) (M : MH A N) (ha : a < N 0) (hb : b < N 0) (H : MQs h mk) : Mt X am_241 [.ref 52, .int (nI a), .int (nI b)] h (Qi (fun y h1 => FrM h h1 ∧ ((y = -1 ∧ (∀ i, i < (bfK (nxP N) okA (N 1) (a * 14 + b) 196).m → ¬ gM ((bfK (nxP N) okA (N 1) (a * 14 + b) 196).st i) = true) ∧ MB h1 v (mk + 1) (fun x => x / 14) (fun x => x % 14) (bfK (nxP N) okA (N 1) (a * 14 + b) 196)) ∨ ∃ k B, y = nI k ∧ k < 196 ∧ Pre B (bfK (nxP N) okA (N 1) (a * 14 + b) 196) ∧ BI (nxP N) okA (N 1) (a * 14 + b) B ∧ k < B.m ∧ gM (B.st k) = true ∧ (∀ i, i < k → ¬ gM (B.st i) = true) ∧ MB h1 v (mk + 1) (fun x => x / 14) (fun x => x % 14) B))) := by
  have hn := hN.n
  refine rk_aload_n rfl rfl ?_
  refine rk_cv0v rfl rfl (by assumption) rfl rfl (Nat.le_of_ble_eq_true rfl) (Nat.le_of_ble_eq_true rfl) (s231Q H c52) (fun h1 hF => ?_)
  obtain ⟨F1, E1⟩ := hF
  obtain ⟨v1, e52⟩ := E1.obj
  refine rk_aload_n rfl rfl ?_
  refine rk_iload_n rfl rfl ?_
  refine rk_iload_n rfl rfl ?_
  refine rk_iconst (v := (-1)) rfl (by decide) ?_
  refine rk_iconst (v := (-1)) rfl (by decide) ?_
  refine rk_cv4i rfl rfl (by assumption) rfl rfl (Nat.le_of_ble_eq_true rfl) (Nat.le_of_ble_eq_true rfl) (s232RC (r1 := fun x => x / 14) (r2 := fun x => x % 14) (x := a * 14 + b) E1 (ab14 (by omega)).1 (ab14 (by omega)).2 (by omega) (by omega)) (fun w h1 hF => ?_)
  obtain ⟨rfl, F2, S2⟩ := hF
  refine rk_pop rfl ?_
  refine rk_iconst (v := nI 0) rfl (by decide) ?_
  refine rk_istore_n rfl (Nat.le_of_ble_eq_true rfl) rfl ?_
  exact l241 c53 hN M (vP_ab hN ha hb) 197 0 _ _ (by omega) (by omega) (by omega) (F1.tr F2) S2 (fun i hi => absurd hi (by omega))
theorem l261i {X : ai_X} {h : ai_H} {w A : Nat → Int32} {N : Nat → Nat} {mk x : Nat} {c1 c2 : Int32} (c53 : h[53]? = some (cI 2346 A)) (hN : HN N) (M : MH A N) (hx : vD N x) {k : Nat} {B : Bf} (hB : BI (nxP N) okA (N 1) x B) (hk : k < B.m) {P : ai_O → Prop} (z1 : ∀ g, FrM h g → MB g w mk (fun x => x / 14) (fun x => x % 14) (bfT (nxP N) okA B k (N 1)) → Rk X am_261 65 [some (.ref 52), some (.int c1), some (.int c2), some (.int (nI k)), some (.int (nI (N 1)))] [] g P) : ∀ (d : Nat) (t : Nat) (g : ai_H), N 1 < t + d → (t ≤ N 1) → (FrM h g) → (MB g w mk (fun x => x / 14) (fun x => x % 14) (bfT (nxP N) okA B k t)) → Rk X am_261 38 [some (.ref 52), some (.int c1), some (.int c2), some (.int (nI k)), some (.int (nI t))] [] g (P) := by
  intro d
  induction d with
  | zero => intro t g hd ht F S; exfalso; omega
  | succ d ih =>
    intro t g hd ht F S
    obtain ⟨a0, a1, a268, a269, a270, a271, apl, apc, aot, asg, awt⟩ := id M
    obtain ⟨v, e52, hv21, hv22, -⟩ := S.obj
    obtain ⟨f57, f58, e57, e58, hsts⟩ := S.sts
    have hst1 : ∀ i, i < (bfT (nxP N) okA B k t).m → f57 i = nI ((bfT (nxP N) okA B k t).st i / 14) := fun i hi => (hsts i hi).1
    have hst2 : ∀ i, i < (bfT (nxP N) okA B k t).m → f58 i = nI ((bfT (nxP N) okA B k t).st i % 14) := fun i hi => (hsts i hi).2
    have e53 := (F.2 53 (by omega) (by omega)).trans c53
    have h6 := hN.t
    have hn := hN.n
    have hBt := hB.tones hk t ht
    have hkt : k < (bfT (nxP N) okA B k t).m := Nat.lt_of_lt_of_le hk (bfT_pre _ _ B k t).1
    obtain ⟨hst, hm16⟩ := deaf_bd hN hx hBt
    obtain ⟨hv1, hv2⟩ := hst k hkt
    have hnx : nxP N ((bfT (nxP N) okA B k t).st k) t = pl N (((bfT (nxP N) okA B k t).st k) / 14) t * 14 + pl N (((bfT (nxP N) okA B k t).st k) % 14) t := nxD_0 (by rw [Nat.zero_div])
    have hT1 := bfT_ok (nx := nxP N) (ok := okA) (B := B) (k := k) (t := t) rfl
    refine rk_iload rfl rfl ?_
    refine rk_aload_n rfl rfl ?_
    refine rk_get rfl (by assumption) rfl ?_
    refine rk_iconst (v := nI 1) rfl (by decide) ?_
    refine rk_iald rfl (by assumption) (rfl) (by omega) (by decide) ?_
    rw [a1]
    refine rk_icmp_ge rfl rfl (fun hc43 => ?_) (fun hc43 => ?_)
    · replace hc43 := (nI_leI (by omega) (by omega)).mp hc43
      have ht2 : t = N 1 := by omega
      subst ht2
      exact z1 g F S
    · replace hc43 := mt (nI_leI (by omega) (by omega)).mpr hc43
      refine rk_aload_n rfl rfl ?_
      refine rk_aload_n rfl rfl ?_
      refine rk_aload_n rfl rfl ?_
      refine rk_get rfl (by assumption) rfl ?_
      refine rk_iload_n rfl rfl ?_
      refine rk_iald rfl (by assumption) (rfl) (by omega) (by decide) ?_
      rw [hst1 k hkt]
      refine rk_iload rfl rfl ?_
      refine rk_cv2e rfl rfl (by assumption) rfl rfl (Nat.le_of_ble_eq_true rfl) (Nat.le_of_ble_eq_true rfl) (s210N e52 e53 M hN hv1 (by omega)) ?_
      have hp1 := hN.xpl hv1 (i := t) (by omega)
      refine rk_aload_n rfl rfl ?_
      refine rk_aload_n rfl rfl ?_
      refine rk_get rfl (by assumption) rfl ?_
      refine rk_iload_n rfl rfl ?_
      refine rk_iald rfl (by assumption) (rfl) (by omega) (by decide) ?_
      rw [hst2 k hkt]
      refine rk_iload rfl rfl ?_
      refine rk_cv2e rfl rfl (by assumption) rfl rfl (Nat.le_of_ble_eq_true rfl) (Nat.le_of_ble_eq_true rfl) (s210N e52 e53 M hN hv2 (by omega)) ?_
      have hp2 := hN.xpl hv2 (i := t) (by omega)
      refine rk_iload_n rfl rfl ?_
      refine rk_iload rfl rfl ?_
      refine rk_cv4i rfl rfl (by assumption) rfl rfl (Nat.le_of_ble_eq_true rfl) (Nat.le_of_ble_eq_true rfl) (s232C (r1 := fun x => x / 14) (r2 := fun x => x % 14) (x := nxP N ((bfT (nxP N) okA B k t).st k) t) S hBt.1 (by show nxP N ((bfT (nxP N) okA B k t).st k) t / 14 = _; omega) (by show nxP N ((bfT (nxP N) okA B k t).st k) t % 14 = _; omega) (by omega) (by omega) (fun i _ z1 z2 => by have y1 : (bfT (nxP N) okA B k t).st i / 14 = nxP N ((bfT (nxP N) okA B k t).st k) t / 14 := z1; have y2 : (bfT (nxP N) okA B k t).st i % 14 = nxP N ((bfT (nxP N) okA B k t).st k) t % 14 := z2; omega) (by omega)) (fun w h1 hF => ?_)
      obtain ⟨rfl, F1, S1⟩ := hF
      rw [← hT1] at S1
      refine rk_pop rfl ?_
      refine rk_iinc rfl rfl (n_inc _) rfl ?_
      refine rk_goto rfl rfl ?_
      exact ih (t + 1) _ (by omega) (by omega) (F.tr F1) S1
theorem l261 {X : ai_X} {h : ai_H} {w A : Nat → Int32} {N : Nat → Nat} {mk x : Nat} {c1 c2 : Int32} (c53 : h[53]? = some (cI 2346 A)) (hN : HN N) (M : MH A N) (hx : vD N x) : ∀ (d : Nat) (k : Nat) (g : ai_H) (c4 : Option Value), 196 < k + d → (k ≤ (bfK (nxP N) okA (N 1) x k).m) → (k ≤ 196) → (FrM h g) → (MB g w mk (fun x => x / 14) (fun x => x % 14) (bfK (nxP N) okA (N 1) x k)) → (∀ i, i < k → ¬ gS N ((bfK (nxP N) okA (N 1) x k).st i) = true) → Rk X am_261 11 [some (.ref 52), some (.int c1), some (.int c2), some (.int (nI k)), c4] [] g (Qi (fun y h1 => FrM h h1 ∧ ((y = -1 ∧ (∀ i, i < (bfK (nxP N) okA (N 1) x 196).m → ¬ gS N ((bfK (nxP N) okA (N 1) x 196).st i) = true) ∧ MB h1 w mk (fun x => x / 14) (fun x => x % 14) (bfK (nxP N) okA (N 1) x 196)) ∨ ∃ k B, y = nI k ∧ k < 196 ∧ Pre B (bfK (nxP N) okA (N 1) x 196) ∧ BI (nxP N) okA (N 1) x B ∧ k < B.m ∧ gS N (B.st k) = true ∧ (∀ i, i < k → ¬ gS N (B.st i) = true) ∧ MB h1 w mk (fun x => x / 14) (fun x => x % 14) B))) := by
  intro d
  induction d with
  | zero => intro k g c4 hd hk hk2 F S G; exfalso; omega
  | succ d ih =>
    intro k g c4 hd hk hk2 F S G
    obtain ⟨a0, a1, a268, a269, a270, a271, apl, apc, aot, asg, awt⟩ := id M
    obtain ⟨v, e52, hv21, hv22, -⟩ := S.obj
    obtain ⟨f57, f58, e57, e58, hsts⟩ := S.sts
    have hst1 : ∀ i, i < (bfK (nxP N) okA (N 1) x k).m → f57 i = nI ((bfK (nxP N) okA (N 1) x k).st i / 14) := fun i hi => (hsts i hi).1
    have hst2 : ∀ i, i < (bfK (nxP N) okA (N 1) x k).m → f58 i = nI ((bfK (nxP N) okA (N 1) x k).st i % 14) := fun i hi => (hsts i hi).2
    have e53 := (F.2 53 (by omega) (by omega)).trans c53
    have h6 := hN.t
    have hn := hN.n
    have hBk := BI.heads (nx := nxP N) (ok := okA) (T := N 1) (x := x) k
    obtain ⟨hst, hm16⟩ := deaf_bd hN hx hBk
    refine rk_iload_n rfl rfl ?_
    refine rk_aload_n rfl rfl ?_
    refine rk_get rfl (by assumption) rfl ?_
    rw [hv21]
    refine rk_icmp_ge rfl rfl (fun hc14 => ?_) (fun hc14 => ?_)
    · replace hc14 := (nI_leI (by omega) (by omega)).mp hc14
      refine rk_iconst (v := (-1)) rfl (by decide) ?_
      have hend := bfK_end (nx := nxP N) (ok := okA) (T := N 1) (x := x) (k := k) (W := 196) (by omega) (by omega)
      refine rk_ireturn rfl rfl ⟨_, _, rfl, F, Or.inl ⟨rfl, ?_, ?_⟩⟩
      · rw [hend]
        exact fun i hi => G i (by omega)
      · rw [hend]
        exact S
    · replace hc14 := mt (nI_leI (by omega) (by omega)).mpr hc14
      refine rk_aload_n rfl rfl ?_
      refine rk_get rfl (by assumption) rfl ?_
      refine rk_sipush (v := nI 254) rfl (by decide) ?_
      refine rk_aload_n rfl rfl ?_
      refine rk_get rfl (by assumption) rfl ?_
      refine rk_iload_n rfl rfl ?_
      refine rk_iald rfl (by assumption) (rfl) (by omega) (by decide) ?_
      rw [hst1 k (by omega)]
      obtain ⟨hv1, hv2⟩ := hst k (by omega)
      refine rk_iadd rfl (nI_add _ _) ?_
      refine rk_iald rfl (by assumption) (rfl) (by omega) (by decide) ?_
      rw [asg _ (by omega)]
      have hg1 := hN.xsg (r := (bfK (nxP N) okA (N 1) x k).st k / 14) (by omega)
      refine rk_aload_n rfl rfl ?_
      refine rk_get rfl (by assumption) rfl ?_
      refine rk_sipush (v := nI 254) rfl (by decide) ?_
      refine rk_aload_n rfl rfl ?_
      refine rk_get rfl (by assumption) rfl ?_
      refine rk_iload_n rfl rfl ?_
      refine rk_iald rfl (by assumption) (rfl) (by omega) (by decide) ?_
      rw [hst2 k (by omega)]
      refine rk_iadd rfl (nI_add _ _) ?_
      refine rk_iald rfl (by assumption) (rfl) (by omega) (by decide) ?_
      rw [asg _ (by omega)]
      have hg2 := hN.xsg (r := (bfK (nxP N) okA (N 1) x k).st k % 14) (by omega)
      refine rk_icmp_eq rfl rfl (fun hc33 => ?_) (fun hc33 => ?_)
      · replace hc33 := (nI_eq (by omega) (by omega)).mp hc33
        have hng : ¬ gS N ((bfK (nxP N) okA (N 1) x k).st k) = true := fun z => of_decide_eq_true z hc33
        refine rk_iconst (v := nI 0) rfl (by decide) ?_
        refine rk_istore rfl (Nat.le_of_ble_eq_true rfl) rfl ?_
        refine l261i (B := (bfK (nxP N) okA (N 1) x k)) c53 hN M hx hBk (by omega) ?_ (N 1 + 1) 0 g (by omega) (by omega) F S
        intro g2 F2 S2
        rw [← bfK_s (by omega)] at S2
        refine rk_iinc rfl rfl (n_inc _) rfl ?_
        refine rk_goto rfl rfl ?_
        have hpk := bfK_1 (nxP N) okA (N 1) x k
        have hp1 := hpk.1
        refine ih (k + 1) g2 _ (by omega) (by omega) (by omega) F2 S2 (fun i hi => ?_)
        rw [(hpk.2 i (by omega)).1]
        by_cases z : i = k
        · subst z; exact hng
        · exact G i (by omega)
      · replace hc33 := mt (nI_eq (by omega) (by omega)).mpr hc33
        have hgo : gS N ((bfK (nxP N) okA (N 1) x k).st k) = true := decide_eq_true hc33
        refine rk_iload_n rfl rfl ?_
        exact rk_ireturn rfl rfl ⟨_, _, rfl, F, Or.inr ⟨k, _, rfl, by omega, bfK_pre (by omega), hBk, by omega, hgo, G, S⟩⟩
theorem s261 {X : ai_X} {h : ai_H} {v A : Nat → Int32} {N : Nat → Nat} {mk a b : Nat} (c52 : h[52]? = some (cMdl v)) (c53 : h[53]? = some (cI 2346 A)) (hN : HN N) (M : MH A N) (ha : a < N 0) (hb : b < N 0) (H : MQs h mk) : Mt X am_261 [.ref 52, .int (nI a), .int (nI b)] h (Qi (fun y h1 => FrM h h1 ∧ ((y = -1 ∧ (∀ i, i < (bfK (nxP N) okA (N 1) (a * 14 + b) 196).m → ¬ gS N ((bfK (nxP N) okA (N 1) (a * 14 + b) 196).st i) = true) ∧ MB h1 v (mk + 1) (fun x => x / 14) (fun x => x % 14) (bfK (nxP N) okA (N 1) (a * 14 + b) 196)) ∨ ∃ k B, y = nI k ∧ k < 196 ∧ Pre B (bfK (nxP N) okA (N 1) (a * 14 + b) 196) ∧ BI (nxP N) okA (N 1) (a * 14 + b) B ∧ k < B.m ∧ gS N (B.st k) = true ∧ (∀ i, i < k → ¬ gS N (B.st i) = true) ∧ MB h1 v (mk + 1) (fun x => x / 14) (fun x => x % 14) B))) := by
  have hn := hN.n
  refine rk_aload_n rfl rfl ?_
  refine rk_cv0v rfl rfl (by assumption) rfl rfl (Nat.le_of_ble_eq_true rfl) (Nat.le_of_ble_eq_true rfl) (s231Q H c52) (fun h1 hF => ?_)
  obtain ⟨F1, E1⟩ := hF
  obtain ⟨v1, e52⟩ := E1.obj
  refine rk_aload_n rfl rfl ?_
  refine rk_iload_n rfl rfl ?_
  refine rk_iload_n rfl rfl ?_
  refine rk_iconst (v := (-1)) rfl (by decide) ?_
  refine rk_iconst (v := (-1)) rfl (by decide) ?_
  refine rk_cv4i rfl rfl (by assumption) rfl rfl (Nat.le_of_ble_eq_true rfl) (Nat.le_of_ble_eq_true rfl) (s232RC (r1 := fun x => x / 14) (r2 := fun x => x % 14) (x := a * 14 + b) E1 (ab14 (by omega)).1 (ab14 (by omega)).2 (by omega) (by omega)) (fun w h1 hF => ?_)
  obtain ⟨rfl, F2, S2⟩ := hF
  refine rk_pop rfl ?_
  refine rk_iconst (v := nI 0) rfl (by decide) ?_
  refine rk_istore_n rfl (Nat.le_of_ble_eq_true rfl) rfl ?_
  exact l261 c53 hN M (vP_ab hN ha hb) 197 0 _ _ (by omega) (by omega) (by omega) (F1.tr F2) S2 (fun i hi => absurd hi (by omega))
/-- what a search by pairs tells of the least number of tones -/
theorem pair_ev {N : Nat → Nat} {g : Nat → Bool} {x k : Nat} {B : Bf} (hN : HN N) (hx : vP N x) (P : Pre B (bfK (nxP N) okA (N 1) x 196)) (H : BI (nxP N) okA (N 1) x B) (hk : k < B.m) (hg : g (B.st k) = true) (hn : ∀ i, i < k → ¬ g (B.st i) = true) : lsP N g (dep B.pa k) x ∧ ev N g 196 x = nI (dep B.pa k) ∧ dep B.pa k < 196 ∧ ∀ i, i < dep B.pa k → rowTo B k i = gr (nxP N) (N 1) g (dep B.pa k) x i := by
  have h6 := hN.t
  have hI := BI.heads (nx := nxP N) (ok := okA) (T := N 1) (x := x) 196
  have hm := (deaf_bd hN hx hI).2
  have hC : BC (nxP N) (N 1) (bfK (nxP N) okA (N 1) x 196) := BC.of (fun _ => rfl) hm
  have hkm := P.1
  obtain ⟨a, b⟩ := bfs_gr (g := g) (by omega) hI hC (show k < (bfK (nxP N) okA (N 1) x 196).m by omega) (by rw [(P.2 k hk).1]; exact hg) (fun i hi => by rw [(P.2 i (by omega)).1]; exact hn i hi)
  rw [P.dep H hk] at a b
  have hlt := lsP_lt hN hx a
  exact ⟨a, ev_lst a (by omega), hlt, fun i hi => by rw [← P.row H hk]; exact b i hi⟩
theorem pair_no {N : Nat → Nat} {g : Nat → Bool} {x : Nat} (hN : HN N) (hx : vP N x) (hn : ∀ i, i < (bfK (nxP N) okA (N 1) x 196).m → ¬ g ((bfK (nxP N) okA (N 1) x 196).st i) = true) : (∀ k, ¬ rcP N g k x = true) ∧ ev N g 196 x = -1 := by
  have h6 := hN.t
  have hI := BI.heads (nx := nxP N) (ok := okA) (T := N 1) (x := x) 196
  have hm := (deaf_bd hN hx hI).2
  have hC : BC (nxP N) (N 1) (bfK (nxP N) okA (N 1) x 196) := BC.of (fun _ => rfl) hm
  have hr := bfs_no (g := g) (by omega) hI hC hn
  exact ⟨hr, ev_no (fun k _ => hr k)⟩
