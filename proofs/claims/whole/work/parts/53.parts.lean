/-! CHANCES -/
abbrev lI (n : Nat) : Int64 := Int64.ofNat n
theorem lI_add (a b : Nat) : lI a + lI b = lI (a + b) := (Int64.ofNat_add a b).symm
theorem lI_mul (a b : Nat) : lI a * lI b = lI (a * b) := (Int64.ofNat_mul a b).symm
theorem lI_toInt {n : Nat} (h : n < 2 ^ 63) : (lI n).toInt = (n : Int) := Int64.toInt_ofNat_of_lt h
theorem nI_lJ {n : Nat} (h : n < 2 ^ 31) : (nI n).toInt64 = lI n := by
  apply Int64.toInt_inj.mp
  rw [Int32.toInt_toInt64, nI_toInt h, lI_toInt (by omega)]
def sm (f : Nat → Nat) : Nat → Nat
  | 0 => 0
  | n + 1 => sm f n + f n
theorem sm_cg {f g : Nat → Nat} : ∀ n, (∀ i, i < n → f i = g i) → sm f n = sm g n
  | 0, _ => rfl
  | n + 1, h => by rw [sm, sm, sm_cg n (fun i hi => h i (by omega)), h n (by omega)]
theorem sm_un {q P : Nat → Nat} {a d : Nat} : ∀ n, a < n → sm (fun s => un q a (q a + d) s * P s) n = sm (fun s => q s * P s) n + d * P a
  | 0, h => by omega
  | n + 1, h => by
    rw [sm, sm]
    by_cases e : a = n
    · subst e
      rw [un_s, sm_cg (f := fun s => un q a (q a + d) s * P s) (g := fun s => q s * P s) a (fun i hi => by show un q a (q a + d) i * P i = _; rw [un_n (by omega)]), Nat.add_mul]
      omega
    · rw [sm_un n (by omega), un_n (by omega)]
      omega
theorem sm_z (P : Nat → Nat) : ∀ n, sm (fun s => 0 * P s) n = 0
  | 0 => rfl
  | n + 1 => by rw [sm, sm_z P n]; omega
theorem sm_one {P : Nat → Nat} {a : Nat} : ∀ n, (n ≤ a → sm (fun s => (if s = a then 1 else 0) * P s) n = 0) ∧ (a < n → sm (fun s => (if s = a then 1 else 0) * P s) n = P a)
  | 0 => ⟨fun _ => rfl, fun h => by omega⟩
  | n + 1 => by
    obtain ⟨h1, h2⟩ := sm_one (P := P) (a := a) n
    refine ⟨fun h => ?_, fun h => ?_⟩
    · rw [sm, h1 (by omega), if_neg (by omega)]; omega
    · rw [sm]
      by_cases e : n = a
      · rw [h1 (by omega), if_pos e, e]; omega
      · rw [h2 (by omega), if_neg e]; omega
theorem sm_one' {P : Nat → Nat} {a n : Nat} (h : a < n) : sm (fun s => P s * (if s = a then 1 else 0)) n = P a := by
  rw [sm_cg (g := fun s => (if s = a then 1 else 0) * P s) n (fun i _ => Nat.mul_comm _ _)]
  exact (sm_one n).2 h
/-- one tone back: the parts that come in -/
def bk1 (N : Nat → Nat) (t : Nat) (P : Nat → Nat) (r : Nat) : Nat := P (pl N r t) * (100 - pct N r t) + (if 0 < pct N r t then P (ot N r t) * pct N r t else 0)
def bk (N x : Nat → Nat) (room L : Nat) : Nat → Nat → Nat
  | 0 => fun r => if r = room then 1 else 0
  | k + 1 => bk1 N (x (L - 1 - k)) (bk N x room L k)
/-- one tone on: room by room -/
def fs (N : Nat → Nat) (t : Nat) (Q : Nat → Nat) : Nat → Nat → Nat
  | 0 => fun _ => 0
  | r + 1 => if 0 < pct N r t then un (un (fs N t Q r) (pl N r t) (fs N t Q r (pl N r t) + Q r * (100 - pct N r t))) (ot N r t) (un (fs N t Q r) (pl N r t) (fs N t Q r (pl N r t) + Q r * (100 - pct N r t)) (ot N r t) + Q r * pct N r t) else un (fs N t Q r) (pl N r t) (fs N t Q r (pl N r t) + Q r * (100 - pct N r t))
def fw2 (N x : Nat → Nat) (a : Nat) : Nat → Nat → Nat
  | 0 => fun r => if r = a then 1 else 0
  | k + 1 => fs N (x k) (fw2 N x a k) (N 0)
theorem fs_sum {N : Nat → Nat} {t : Nat} {Q P : Nat → Nat} (hN : HN N) (ht : t < N 1) : ∀ r, r ≤ N 0 → sm (fun s => fs N t Q r s * P s) (N 0) = sm (fun j => Q j * bk1 N t P j) r
  | 0, _ => sm_z P (N 0)
  | r + 1, hr => by
    have hn := hN.n
    have h6 := hN.t
    have ih := fs_sum (Q := Q) (P := P) hN ht r (by omega)
    have hp := hN.xpl (r := r) (i := t) (by omega) ht
    rw [sm, ← ih]
    by_cases h : 0 < pct N r t
    · have ho := hN.xot (r := r) (i := t) (by omega) (by omega) h
      rw [fs, if_pos h, sm_un (N 0) ho, sm_un (N 0) hp, bk1, if_pos h, Nat.mul_add, Nat.add_assoc, Nat.mul_assoc, Nat.mul_assoc, Nat.mul_comm (100 - pct N r t), Nat.mul_comm (pct N r t)]
    · rw [fs, if_neg h, sm_un (N 0) hp, bk1, if_neg h, Nat.add_zero, Nat.mul_assoc, Nat.mul_comm (100 - pct N r t)]
theorem fb_inv {N x : Nat → Nat} {a room L : Nat} (hN : HN N) (hx : ∀ j, j < L → x j < N 1) : ∀ k, k ≤ L → sm (fun r => fw2 N x a k r * bk N x room L (L - k) r) (N 0) = sm (fun r => fw2 N x a 0 r * bk N x room L L r) (N 0)
  | 0, _ => rfl
  | k + 1, hk => by
    rw [← fb_inv hN hx k (by omega), fw2, fs_sum hN (hx k (by omega)) (N 0) (Nat.le_refl _)]
    have e : L - k = (L - (k + 1)) + 1 := by omega
    rw [e, bk, show L - 1 - (L - (k + 1)) = k by omega]
/-- there and back -/
theorem fw_bk {N x : Nat → Nat} {a room L : Nat} (hN : HN N) (hx : ∀ j, j < L → x j < N 1) (ha : a < N 0) (hr : room < N 0) : fw2 N x a L room = bk N x room L L a := by
  have h := fb_inv (a := a) (room := room) hN hx L (Nat.le_refl _)
  rw [Nat.sub_self] at h
  have h1 := sm_one' (P := fw2 N x a L) hr
  have h2 := (sm_one (P := bk N x room L L) (a := a) (N 0)).2 ha
  exact h1.symm.trans (h.trans h2)
theorem bk_le {N x : Nat → Nat} {room L : Nat} (hN : HN N) (hx : ∀ j, j < L → x j < N 1) : ∀ k, k ≤ L → ∀ r, r < N 0 → bk N x room L k r ≤ 100 ^ k
  | 0, _, r, _ => by show (if r = room then 1 else 0) ≤ 1; split <;> omega
  | k + 1, hk, r, hr => by
    have hn := hN.n
    have h6 := hN.t
    have ht := hx (L - 1 - k) (by omega)
    have hp := hN.xpl hr ht
    have hc := hN.xpct (r := r) (i := x (L - 1 - k)) (by omega) (by omega)
    have ih := bk_le (room := room) hN hx k (by omega)
    show bk1 N (x (L - 1 - k)) (bk N x room L k) r ≤ 100 ^ (k + 1)
    rw [bk1, Nat.pow_succ]
    have h1 : bk N x room L k (pl N r (x (L - 1 - k))) * (100 - pct N r (x (L - 1 - k))) ≤ 100 ^ k * (100 - pct N r (x (L - 1 - k))) := Nat.mul_le_mul (ih _ hp) (Nat.le_refl _)
    by_cases h : 0 < pct N r (x (L - 1 - k))
    · have ho := hN.xot (r := r) (i := x (L - 1 - k)) (by omega) (by omega) h
      have h2 : bk N x room L k (ot N r (x (L - 1 - k))) * pct N r (x (L - 1 - k)) ≤ 100 ^ k * pct N r (x (L - 1 - k)) := Nat.mul_le_mul (ih _ ho) (Nat.le_refl _)
      have h3 : 100 ^ k * (100 - pct N r (x (L - 1 - k))) + 100 ^ k * pct N r (x (L - 1 - k)) = 100 ^ k * 100 := by rw [← Nat.mul_add, show 100 - pct N r (x (L - 1 - k)) + pct N r (x (L - 1 - k)) = 100 by omega]
      rw [if_pos h]
      omega
    · rw [if_neg h]
      have h3 : 100 ^ k * (100 - pct N r (x (L - 1 - k))) ≤ 100 ^ k * 100 := Nat.mul_le_mul (Nat.le_refl _) (by omega)
      omega
def AJ (h : ai_H) (p n L : Nat) (y : Nat → Nat) : Prop := ∃ f, h[p]? = some (cJ n f) ∧ ∀ k, k < L → f k = lI (y k)
theorem AJ.fr {h h1 : ai_H} {p n L : Nat} {y : Nat → Nat} (e : h1[p]? = h[p]?) (H : AJ h p n L y) : AJ h1 p n L y := by
  obtain ⟨f, a, b⟩ := H
  exact ⟨f, e.trans a, b⟩
section CPYJ
variable {X : ai_X} {M : ai_M} {k : Nat} {ls : ai_L} {t : List Value} {h : ai_H} {P : ai_O → Prop}
theorem rk_cpyJ {pc len b0 p q i a b n0 n1 sp dp n : Nat} {v0 : Value} {f g : Nat → Int64} (hr : (ai_mR M)[k]? = some (pc, .invokestatic i, len, v0, 5, b0, p, q)) (ha : h[a]? = some (cJ n0 f)) (hb : h[b]? = some (cJ n1 g)) (h1 : sp + n ≤ n0) (h2 : dp + n ≤ n1) (hn0 : n0 < 2 ^ 31) (hn1 : n1 < 2 ^ 31) (hs : ai_sum t ≤ 8) (z : Rk X M (k + 1) ls t (h.set b (cJ n1 (va_cpy f g sp dp n))) P) : Rk X M k ls (.int (nI n) :: .int (nI dp) :: .ref b :: .int (nI sp) :: .ref a :: t) h P := by
  refine rk_copy hr ?_ hs z
  simp only [ai_cpy, ha, hb]
  have c1 : (nI n).toNatClampNeg = n := nI_clamp (by omega)
  have c2 : (nI sp).toNatClampNeg = sp := nI_clamp (by omega)
  have c3 : (nI dp).toNatClampNeg = dp := nI_clamp (by omega)
  rw [c1, c2, c3, if_neg]
  rintro (w | w | w | w | w)
  · exact nI_pos (by omega) w
  · exact nI_pos (by omega) w
  · exact nI_pos (by omega) w
  · omega
  · omega
end CPYJ
abbrev cCh : ai_C := .inr (0, [.ref 3, .ref 42, .ref 43])
theorem l2i {X : ai_X} {h : ai_H} {N x : Nat → Nat} {q L room : Nat} (hN : HN N) (C : CH h 3 N) (d41 : h[41]? = some cCh) (R : RtAt h q L x) (hq : q = 15 ∨ q = 17) (hx : ∀ j, j < L → x j < N 1) (hL : L ≤ 40) (hr : room < N 0) {k : Nat} {i3 : Int32} (hk : k < L) {P : ai_O → Prop} (z : ∀ g c6, Fr 42 44 h g → AJ g 42 14 (N 0) (bk N x room L k) → AJ g 43 14 (N 0) (bk N x room L (k + 1)) → Rk X am_2 72 [some (.ref 41), some (.ref q), some (.int (nI room)), some (.int i3), some (.int (nI (x (L - 1 - k)))), some (.int (nI (N 0))), c6] [] g P) : ∀ (d : Nat) (a : Nat) (g : ai_H) (c6 : Option Value), N 0 < a + d → (a ≤ N 0) → (Fr 42 44 h g) → (AJ g 42 14 (N 0) (bk N x room L k)) → (AJ g 43 14 a (bk N x room L (k + 1))) → Rk X am_2 22 [some (.ref 41), some (.ref q), some (.int (nI room)), some (.int i3), some (.int (nI (x (L - 1 - k)))), some (.int (nI a)), c6] [] g (P) := by
  intro d
  induction d with
  | zero => intro a g c6 hd ha F A1 A2; exfalso; omega
  | succ d ih =>
    intro a g c6 hd ha F A1 A2
    have C2 := C.fr2 F (by omega)
    have e3 := C2.1
    have e41 := (F.2 41 (by omega)).trans d41
    have R2 := R.fr2 F (by omega)
    have eq := R2.choose_spec.1.1
    have hn := hN.n
    have h6 := hN.t
    obtain ⟨f1, c42, hf1⟩ := id A1
    obtain ⟨f2, c43, hf2⟩ := id A2
    have F0 : Fr 42 44 h g := F
    have hxk := hx (L - 1 - k) (by omega)
    have hbk : bk N x room L (k + 1) a = bk1 N (x (L - 1 - k)) (bk N x room L k) a := rfl
    have hpc := hN.xpct (r := a) (i := x (L - 1 - k))
    have hpl := hN.xpl (r := a) (i := x (L - 1 - k))
    refine rk_iload rfl rfl ?_
    refine rk_aload_n rfl rfl ?_
    refine rk_get rfl (by assumption) rfl ?_
    refine rk_get rfl (by assumption) rfl ?_
    refine rk_icmp_ge rfl rfl (fun hc26 => ?_) (fun hc26 => ?_)
    · replace hc26 := (nI_leI (by omega) (by omega)).mp hc26
      have ha2 : a = N 0 := by omega
      subst ha2
      exact z g _ F A1 A2
    · replace hc26 := mt (nI_leI (by omega) (by omega)).mpr hc26
      refine rk_aload_n rfl rfl ?_
      refine rk_get rfl (by assumption) rfl ?_
      refine rk_iload rfl rfl ?_
      refine rk_iload rfl rfl ?_
      refine rk_cv2e rfl rfl (by assumption) rfl rfl (Nat.le_of_ble_eq_true rfl) (Nat.le_of_ble_eq_true rfl) (s29N C2 (by omega) (by omega)) ?_
      replace hpc := hpc (by omega) (by omega)
      replace hpl := hpl (by omega) hxk
      refine rk_istore rfl (Nat.le_of_ble_eq_true rfl) rfl ?_
      refine rk_aload_n rfl rfl ?_
      refine rk_get rfl (by assumption) rfl ?_
      refine rk_iload rfl rfl ?_
      refine rk_aload_n rfl rfl ?_
      refine rk_get rfl (by assumption) rfl ?_
      refine rk_aload_n rfl rfl ?_
      refine rk_get rfl (by assumption) rfl ?_
      refine rk_iload rfl rfl ?_
      refine rk_iload rfl rfl ?_
      refine rk_cv2e rfl rfl (by assumption) rfl rfl (Nat.le_of_ble_eq_true rfl) (Nat.le_of_ble_eq_true rfl) (s27N C2 hN (by omega) hxk) ?_
      refine rk_lald rfl (by assumption) (rfl) (by omega) (by decide) ?_
      rw [hf1 _ hpl]
      refine rk_bipush (v := nI 100) rfl (by decide) ?_
      refine rk_iload rfl rfl ?_
      refine rk_isub rfl (pk_sub (by omega)) ?_
      refine rk_i2l rfl (nI_lJ (by omega)) ?_
      refine rk_lmul rfl (lI_mul _ _) ?_
      refine rk_last rfl c43 (rfl) (by omega) (by decide) ?_
      refine hp_gen c43 (fun h1 g1 hk1 hl1 => ?_)
      replace e3 := (hk1 _ (by omega)).trans e3
      replace e41 := (hk1 _ (by omega)).trans e41
      replace c42 := (hk1 _ (by omega)).trans c42
      replace C2 := C2.fr (fun q _ _ => hk1 q (by omega))
      replace F0 := F0.tr (Fr.mk1 hk1 hl1 (by omega) (by omega))
      replace c43 := g1
      refine rk_iload rfl rfl ?_
      refine rk_if_le rfl rfl (fun hc51 => ?_) (fun hc51 => ?_)
      · replace hc51 := (n0_le (by omega)).mp hc51
        have A4 : AJ h1 43 14 (a + 1) (bk N x room L (k + 1)) := ⟨_, c43, fun j hj => by
          simp only [vp_updL]
          by_cases y : j = a
          · rw [if_pos y, y, hbk, bk1, if_neg (by omega), Nat.add_zero]
          · rw [if_neg y]; exact hf2 j (by omega)⟩
        refine rk_iinc rfl rfl (n_inc _) rfl ?_
        refine rk_goto rfl rfl ?_
        exact ih (a + 1) _ _ (by omega) (by omega) F0 ⟨_, c42, hf1⟩ A4
      · replace hc51 := mt (n0_le (by omega)).mpr hc51
        refine rk_aload_n rfl rfl ?_
        refine rk_get rfl (by assumption) rfl ?_
        refine rk_iload rfl rfl ?_
        refine rk_dup2 rfl ?_
        refine rk_lald rfl (by assumption) (rfl) (by omega) (by decide) ?_
        rw [show vp_updL f2 a (lI (bk N x room L k (pl N a (x (L - 1 - k))) * (100 - pct N a (x (L - 1 - k))))) a = lI (bk N x room L k (pl N a (x (L - 1 - k))) * (100 - pct N a (x (L - 1 - k)))) from if_pos rfl]
        refine rk_aload_n rfl rfl ?_
        refine rk_get rfl (by assumption) rfl ?_
        refine rk_aload_n rfl rfl ?_
        refine rk_get rfl (by assumption) rfl ?_
        refine rk_iload rfl rfl ?_
        refine rk_iload rfl rfl ?_
        refine rk_cv2e rfl rfl (by assumption) rfl rfl (Nat.le_of_ble_eq_true rfl) (Nat.le_of_ble_eq_true rfl) (s28N C2 (by omega) (by omega) (by omega)) ?_
        have hot := hN.xot (r := a) (i := x (L - 1 - k)) (by omega) (by omega) (by omega)
        refine rk_lald rfl (by assumption) (rfl) (by omega) (by decide) ?_
        rw [hf1 _ hot]
        refine rk_iload rfl rfl ?_
        refine rk_i2l rfl (nI_lJ (by omega)) ?_
        refine rk_lmul rfl (lI_mul _ _) ?_
        refine rk_ladd rfl (lI_add _ _) ?_
        refine rk_last rfl c43 (rfl) (by omega) (by decide) ?_
        refine hp_gen c43 (fun h1 g1 hk1 hl1 => ?_)
        replace e3 := (hk1 _ (by omega)).trans e3
        replace e41 := (hk1 _ (by omega)).trans e41
        replace c42 := (hk1 _ (by omega)).trans c42
        replace C2 := C2.fr (fun q _ _ => hk1 q (by omega))
        replace F0 := F0.tr (Fr.mk1 hk1 hl1 (by omega) (by omega))
        replace c43 := g1
        have A4 : AJ h1 43 14 (a + 1) (bk N x room L (k + 1)) := ⟨_, c43, fun j hj => by
          simp only [vp_updL]
          by_cases y : j = a
          · rw [if_pos y, y, hbk, bk1, if_pos (by omega)]
          · rw [if_neg y, if_neg y]; exact hf2 j (by omega)⟩
        refine rk_iinc rfl rfl (n_inc _) rfl ?_
        refine rk_goto rfl rfl ?_
        exact ih (a + 1) _ _ (by omega) (by omega) F0 ⟨_, c42, hf1⟩ A4
theorem l2 {X : ai_X} {h : ai_H} {N x : Nat → Nat} {q L room : Nat} (hN : HN N) (C : CH h 3 N) (d41 : h[41]? = some cCh) (R : RtAt h q L x) (hq : q = 15 ∨ q = 17) (hx : ∀ j, j < L → x j < N 1) (hL : L ≤ 40) (hr : room < N 0) : ∀ (d : Nat) (k : Nat) (g : ai_H) (i3 : Int32) (c4 c5 c6 : Option Value), L < k + d → (k ≤ L) → (Fr 42 44 h g) → (AJ g 42 14 (N 0) (bk N x room L k)) → (ShJ g 43 14) → (i3 = nI (L - k) + Int32.ofInt (-1)) → Rk X am_2 14 [some (.ref 41), some (.ref q), some (.int (nI room)), some (.int i3), c4, c5, c6] [] g (Qv (fun h1 => Fr 42 44 h h1 ∧ AJ h1 42 14 (N 0) (bk N x room L L))) := by
  intro d
  induction d with
  | zero => intro k g i3 c4 c5 c6 hd hk F A1 S43 hi3; exfalso; omega
  | succ d ih =>
    intro k g i3 c4 c5 c6 hd hk F A1 S43 hi3
    have C2 := C.fr2 F (by omega)
    have e3 := C2.1
    have e41 := (F.2 41 (by omega)).trans d41
    have R2 := R.fr2 F (by omega)
    have eq := R2.choose_spec.1.1
    have hn := hN.n
    have h6 := hN.t
    by_cases hkL : k = L
    · subst hi3
      rw [show L - k = 0 by omega]
      refine rk_iload_n rfl rfl ?_
      refine rk_if_lt rfl rfl (fun _ => ?_) (fun hc => absurd (by decide) hc)
      rw [hkL] at A1
      exact rk_return rfl rfl ⟨_, rfl, F, A1⟩
    rw [n_dec (by omega)] at hi3
    subst hi3
    obtain ⟨f43, s43⟩ := S43
    refine rk_iload_n rfl rfl ?_
    refine rk_if_lt rfl rfl (fun hc15 => ?_) (fun hc15 => ?_)
    · replace hc15 := (n0_lt (by omega)).mp hc15
      exact hc15.elim
    · replace hc15 := mt (n0_lt (by omega)).mpr hc15
      refine rk_aload_n rfl rfl ?_
      refine rk_iload_n rfl rfl ?_
      refine rk_cv1e rfl rfl (by assumption) rfl rfl (Nat.le_of_ble_eq_true rfl) (Nat.le_of_ble_eq_true rfl) (s90N R2 (by omega) (by omega)) ?_
      rw [show L - k - 1 = L - 1 - k by omega]
      refine rk_istore rfl (Nat.le_of_ble_eq_true rfl) rfl ?_
      refine rk_iconst (v := nI 0) rfl (by decide) ?_
      refine rk_istore rfl (Nat.le_of_ble_eq_true rfl) rfl ?_
      refine l2i (h := h) hN C d41 R hq hx hL hr (by omega) (fun g2 c6 F2 B1 B2 => ?_) (N 0 + 1) 0 g _ (by omega) (by omega) F A1 ⟨f43, s43, fun j hj => absurd hj (by omega)⟩
      have C3 := C.fr2 F2 (by omega)
      have g3 := C3.1
      have g41 := (F2.2 41 (by omega)).trans d41
      obtain ⟨f1, b42, hb1⟩ := B1
      obtain ⟨f2, b43, hb2⟩ := B2
      refine rk_aload_n rfl rfl ?_
      refine rk_get rfl (by assumption) rfl ?_
      refine rk_iconst (v := nI 0) rfl (by decide) ?_
      refine rk_aload_n rfl rfl ?_
      refine rk_get rfl (by assumption) rfl ?_
      refine rk_iconst (v := nI 0) rfl (by decide) ?_
      refine rk_aload_n rfl rfl ?_
      refine rk_get rfl (by assumption) rfl ?_
      refine rk_get rfl (by assumption) rfl ?_
      refine rk_cpyJ rfl b43 b42 (by omega) (by omega) (by decide) (by decide) (Nat.le_of_ble_eq_true rfl) ?_
      refine hp_gen b42 (fun h3 k42 hk3 hl3 => ?_)
      refine rk_iinc rfl rfl rfl rfl ?_
      refine rk_goto rfl rfl ?_
      refine ih (k + 1) h3 _ _ _ _ (by omega) (by omega) (F2.tr (Fr.mk1 hk3 hl3 (by omega) (by omega))) ⟨_, k42, fun j hj => ?_⟩ ⟨_, (hk3 43 (by omega)).trans b43⟩ (by rw [show L - (k + 1) = L - k - 1 by omega, show L - 1 - k = L - k - 1 by omega])
      simp only [va_cpy]
      rw [if_pos (by omega), show 0 + (j - 0) = j by omega]
      exact hb2 j hj
theorem s2 {X : ai_X} {h : ai_H} {N x : Nat → Nat} {q L room : Nat} (hN : HN N) (C : CH h 3 N) (d41 : h[41]? = some cCh) (R : RtAt h q L x) (hq : q = 15 ∨ q = 17) (hx : ∀ j, j < L → x j < N 1) (hL : L ≤ 40) (hr : room < N 0) (S42 : ShJ h 42 14) (S43 : ShJ h 43 14) : Mt X am_2 [.ref 41, .ref q, .int (nI room)] h (Qv (fun h1 => Fr 42 44 h h1 ∧ AJ h1 42 14 (N 0) (bk N x room L L))) := by
  obtain ⟨f42, c42⟩ := S42
  obtain ⟨f43, c43⟩ := S43
  have hn := hN.n
  have e3 := C.1
  have e17 := R.choose_spec.1.1
  refine rk_aload_n rfl rfl ?_
  refine rk_get rfl (by assumption) rfl ?_
  refine rk_lconst (v := 0) rfl (by decide) ?_
  refine rk_cs2v rfl rfl rfl (Nat.le_of_ble_eq_true rfl) (Nat.le_of_ble_eq_true rfl) (s291 (v := 0) (by decide) c42) (fun h1 hF => ?_)
  obtain ⟨F1, f1, g42, hf1⟩ := hF
  have e41 := (F1.2 41 (by omega)).trans d41
  have F0 : Fr 42 44 h h1 := F1.mono (by omega) (by omega)
  have g43 := (F1.2 43 (by omega)).trans c43
  replace e17 := (F1.2 _ (by omega)).trans e17
  refine rk_aload_n rfl rfl ?_
  refine rk_get rfl (by assumption) rfl ?_
  refine rk_iload_n rfl rfl ?_
  refine rk_lconst (v := 1) rfl (by decide) ?_
  refine rk_last rfl g42 (rfl) (by omega) (by decide) ?_
  refine hp_gen g42 (fun h1 g1 hk1 hl1 => ?_)
  replace e41 := (hk1 _ (by omega)).trans e41
  replace g43 := (hk1 _ (by omega)).trans g43
  replace e17 := (hk1 _ (by omega)).trans e17
  replace F0 := F0.tr (Fr.mk1 hk1 hl1 (by omega) (by omega))
  replace g42 := g1
  refine rk_aload_n rfl rfl ?_
  refine rk_get rfl (by assumption) rfl ?_
  refine rk_iconst (v := nI 1) rfl (by decide) ?_
  refine rk_isub rfl rfl ?_
  refine rk_istore_n rfl (Nat.le_of_ble_eq_true rfl) rfl ?_
  refine (l2 hN (C.fr2 F0 (by omega)) e41 (R.fr2 F0 (by omega)) hq hx hL hr (L + 1) 0 _ _ _ _ _ (by omega) (by omega) Fr.rfl' ⟨_, g42, fun j hj => ?_⟩ ⟨_, g43⟩ (by rw [Nat.sub_zero, Int32.sub_eq_add_neg]; rfl)).mono ?_
  · simp only [vp_updL]
    by_cases y : j = room
    · rw [if_pos y, show bk N x room L 0 j = 1 from if_pos y]; rfl
    · rw [if_neg y, hf1 j (by omega), show bk N x room L 0 j = 0 from if_neg y]; rfl
  · rintro o ⟨h2, rfl, F2, A2⟩
    exact ⟨_, rfl, F0.tr F2, A2⟩
theorem s1 {X : ai_X} {h : ai_H} {N x : Nat → Nat} {q L room : Nat} (hN : HN N) (C : CH h 3 N) (d41 : h[41]? = some cCh) (R : RtAt h q L x) (hq : q = 15 ∨ q = 17) (hx : ∀ j, j < L → x j < N 1) (hL : L ≤ 40) (hr : room < N 0) (S42 : ShJ h 42 14) (S43 : ShJ h 43 14) {a : Nat} (ha : a < N 0) : Mt X am_1 [.ref 41, .ref q, .int (nI room), .int (nI a)] h (Ql (fun w h1 => w = lI (bk N x room L L a) ∧ Fr 42 44 h h1)) := by
  have hn := hN.n
  refine rk_aload_n rfl rfl ?_
  refine rk_aload_n rfl rfl ?_
  refine rk_iload_n rfl rfl ?_
  refine rk_cv2v rfl rfl (by assumption) rfl rfl (Nat.le_of_ble_eq_true rfl) (Nat.le_of_ble_eq_true rfl) (s2 hN C d41 R hq hx hL hr S42 S43) (fun h1 hF => ?_)
  obtain ⟨F1, f1, g42, hf1⟩ := hF
  have e41 := (F1.2 41 (by omega)).trans d41
  refine rk_aload_n rfl rfl ?_
  refine rk_get rfl (by assumption) rfl ?_
  refine rk_iload_n rfl rfl ?_
  refine rk_lald rfl (by assumption) (rfl) (by omega) (by decide) ?_
  rw [hf1 a ha]
  exact rk_lreturn rfl rfl ⟨_, _, rfl, rfl, F1⟩
