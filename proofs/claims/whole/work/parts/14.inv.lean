/-! CELLS AND WHAT HOLDS BETWEEN TWO CALLS -/
abbrev cI (n : Nat) (f : Nat → Int32) : ai_C := .inl (0, n, .inl f)
abbrev cJ (n : Nat) (f : Nat → Int64) : ai_C := .inl (1, n, .inr (.inl f))
abbrev cZ (n : Nat) (f : Nat → Int32) : ai_C := .inl (2, n, .inl f)
abbrev cR (t n : Nat) (f : Nat → Option Nat) : ai_C := .inl (t, n, .inr (.inr (.inr (.inr f))))
abbrev cOne (tp : Int32) : ai_C := .inr (10, [.ref 1, .int tp, .ref 2, .ref 3, .ref 9, .ref 15, .ref 17, .ref 19, .ref 20, .ref 21, .ref 22, .ref 23, .ref 24, .ref 27, .ref 33, .ref 36, .ref 41])
abbrev cHouse (p : Nat) (F : Nat → Int32) : ai_C := .inr (2, [.int (F 0), .int (F 1), .int (F 2), .int (F 3), .int (F 4), .int (F 5), .int (F 6), .ref (p + 1), .ref (p + 2), .ref (p + 3), .ref (p + 4), .ref (p + 5)])
abbrev cRoute (p : Nat) (n : Int32) : ai_C := .inr (6, [.int n, .ref (p + 1)])
abbrev cNum (p : Nat) (size sort : Int32) : ai_C := .inr (3, [.int size, .int sort, .ref (p + 1)])
abbrev cRead (rf : Value) (g : Nat → Int32) : ai_C := .inr (5, [.int (g 0), .int (g 1), rf, .int (g 3), .int (g 4), .int (g 5), .int (g 6)])
abbrev cSrch (cap mask : Int32) (a b c : Value) (base many : Int32) : ai_C := .inr (7, [.int cap, .int mask, a, b, c, .int base, .int many])
abbrev cSets (n1 n2 : Int32) (a b : Value) : ai_C := .inr (8, [.ref 3, .ref 22, .ref 25, .ref 26, .int n1, .int n2, a, b])
abbrev cMdl (v : Nat → Int32) : ai_C := .inr (11, [.int (v 0), .ref 53, .ref 54, .ref 55, .ref 56, .int (v 5), .int (v 6), .int (v 7), .int (v 8), .int (v 9), .int (v 10), .int (v 11), .int (v 12), .int (v 13), .int (v 14), .ref 57, .ref 58, .ref 59, .ref 60, .ref 61, .ref 62, .int (v 21), .int (v 22), .ref 63, .ref 64, .ref 65, .ref 66, .ref 67, .ref 68, .ref 69, .ref 70, .ref 71, .ref 72, .ref 73, .ref 74, .ref 75, .ref 76, .ref 77, .ref 78, .ref 79])
/-- a house's cells: the object at p, its five rows behind it -/
def HouseAt (h : ai_H) (p : Nat) (F : Nat → Int32) (G : Nat → Nat → Int32) : Prop := h[p]? = some (cHouse p F) ∧ h[p + 1]? = some (cI 84 (G 0)) ∧ h[p + 2]? = some (cI 84 (G 1)) ∧ h[p + 3]? = some (cI 84 (G 2)) ∧ h[p + 4]? = some (cI 14 (G 3)) ∧ h[p + 5]? = some (cI 8 (G 4))
def RouteAt (h : ai_H) (p : Nat) (n : Int32) (f : Nat → Int32) : Prop := h[p]? = some (cRoute p n) ∧ h[p + 1]? = some (cI 500 f)
def NumAt (h : ai_H) (p : Nat) (size sort : Int32) (f : Nat → Int64) : Prop := h[p]? = some (cNum p size sort) ∧ h[p + 1]? = some (cJ 40 f)
def ShI (h : ai_H) (i n : Nat) : Prop := ∃ f, h[i]? = some (cI n f)
def ShJ (h : ai_H) (i n : Nat) : Prop := ∃ f, h[i]? = some (cJ n f)
def ShZ (h : ai_H) (i n : Nat) : Prop := ∃ f, h[i]? = some (cZ n f)
/-- the class's house is what the model's row holds from 'off' on: numbers, signs and chances always, waiters as far as there are any, ways where there are tones -/
def HC (F : Nat → Int32) (G : Nat → Nat → Int32) (A : Nat → Int32) (off : Nat) : Prop :=
  F 0 = A off ∧ F 1 = A (off + 1) ∧ F 2 = A (off + 280) ∧ F 3 = A (off + 270) ∧ F 4 = A (off + 271) ∧ F 5 = A (off + 268) ∧ F 6 = A (off + 269) ∧
  (∀ k, k < 14 → G 3 k = A (off + 254 + k)) ∧ (∀ k, k < 84 → G 2 k = A (off + 170 + k)) ∧
  (∀ w, w < (F 4).toNatClampNeg → G 4 w = A (off + 272 + w)) ∧
  (¬ F 1 = 0 → ∀ k, k < 84 → G 0 k = A (off + 2 + k) ∧ G 1 k = A (off + 86 + k))
/-- a house as a text can tell it (n rooms, t tones, w waiters), or none -/
def HV (A : Nat → Int32) (off n t w : Nat) : Prop :=
  A off = nI n ∧ A (off + 1) = nI t ∧ A (off + 271) = nI w ∧ w ≤ 8 ∧ (∃ l, l ≤ 600 ∧ A (off + 280) = nI l) ∧
  ((n = 0 ∧ t = 0 ∧ w = 0) ∨ (2 ≤ n ∧ n ≤ 14 ∧ 1 ≤ t ∧ t ≤ 6)) ∧
  (∃ p, A (off + 270) = nI p ∧ (p < n ∨ (n = 0 ∧ p = 0))) ∧ (∃ b, A (off + 268) = nI b ∧ b < 2 ^ n) ∧ (∃ b, A (off + 269) = nI b ∧ b < 2 ^ n) ∧
  (∀ k, k < 14 → ∃ g, g < 10 ∧ A (off + 254 + k) = nI g) ∧ (∀ k, k < w → ∃ r, r < n ∧ A (off + 272 + k) = nI r) ∧
  (∀ r i, r < n → i < t → ∃ q, q < n ∧ A (off + 2 + (6 * r + i)) = nI q) ∧
  (∀ r i, r < 14 → i < 6 → (∃ c, c < 100 ∧ A (off + 170 + (6 * r + i)) = nI c ∧ (n = 0 ∨ (c = 0 ↔ A (off + 86 + (6 * r + i)) = -1)) ∧ (0 < c → r < n ∧ i < t ∧ ∃ q, q < n ∧ A (off + 86 + (6 * r + i)) = nI q)))
/-- a row that was found: its length or -1, tones within t -/
def FV (A : Nat → Int32) (off t : Nat) : Prop := A (off + 281) = -1 ∨ ∃ n, n ≤ 500 ∧ A (off + 281) = nI n ∧ ∀ i, i < n → ∃ x, x < t ∧ A (off + 282 + i) = nI x
def FC (n : Int32) (f : Nat → Int32) (A : Nat → Int32) (off : Nat) : Prop := n = A (off + 281) ∧ ∀ i, i < (A (off + 281)).toNatClampNeg → f i = A (off + 282 + i)
/-! writing a number into an object's field -/
section PUTS
variable {X : ai_X} {M : ai_M} {k : Nat} {ls : ai_L} {st : List Value} {h : ai_H} {P : ai_O → Prop}
theorem rk_putM {pc len f p q i : Nat} {v0 : Value} {v : Nat → Int32} {w : Int32} (hr : (ai_mR M)[k]? = some (pc, .putfield i, len, v0, 11, f, p, q)) (hh : h[52]? = some (cMdl v)) (hf : f = 0 ∨ f = 5 ∨ f = 6 ∨ f = 7 ∨ f = 8 ∨ f = 9 ∨ f = 10 ∨ f = 11 ∨ f = 12 ∨ f = 13 ∨ f = 14 ∨ f = 21 ∨ f = 22) (z : ∀ h1 : ai_H, h1[52]? = some (cMdl (upd v f w)) → (∀ q : Nat, q ≠ 52 → h1[q]? = h[q]?) → h1.length = h.length → Rk X M (k + 1) ls st h1 P) : Rk X M k ls (.int w :: .ref 52 :: st) h P := by
  rcases hf with rfl | rfl | rfl | rfl | rfl | rfl | rfl | rfl | rfl | rfl | rfl | rfl | rfl
  · exact rk_put hr hh (Nat.le_of_ble_eq_true rfl) ft_11_0 rfl (Or.inl rfl) rfl (hp_gen hh z)
  · exact rk_put hr hh (Nat.le_of_ble_eq_true rfl) ft_11_5 rfl (Or.inl rfl) rfl (hp_gen hh z)
  · exact rk_put hr hh (Nat.le_of_ble_eq_true rfl) ft_11_6 rfl (Or.inl rfl) rfl (hp_gen hh z)
  · exact rk_put hr hh (Nat.le_of_ble_eq_true rfl) ft_11_7 rfl (Or.inl rfl) rfl (hp_gen hh z)
  · exact rk_put hr hh (Nat.le_of_ble_eq_true rfl) ft_11_8 rfl (Or.inl rfl) rfl (hp_gen hh z)
  · exact rk_put hr hh (Nat.le_of_ble_eq_true rfl) ft_11_9 rfl (Or.inl rfl) rfl (hp_gen hh z)
  · exact rk_put hr hh (Nat.le_of_ble_eq_true rfl) ft_11_10 rfl (Or.inl rfl) rfl (hp_gen hh z)
  · exact rk_put hr hh (Nat.le_of_ble_eq_true rfl) ft_11_11 rfl (Or.inl rfl) rfl (hp_gen hh z)
  · exact rk_put hr hh (Nat.le_of_ble_eq_true rfl) ft_11_12 rfl (Or.inl rfl) rfl (hp_gen hh z)
  · exact rk_put hr hh (Nat.le_of_ble_eq_true rfl) ft_11_13 rfl (Or.inl rfl) rfl (hp_gen hh z)
  · exact rk_put hr hh (Nat.le_of_ble_eq_true rfl) ft_11_14 rfl (Or.inl rfl) rfl (hp_gen hh z)
  · exact rk_put hr hh (Nat.le_of_ble_eq_true rfl) ft_11_21 rfl (Or.inl rfl) rfl (hp_gen hh z)
  · exact rk_put hr hh (Nat.le_of_ble_eq_true rfl) ft_11_22 rfl (Or.inl rfl) rfl (hp_gen hh z)
theorem rk_putH {pc len f p q i ad : Nat} {v0 : Value} {F : Nat → Int32} {w : Int32} (hr : (ai_mR M)[k]? = some (pc, .putfield i, len, v0, 2, f, p, q)) (hh : h[ad]? = some (cHouse ad F)) (hf : f < 7) (z : ∀ h1 : ai_H, h1[ad]? = some (cHouse ad (upd F f w)) → (∀ q : Nat, q ≠ ad → h1[q]? = h[q]?) → h1.length = h.length → Rk X M (k + 1) ls st h1 P) : Rk X M k ls (.int w :: .ref ad :: st) h P := by
  rcases (show f = 0 ∨ f = 1 ∨ f = 2 ∨ f = 3 ∨ f = 4 ∨ f = 5 ∨ f = 6 by omega) with rfl | rfl | rfl | rfl | rfl | rfl | rfl
  · exact rk_put hr hh (Nat.le_of_ble_eq_true rfl) ft_2_0 rfl (Or.inl rfl) rfl (hp_gen hh z)
  · exact rk_put hr hh (Nat.le_of_ble_eq_true rfl) ft_2_1 rfl (Or.inl rfl) rfl (hp_gen hh z)
  · exact rk_put hr hh (Nat.le_of_ble_eq_true rfl) ft_2_2 rfl (Or.inl rfl) rfl (hp_gen hh z)
  · exact rk_put hr hh (Nat.le_of_ble_eq_true rfl) ft_2_3 rfl (Or.inl rfl) rfl (hp_gen hh z)
  · exact rk_put hr hh (Nat.le_of_ble_eq_true rfl) ft_2_4 rfl (Or.inl rfl) rfl (hp_gen hh z)
  · exact rk_put hr hh (Nat.le_of_ble_eq_true rfl) ft_2_5 rfl (Or.inl rfl) rfl (hp_gen hh z)
  · exact rk_put hr hh (Nat.le_of_ble_eq_true rfl) ft_2_6 rfl (Or.inl rfl) rfl (hp_gen hh z)
end PUTS
/-! the shapes of cells stay: whatever runs -/
def ai_sk : ai_C → Nat × Nat × Nat
  | .inl (t, n, .inl _) => (0, t, n)
  | .inl (t, n, .inr (.inl _)) => (1, t, n)
  | .inl (t, n, .inr (.inr (.inl _))) => (2, t, n)
  | .inl (t, n, .inr (.inr (.inr (.inl _)))) => (3, t, n)
  | .inl (t, n, .inr (.inr (.inr (.inr _)))) => (4, t, n)
  | .inr (c, fs) => (5, c, fs.length)
def ai_Sk (h h1 : ai_H) : Prop := ∀ (i : Nat) (c : ai_C), h[i]? = some c → ∃ c1, h1[i]? = some c1 ∧ ai_sk c1 = ai_sk c
theorem ai_Sk.refl (h : ai_H) : ai_Sk h h := fun i c hc => ⟨c, hc, rfl⟩
theorem ai_Sk.trans {h h1 h2 : ai_H} (a : ai_Sk h h1) (b : ai_Sk h1 h2) : ai_Sk h h2 := fun i c hc => by
  obtain ⟨c1, e1, s1⟩ := a i c hc
  obtain ⟨c2, e2, s2⟩ := b i c1 e1
  exact ⟨c2, e2, s2.trans s1⟩
theorem ai_Sk.set {h : ai_H} {a : Nat} {c c1 : ai_C} (hc : h[a]? = some c) (e : ai_sk c1 = ai_sk c) : ai_Sk h (h.set a c1) := fun i d hd => by
  by_cases hi : i = a
  · subst hi
    rw [hc] at hd
    cases hd
    exact ⟨c1, List.getElem?_set_self (List.getElem?_eq_some_iff.mp hc).1, e⟩
  · exact ⟨d, by rw [List.getElem?_set_ne (Ne.symm hi)]; exact hd, rfl⟩
theorem ai_Sk.app {h : ai_H} {c : ai_C} : ai_Sk h (h ++ [c]) := fun i d hd => ⟨d, by rw [List.getElem?_append_left (List.getElem?_eq_some_iff.mp hd).1]; exact hd, rfl⟩
set_option maxHeartbeats 4000000 in
theorem ai_stp_sk {X : ai_X} {M : ai_M} {r : ai_R} {rs rs' : List ai_R} {ls ls' : ai_L} {st st' : List Value} {h h' : ai_H} (hs : ai_stp X M r rs ls st h = some (rs', ls', st', h')) : ai_Sk h h' := by
  unfold ai_stp at hs
  simp only [ai_br] at hs
  split at hs <;> (repeat' split at hs) <;> first | (cases hs; done) | (simp only [Option.some.injEq, Prod.mk.injEq] at hs; obtain ⟨-, -, -, rfl⟩ := hs; first | exact ai_Sk.refl _ | exact ai_Sk.set (by assumption) (by simp [ai_sk]))
theorem ai_cpy_sk {st t : List Value} {h h' : ai_H} (hs : ai_cpy st h = some (t, h')) : ai_Sk h h' := by
  unfold ai_cpy at hs
  (repeat' split at hs) <;> first | (cases hs; done) | (simp only [Option.some.injEq, Prod.mk.injEq] at hs; obtain ⟨-, rfl⟩ := hs; exact ai_Sk.set (by assumption) (by simp [ai_sk]))
theorem ai_run_sk {X : ai_X} : ∀ (n : Nat) (M : ai_M) (rs : List ai_R) (ls : ai_L) (st : List Value) (h : ai_H) (o : ai_O), ai_run X n M (rs, ls, st, h) = some o → ai_Sk h o.2.1 := by
  intro n
  induction n with
  | zero => intro M rs ls st h o hr; simp [ai_run] at hr
  | succ n ih =>
    intro M rs ls st h o hr
    cases rs with
    | nil => exact absurd rfl (ai_run_ne hr)
    | cons r rs =>
    unfold ai_run at hr
    split at hr
    · split at hr
      · rename_i s1 hs1
        obtain ⟨rs1, ls1, st1, h1⟩ := s1
        exact (ai_stp_sk hs1).trans (ih _ _ _ _ _ _ hr)
      · cases hr
    · (repeat' split at hr) <;> first | (cases hr; done) | (cases hr; exact ai_Sk.refl _)
    · (repeat' split at hr) <;> first | (cases hr; done) | (cases hr; exact ai_Sk.refl _)
    · (repeat' split at hr) <;> first | (cases hr; done) | (cases hr; exact ai_Sk.refl _)
    · split at hr
      · obtain ⟨o1, ho1, rfl⟩ := Option.map_eq_some_iff.mp hr
        have e1 := ih _ _ _ _ _ _ ho1
        exact ai_Sk.app.trans e1
      · cases hr
    · split at hr
      · split at hr
        · cases hr
        · obtain ⟨o1, ho1, rfl⟩ := Option.map_eq_some_iff.mp hr
          have e1 := ih _ _ _ _ _ _ ho1
          exact ai_Sk.app.trans e1
      · cases hr
    · split at hr
      · split at hr
        · cases hr
        · obtain ⟨o1, ho1, rfl⟩ := Option.map_eq_some_iff.mp hr
          have e1 := ih _ _ _ _ _ _ ho1
          exact ai_Sk.app.trans e1
      · cases hr
    · split at hr
      · (repeat' split at hr) <;> first | (cases hr; done) | exact ih _ _ _ _ _ _ hr
      · split at hr
        · split at hr
          · rename_i t h1 hcp
            split at hr
            · exact (ai_cpy_sk hcp).trans (ih _ _ _ _ _ _ hr)
            · cases hr
          · cases hr
        · split at hr
          · (repeat' split at hr) <;> first | (cases hr; done) | exact ih _ _ _ _ _ _ hr
          · split at hr
            · (repeat' split at hr) <;> first | (cases hr; done) | exact ih _ _ _ _ _ _ hr
            · split at hr
              · (repeat' split at hr) <;> first | (cases hr; done) | exact ih _ _ _ _ _ _ hr
              · split at hr
                · (repeat' split at hr) <;> first | (cases hr; done) | exact ih _ _ _ _ _ _ hr
                · split at hr
                  · split at hr
                    · split at hr
                      · split at hr
                        · split at hr
                          · rename_i o1 ho1
                            obtain ⟨o2, ho2, rfl⟩ := Option.map_eq_some_iff.mp hr
                            have e1 := ih _ _ _ _ _ _ ho1
                            have e2 := ih _ _ _ _ _ _ ho2
                            exact e1.trans e2
                          · cases hr
                        · cases hr
                      · cases hr
                    · cases hr
                  · cases hr
    · cases hr
/-- shapes stay over a call -/
theorem Mt.sk {X : ai_X} {M : ai_M} {av : List Value} {h : ai_H} {P : ai_O → Prop} (z : Mt X M av h P) : Mt X M av h (fun o => P o ∧ ai_Sk h o.2.1) := by
  obtain ⟨n, o, hn, hP⟩ := z
  exact ⟨n, o, hn, hP, ai_run_sk n _ _ _ _ _ _ hn⟩
theorem ShI.sk {h h1 : ai_H} {i n : Nat} (s : ai_Sk h h1) (a : ShI h i n) : ShI h1 i n := by
  obtain ⟨f, hf⟩ := a
  obtain ⟨c, e, k⟩ := s i _ hf
  rcases c with ⟨t, m, g | g | g | g | g⟩ | ⟨d, fs⟩ <;> simp [ai_sk] at k
  obtain ⟨rfl, rfl⟩ := k
  exact ⟨g, e⟩
theorem ShJ.sk {h h1 : ai_H} {i n : Nat} (s : ai_Sk h h1) (a : ShJ h i n) : ShJ h1 i n := by
  obtain ⟨f, hf⟩ := a
  obtain ⟨c, e, k⟩ := s i _ hf
  rcases c with ⟨t, m, g | g | g | g | g⟩ | ⟨d, fs⟩ <;> simp [ai_sk] at k
  obtain ⟨rfl, rfl⟩ := k
  exact ⟨g, e⟩
theorem ShZ.sk {h h1 : ai_H} {i n : Nat} (s : ai_Sk h h1) (a : ShZ h i n) : ShZ h1 i n := by
  obtain ⟨f, hf⟩ := a
  obtain ⟨c, e, k⟩ := s i _ hf
  rcases c with ⟨t, m, g | g | g | g | g⟩ | ⟨d, fs⟩ <;> simp [ai_sk] at k
  obtain ⟨rfl, rfl⟩ := k
  exact ⟨g, e⟩
