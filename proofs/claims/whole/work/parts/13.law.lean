/-! the law's loop: out of one obligation a call -/
section LAWR
variable {X : ai_X} {M : ai_M} {k : Nat} {ls : ai_L} {st t : List Value} {h : ai_H} {P : ai_O → Prop}
theorem rk_cg0 {pc len b p q i ad c : Nat} {v0 : Value} {M1 : ai_M} {fs : List Value} {P1 : ai_O → Prop} (hr : (ai_mR M)[k]? = some (pc, .invokevirtual i, len, v0, 0, b, p, q)) (hM : ai_mt[b]? = some M1) (hh : h[ad]? = some (.inr (c, fs))) (hc : c = ai_mC M1) (hn : 0 = ai_mN M1) (hfl : (ai_fl [.ref ad]).length ≤ ai_mL M1) (hs : ai_sum t ≤ 8) (hm : Mt X M1 [.ref ad] h P1) (z : ∀ o1 : ai_O, P1 o1 → Rk X M (k + 1) ls (o1.1.toList ++ t) o1.2.1 (fun o => P (ai_add o1.2.2.1 o1.2.2.2 o))) : Rk X M k ls (.ref ad :: t) h P :=
  rk_call hr rfl (Nat.le_of_ble_eq_true rfl) hM (rk_arg (as := []) (by show (0 : Nat) ≠ 1; decide) hh hc hn) hfl hs hm z
theorem rk_cg1 {pc len b p q i ad c : Nat} {v0 : Value} {M1 : ai_M} {x0 : Value} {fs : List Value} {P1 : ai_O → Prop} (hr : (ai_mR M)[k]? = some (pc, .invokevirtual i, len, v0, 0, b, p, q)) (hM : ai_mt[b]? = some M1) (hh : h[ad]? = some (.inr (c, fs))) (hc : c = ai_mC M1) (hn : 1 = ai_mN M1) (hfl : (ai_fl [.ref ad, x0]).length ≤ ai_mL M1) (hs : ai_sum t ≤ 8) (hm : Mt X M1 [.ref ad, x0] h P1) (z : ∀ o1 : ai_O, P1 o1 → Rk X M (k + 1) ls (o1.1.toList ++ t) o1.2.1 (fun o => P (ai_add o1.2.2.1 o1.2.2.2 o))) : Rk X M k ls (x0 :: .ref ad :: t) h P :=
  rk_call hr rfl (Nat.le_of_ble_eq_true rfl) hM (rk_arg (as := [x0]) (by show (0 : Nat) ≠ 1; decide) hh hc hn) hfl hs hm z
theorem rk_cg2 {pc len b p q i ad c : Nat} {v0 : Value} {M1 : ai_M} {x0 x1 : Value} {fs : List Value} {P1 : ai_O → Prop} (hr : (ai_mR M)[k]? = some (pc, .invokevirtual i, len, v0, 0, b, p, q)) (hM : ai_mt[b]? = some M1) (hh : h[ad]? = some (.inr (c, fs))) (hc : c = ai_mC M1) (hn : 2 = ai_mN M1) (hfl : (ai_fl [.ref ad, x0, x1]).length ≤ ai_mL M1) (hs : ai_sum t ≤ 8) (hm : Mt X M1 [.ref ad, x0, x1] h P1) (z : ∀ o1 : ai_O, P1 o1 → Rk X M (k + 1) ls (o1.1.toList ++ t) o1.2.1 (fun o => P (ai_add o1.2.2.1 o1.2.2.2 o))) : Rk X M k ls (x1 :: x0 :: .ref ad :: t) h P :=
  rk_call hr rfl (Nat.le_of_ble_eq_true rfl) hM (rk_arg (as := [x0, x1]) (by show (0 : Nat) ≠ 1; decide) hh hc hn) hfl hs hm z
theorem rk_cg3 {pc len b p q i ad c : Nat} {v0 : Value} {M1 : ai_M} {x0 x1 x2 : Value} {fs : List Value} {P1 : ai_O → Prop} (hr : (ai_mR M)[k]? = some (pc, .invokevirtual i, len, v0, 0, b, p, q)) (hM : ai_mt[b]? = some M1) (hh : h[ad]? = some (.inr (c, fs))) (hc : c = ai_mC M1) (hn : 3 = ai_mN M1) (hfl : (ai_fl [.ref ad, x0, x1, x2]).length ≤ ai_mL M1) (hs : ai_sum t ≤ 8) (hm : Mt X M1 [.ref ad, x0, x1, x2] h P1) (z : ∀ o1 : ai_O, P1 o1 → Rk X M (k + 1) ls (o1.1.toList ++ t) o1.2.1 (fun o => P (ai_add o1.2.2.1 o1.2.2.2 o))) : Rk X M k ls (x2 :: x1 :: x0 :: .ref ad :: t) h P :=
  rk_call hr rfl (Nat.le_of_ble_eq_true rfl) hM (rk_arg (as := [x0, x1, x2]) (by show (0 : Nat) ≠ 1; decide) hh hc hn) hfl hs hm z
theorem rk_cg4 {pc len b p q i ad c : Nat} {v0 : Value} {M1 : ai_M} {x0 x1 x2 x3 : Value} {fs : List Value} {P1 : ai_O → Prop} (hr : (ai_mR M)[k]? = some (pc, .invokevirtual i, len, v0, 0, b, p, q)) (hM : ai_mt[b]? = some M1) (hh : h[ad]? = some (.inr (c, fs))) (hc : c = ai_mC M1) (hn : 4 = ai_mN M1) (hfl : (ai_fl [.ref ad, x0, x1, x2, x3]).length ≤ ai_mL M1) (hs : ai_sum t ≤ 8) (hm : Mt X M1 [.ref ad, x0, x1, x2, x3] h P1) (z : ∀ o1 : ai_O, P1 o1 → Rk X M (k + 1) ls (o1.1.toList ++ t) o1.2.1 (fun o => P (ai_add o1.2.2.1 o1.2.2.2 o))) : Rk X M k ls (x3 :: x2 :: x1 :: x0 :: .ref ad :: t) h P :=
  rk_call hr rfl (Nat.le_of_ble_eq_true rfl) hM (rk_arg (as := [x0, x1, x2, x3]) (by show (0 : Nat) ≠ 1; decide) hh hc hn) hfl hs hm z
theorem rk_cg5 {pc len b p q i ad c : Nat} {v0 : Value} {M1 : ai_M} {x0 x1 x2 x3 x4 : Value} {fs : List Value} {P1 : ai_O → Prop} (hr : (ai_mR M)[k]? = some (pc, .invokevirtual i, len, v0, 0, b, p, q)) (hM : ai_mt[b]? = some M1) (hh : h[ad]? = some (.inr (c, fs))) (hc : c = ai_mC M1) (hn : 5 = ai_mN M1) (hfl : (ai_fl [.ref ad, x0, x1, x2, x3, x4]).length ≤ ai_mL M1) (hs : ai_sum t ≤ 8) (hm : Mt X M1 [.ref ad, x0, x1, x2, x3, x4] h P1) (z : ∀ o1 : ai_O, P1 o1 → Rk X M (k + 1) ls (o1.1.toList ++ t) o1.2.1 (fun o => P (ai_add o1.2.2.1 o1.2.2.2 o))) : Rk X M k ls (x4 :: x3 :: x2 :: x1 :: x0 :: .ref ad :: t) h P :=
  rk_call hr rfl (Nat.le_of_ble_eq_true rfl) hM (rk_arg (as := [x0, x1, x2, x3, x4]) (by show (0 : Nat) ≠ 1; decide) hh hc hn) hfl hs hm z
def ai_inc : List ai_R → Bool
  | r :: r1 :: t => decide (r.1 < r1.1) && ai_inc (r1 :: t)
  | _ => true
theorem ai_inc_lt : ∀ {K : List ai_R} {i j : Nat} {a b : ai_R}, ai_inc K = true → K[i]? = some a → K[j]? = some b → i < j → a.1 < b.1 := by
  intro K
  induction K with
  | nil => intro i j a b _ h; simp at h
  | cons r t ih =>
    intro i j a b hi ha hb hij
    have htail : ai_inc t = true := by
      cases t with
      | nil => rfl
      | cons r1 t1 => simp only [ai_inc, Bool.and_eq_true] at hi; exact hi.2
    cases i with
    | succ i =>
      cases j with
      | zero => omega
      | succ j => exact ih htail (by simpa using ha) (by simpa using hb) (by omega)
    | zero =>
      cases j with
      | zero => omega
      | succ j =>
        simp only [List.getElem?_cons_zero, Option.some.injEq] at ha
        subst ha
        have hb' : t[j]? = some b := by simpa using hb
        cases t with
        | nil => simp at hb'
        | cons r1 t1 =>
          simp only [ai_inc, Bool.and_eq_true, decide_eq_true_eq] at hi
          cases j with
          | zero => simp only [List.getElem?_cons_zero, Option.some.injEq] at hb'; subst hb'; exact hi.1
          | succ j => exact Nat.lt_trans hi.1 (ih htail (i := 0) (j := j + 1) rfl hb' (by omega))
theorem ai_dw {K : List ai_R} {j : Nat} {z : Int} (hi : ai_inc K = true) (ht : (K[j]?).map (fun r => (r.1 : Int)) = some z) : K.dropWhile (fun r => !decide (z = (r.1 : Int))) = K.drop j := by
  obtain ⟨b, hb, he⟩ := Option.map_eq_some_iff.mp ht
  have hne : ∀ i a, i < j → K[i]? = some a → ¬ z = (a.1 : Int) := by
    intro i a hij ha hz
    have := ai_inc_lt hi ha hb hij
    omega
  clear hi ht
  induction K generalizing j with
  | nil => simp at hb
  | cons r t ih =>
    cases j with
    | zero =>
      simp only [List.getElem?_cons_zero, Option.some.injEq] at hb
      subst hb
      rw [List.dropWhile_cons_of_neg (by simp [he.symm])]
      rfl
    | succ j =>
      have h0 := hne 0 r (by omega) rfl
      rw [List.dropWhile_cons_of_pos (by simp [h0])]
      exact ih (by simpa using hb) (fun i a hij ha => hne (i + 1) a (by omega) (by simpa using ha))
end LAWR
set_option maxRecDepth 100000 in
theorem law_inc : ai_inc ar_293 = true := by decide +kernel
/-- how the law must end, c cells of s slots being made so far -/
def LwP (c s : Nat) : ai_O → Prop := fun o => o.1 = some (.int 1) ∧ c + o.2.2.1 ≤ 600000 ∧ s + o.2.2.2 ≤ 7302249
theorem LwP_add {c s c1 s1 : Nat} : (fun o => LwP c s (ai_add c1 s1 o)) = LwP (c + c1) (s + s1) := by
  funext o
  simp only [LwP, ai_add, Nat.add_assoc]
/-- an obligation: class and model answer alike, and what held before holds again -/
def Ob (X : ai_X) (I : Nat → Nat → Nat → ai_H → Prop) (Mc Mm : ai_M) (as : List Value) : Prop := ∀ m c s h, m < 64 → I m c s h → Mt X Mc (.ref 0 :: as) h (fun o1 => ∃ w h1 c1 s1 fs, o1 = (some (.int w), h1, c1, s1) ∧ h1[52]? = some (.inr (11, fs)) ∧ Mt X Mm (.ref 52 :: as) h1 (fun o2 => ∃ h2, o2 = (some (.int w), h2, 0, 0) ∧ I (m + 1) (c + c1) (s + s1) h2))
def ObL (X : ai_X) (I : Nat → Nat → Nat → ai_H → Prop) (Mc Mm : ai_M) (as : List Value) : Prop := ∀ m c s h, m < 64 → I m c s h → Mt X Mc (.ref 0 :: as) h (fun o1 => ∃ w h1 c1 s1 fs, o1 = (some (.long w), h1, c1, s1) ∧ h1[52]? = some (.inr (11, fs)) ∧ Mt X Mm (.ref 52 :: as) h1 (fun o2 => ∃ h2, o2 = (some (.long w), h2, 0, 0) ∧ I (m + 1) (c + c1) (s + s1) h2))
section LAWB
variable {X : ai_X} {M : ai_M} {k : Nat} {ls : ai_L} {st : List Value} {h : ai_H} {P : ai_O → Prop}
/-- 'x != 0' as an argument -/
theorem rk_bool {pc len b p q pc1 len1 a1 b1 p1 q1 pc2 len2 b2 p2 q2 pc3 len3 a3 b3 p3 q3 : Nat} {k0 : Nat} {v0 v1 v2 v3 : Value} {off off2 : Int} {x : Int32} (hr : (ai_mR M)[k]? = some (pc, .ifCond .eq off, len, v0, k0, b, p, q)) (h1 : (ai_mR M)[k + 1]? = some (pc1, .iconst 1, len1, v1, a1, b1, p1, q1)) (h2 : (ai_mR M)[k + 2]? = some (pc2, .goto off2, len2, v2, k0 + 1, b2, p2, q2)) (h3 : (ai_mR M)[k0]? = some (pc3, .iconst 0, len3, v3, a3, b3, p3, q3)) (e : k0 = k + 3) (ht : ((ai_mR M)[k0]?).map (fun r => (r.1 : Int)) = some ((pc : Int) + off)) (ht2 : ((ai_mR M)[k0 + 1]?).map (fun r => (r.1 : Int)) = some ((pc2 : Int) + off2)) (z0 : (0 : Nat) = 0) (z : Rk X M (k0 + 1) ls (.int (bI (¬ x = 0)) :: st) h P) : Rk X M k ls (.int x :: st) h P := by
  refine rk_if_eq hr ht (fun hc => ?_) (fun hc => ?_)
  · refine rk_iconst (v := 0) h3 (by decide) ?_
    rw [bI_f (fun n => n hc)] at z
    exact z
  · refine rk_iconst (v := 1) h1 (by decide) ?_
    refine rk_goto h2 ht2 ?_
    rw [bI_t hc] at z
    exact z
end LAWB
set_option maxRecDepth 20000 in
theorem law_0 {X : ai_X} {I : Nat → Nat → Nat → ai_H → Prop} {j m c s : Nat} {h : ai_H} {fs : List Value} (hm : m < 64) (hj : j + 6 ≤ X.1) (hL : X.1 ≤ 384) (hx : h[0]? = some (.inr (10, fs))) (hI : I m c s h) (ob : Ob X I am_129 am_183 [.int (X.2 (j + 1)), .int (X.2 (j + 2)), .int (X.2 (j + 3)), .int (X.2 (j + 4)), .int (X.2 (j + 5))]) (nx : ∀ h c s, I (m + 1) c s h → Rk X am_293 1206 [some (.float 99), some (.ref 0), some (.ref 52), some (.int (nI j))] [] h (LwP c s)) : Rk X am_293 22 [some (.float 99), some (.ref 0), some (.ref 52), some (.int (nI j))] [] h (LwP c s) := by
  refine rk_aload_n rfl rfl ?_
  refine rk_fload_n rfl rfl ?_
  refine rk_iload_n rfl rfl ?_
  refine rk_iconst (v := nI 1) rfl (by decide) ?_
  refine rk_iadd rfl (nI_add _ _) ?_
  refine rk_sald rfl rfl rfl (by omega) (by omega) ?_
  refine rk_fload_n rfl rfl ?_
  refine rk_iload_n rfl rfl ?_
  refine rk_iconst (v := nI 2) rfl (by decide) ?_
  refine rk_iadd rfl (nI_add _ _) ?_
  refine rk_sald rfl rfl rfl (by omega) (by omega) ?_
  refine rk_fload_n rfl rfl ?_
  refine rk_iload_n rfl rfl ?_
  refine rk_iconst (v := nI 3) rfl (by decide) ?_
  refine rk_iadd rfl (nI_add _ _) ?_
  refine rk_sald rfl rfl rfl (by omega) (by omega) ?_
  refine rk_fload_n rfl rfl ?_
  refine rk_iload_n rfl rfl ?_
  refine rk_iconst (v := nI 4) rfl (by decide) ?_
  refine rk_iadd rfl (nI_add _ _) ?_
  refine rk_sald rfl rfl rfl (by omega) (by omega) ?_
  refine rk_fload_n rfl rfl ?_
  refine rk_iload_n rfl rfl ?_
  refine rk_iconst (v := nI 5) rfl (by decide) ?_
  refine rk_iadd rfl (nI_add _ _) ?_
  refine rk_sald rfl rfl rfl (by omega) (by omega) ?_
  refine rk_cg5 rfl rfl hx rfl rfl (Nat.le_of_ble_eq_true rfl) (Nat.le_of_ble_eq_true rfl) (ob m c s h hm hI) ?_
  rintro o1 ⟨w, h1, c1, s1, fs1, rfl, hm1, hmt⟩
  show Rk X am_293 49 [some (.float 99), some (.ref 0), some (.ref 52), some (.int (nI j))] [.int w] h1 _
  refine rk_aload_n rfl rfl ?_
  refine rk_fload_n rfl rfl ?_
  refine rk_iload_n rfl rfl ?_
  refine rk_iconst (v := nI 1) rfl (by decide) ?_
  refine rk_iadd rfl (nI_add _ _) ?_
  refine rk_sald rfl rfl rfl (by omega) (by omega) ?_
  refine rk_fload_n rfl rfl ?_
  refine rk_iload_n rfl rfl ?_
  refine rk_iconst (v := nI 2) rfl (by decide) ?_
  refine rk_iadd rfl (nI_add _ _) ?_
  refine rk_sald rfl rfl rfl (by omega) (by omega) ?_
  refine rk_fload_n rfl rfl ?_
  refine rk_iload_n rfl rfl ?_
  refine rk_iconst (v := nI 3) rfl (by decide) ?_
  refine rk_iadd rfl (nI_add _ _) ?_
  refine rk_sald rfl rfl rfl (by omega) (by omega) ?_
  refine rk_fload_n rfl rfl ?_
  refine rk_iload_n rfl rfl ?_
  refine rk_iconst (v := nI 4) rfl (by decide) ?_
  refine rk_iadd rfl (nI_add _ _) ?_
  refine rk_sald rfl rfl rfl (by omega) (by omega) ?_
  refine rk_fload_n rfl rfl ?_
  refine rk_iload_n rfl rfl ?_
  refine rk_iconst (v := nI 5) rfl (by decide) ?_
  refine rk_iadd rfl (nI_add _ _) ?_
  refine rk_sald rfl rfl rfl (by omega) (by omega) ?_
  refine rk_cg5 rfl rfl hm1 rfl rfl (Nat.le_of_ble_eq_true rfl) (Nat.le_of_ble_eq_true rfl) hmt ?_
  rintro o2 ⟨h2, rfl, hI2⟩
  show Rk X am_293 76 [some (.float 99), some (.ref 0), some (.ref 52), some (.int (nI j))] [.int w, .int w] h2 _
  refine rk_icmp_eq rfl rfl (fun _ => ?_) (fun hn => absurd rfl hn)
  have := nx h2 _ _ hI2
  rw [← LwP_add] at this
  exact (this.mono (fun o hP => by simpa only [ai_add00] using hP))
set_option maxRecDepth 20000 in
theorem law_1 {X : ai_X} {I : Nat → Nat → Nat → ai_H → Prop} {j m c s : Nat} {h : ai_H} {fs : List Value} (hm : m < 64) (hj : j + 6 ≤ X.1) (hL : X.1 ≤ 384) (hx : h[0]? = some (.inr (10, fs))) (hI : I m c s h) (ob : Ob X I am_131 am_205 [.int (X.2 (j + 1))]) (nx : ∀ h c s, I (m + 1) c s h → Rk X am_293 1206 [some (.float 99), some (.ref 0), some (.ref 52), some (.int (nI j))] [] h (LwP c s)) : Rk X am_293 79 [some (.float 99), some (.ref 0), some (.ref 52), some (.int (nI j))] [] h (LwP c s) := by
  refine rk_aload_n rfl rfl ?_
  refine rk_fload_n rfl rfl ?_
  refine rk_iload_n rfl rfl ?_
  refine rk_iconst (v := nI 1) rfl (by decide) ?_
  refine rk_iadd rfl (nI_add _ _) ?_
  refine rk_sald rfl rfl rfl (by omega) (by omega) ?_
  refine rk_cg1 rfl rfl hx rfl rfl (Nat.le_of_ble_eq_true rfl) (Nat.le_of_ble_eq_true rfl) (ob m c s h hm hI) ?_
  rintro o1 ⟨w, h1, c1, s1, fs1, rfl, hm1, hmt⟩
  show Rk X am_293 86 [some (.float 99), some (.ref 0), some (.ref 52), some (.int (nI j))] [.int w] h1 _
  refine rk_aload_n rfl rfl ?_
  refine rk_fload_n rfl rfl ?_
  refine rk_iload_n rfl rfl ?_
  refine rk_iconst (v := nI 1) rfl (by decide) ?_
  refine rk_iadd rfl (nI_add _ _) ?_
  refine rk_sald rfl rfl rfl (by omega) (by omega) ?_
  refine rk_cg1 rfl rfl hm1 rfl rfl (Nat.le_of_ble_eq_true rfl) (Nat.le_of_ble_eq_true rfl) hmt ?_
  rintro o2 ⟨h2, rfl, hI2⟩
  show Rk X am_293 93 [some (.float 99), some (.ref 0), some (.ref 52), some (.int (nI j))] [.int w, .int w] h2 _
  refine rk_icmp_eq rfl rfl (fun _ => ?_) (fun hn => absurd rfl hn)
  have := nx h2 _ _ hI2
  rw [← LwP_add] at this
  exact (this.mono (fun o hP => by simpa only [ai_add00] using hP))
set_option maxRecDepth 20000 in
theorem law_2 {X : ai_X} {I : Nat → Nat → Nat → ai_H → Prop} {j m c s : Nat} {h : ai_H} {fs : List Value} (hm : m < 64) (hj : j + 6 ≤ X.1) (hL : X.1 ≤ 384) (hx : h[0]? = some (.inr (10, fs))) (hI : I m c s h) (ob : Ob X I am_132 am_206 [.int (X.2 (j + 1))]) (nx : ∀ h c s, I (m + 1) c s h → Rk X am_293 1206 [some (.float 99), some (.ref 0), some (.ref 52), some (.int (nI j))] [] h (LwP c s)) : Rk X am_293 96 [some (.float 99), some (.ref 0), some (.ref 52), some (.int (nI j))] [] h (LwP c s) := by
  refine rk_aload_n rfl rfl ?_
  refine rk_fload_n rfl rfl ?_
  refine rk_iload_n rfl rfl ?_
  refine rk_iconst (v := nI 1) rfl (by decide) ?_
  refine rk_iadd rfl (nI_add _ _) ?_
  refine rk_sald rfl rfl rfl (by omega) (by omega) ?_
  refine rk_cg1 rfl rfl hx rfl rfl (Nat.le_of_ble_eq_true rfl) (Nat.le_of_ble_eq_true rfl) (ob m c s h hm hI) ?_
  rintro o1 ⟨w, h1, c1, s1, fs1, rfl, hm1, hmt⟩
  show Rk X am_293 103 [some (.float 99), some (.ref 0), some (.ref 52), some (.int (nI j))] [.int w] h1 _
  refine rk_aload_n rfl rfl ?_
  refine rk_fload_n rfl rfl ?_
  refine rk_iload_n rfl rfl ?_
  refine rk_iconst (v := nI 1) rfl (by decide) ?_
  refine rk_iadd rfl (nI_add _ _) ?_
  refine rk_sald rfl rfl rfl (by omega) (by omega) ?_
  refine rk_cg1 rfl rfl hm1 rfl rfl (Nat.le_of_ble_eq_true rfl) (Nat.le_of_ble_eq_true rfl) hmt ?_
  rintro o2 ⟨h2, rfl, hI2⟩
  show Rk X am_293 110 [some (.float 99), some (.ref 0), some (.ref 52), some (.int (nI j))] [.int w, .int w] h2 _
  refine rk_icmp_eq rfl rfl (fun _ => ?_) (fun hn => absurd rfl hn)
  have := nx h2 _ _ hI2
  rw [← LwP_add] at this
  exact (this.mono (fun o hP => by simpa only [ai_add00] using hP))
set_option maxRecDepth 20000 in
theorem law_3 {X : ai_X} {I : Nat → Nat → Nat → ai_H → Prop} {j m c s : Nat} {h : ai_H} {fs : List Value} (hm : m < 64) (hj : j + 6 ≤ X.1) (hL : X.1 ≤ 384) (hx : h[0]? = some (.inr (10, fs))) (hI : I m c s h) (ob : Ob X I am_133 am_215 [.int (X.2 (j + 1)), .int (X.2 (j + 2)), .int (X.2 (j + 3))]) (nx : ∀ h c s, I (m + 1) c s h → Rk X am_293 1206 [some (.float 99), some (.ref 0), some (.ref 52), some (.int (nI j))] [] h (LwP c s)) : Rk X am_293 113 [some (.float 99), some (.ref 0), some (.ref 52), some (.int (nI j))] [] h (LwP c s) := by
  refine rk_aload_n rfl rfl ?_
  refine rk_fload_n rfl rfl ?_
  refine rk_iload_n rfl rfl ?_
  refine rk_iconst (v := nI 1) rfl (by decide) ?_
  refine rk_iadd rfl (nI_add _ _) ?_
  refine rk_sald rfl rfl rfl (by omega) (by omega) ?_
  refine rk_fload_n rfl rfl ?_
  refine rk_iload_n rfl rfl ?_
  refine rk_iconst (v := nI 2) rfl (by decide) ?_
  refine rk_iadd rfl (nI_add _ _) ?_
  refine rk_sald rfl rfl rfl (by omega) (by omega) ?_
  refine rk_fload_n rfl rfl ?_
  refine rk_iload_n rfl rfl ?_
  refine rk_iconst (v := nI 3) rfl (by decide) ?_
  refine rk_iadd rfl (nI_add _ _) ?_
  refine rk_sald rfl rfl rfl (by omega) (by omega) ?_
  refine rk_cg3 rfl rfl hx rfl rfl (Nat.le_of_ble_eq_true rfl) (Nat.le_of_ble_eq_true rfl) (ob m c s h hm hI) ?_
  rintro o1 ⟨w, h1, c1, s1, fs1, rfl, hm1, hmt⟩
  show Rk X am_293 130 [some (.float 99), some (.ref 0), some (.ref 52), some (.int (nI j))] [.int w] h1 _
  refine rk_aload_n rfl rfl ?_
  refine rk_fload_n rfl rfl ?_
  refine rk_iload_n rfl rfl ?_
  refine rk_iconst (v := nI 1) rfl (by decide) ?_
  refine rk_iadd rfl (nI_add _ _) ?_
  refine rk_sald rfl rfl rfl (by omega) (by omega) ?_
  refine rk_fload_n rfl rfl ?_
  refine rk_iload_n rfl rfl ?_
  refine rk_iconst (v := nI 2) rfl (by decide) ?_
  refine rk_iadd rfl (nI_add _ _) ?_
  refine rk_sald rfl rfl rfl (by omega) (by omega) ?_
  refine rk_fload_n rfl rfl ?_
  refine rk_iload_n rfl rfl ?_
  refine rk_iconst (v := nI 3) rfl (by decide) ?_
  refine rk_iadd rfl (nI_add _ _) ?_
  refine rk_sald rfl rfl rfl (by omega) (by omega) ?_
  refine rk_cg3 rfl rfl hm1 rfl rfl (Nat.le_of_ble_eq_true rfl) (Nat.le_of_ble_eq_true rfl) hmt ?_
  rintro o2 ⟨h2, rfl, hI2⟩
  show Rk X am_293 147 [some (.float 99), some (.ref 0), some (.ref 52), some (.int (nI j))] [.int w, .int w] h2 _
  refine rk_icmp_eq rfl rfl (fun _ => ?_) (fun hn => absurd rfl hn)
  have := nx h2 _ _ hI2
  rw [← LwP_add] at this
  exact (this.mono (fun o hP => by simpa only [ai_add00] using hP))
set_option maxRecDepth 20000 in
theorem law_4 {X : ai_X} {I : Nat → Nat → Nat → ai_H → Prop} {j m c s : Nat} {h : ai_H} {fs : List Value} (hm : m < 64) (hj : j + 6 ≤ X.1) (hL : X.1 ≤ 384) (hx : h[0]? = some (.inr (10, fs))) (hI : I m c s h) (ob : Ob X I am_134 am_216 [.int (X.2 (j + 1)), .int (X.2 (j + 2))]) (nx : ∀ h c s, I (m + 1) c s h → Rk X am_293 1206 [some (.float 99), some (.ref 0), some (.ref 52), some (.int (nI j))] [] h (LwP c s)) : Rk X am_293 150 [some (.float 99), some (.ref 0), some (.ref 52), some (.int (nI j))] [] h (LwP c s) := by
  refine rk_aload_n rfl rfl ?_
  refine rk_fload_n rfl rfl ?_
  refine rk_iload_n rfl rfl ?_
  refine rk_iconst (v := nI 1) rfl (by decide) ?_
  refine rk_iadd rfl (nI_add _ _) ?_
  refine rk_sald rfl rfl rfl (by omega) (by omega) ?_
  refine rk_fload_n rfl rfl ?_
  refine rk_iload_n rfl rfl ?_
  refine rk_iconst (v := nI 2) rfl (by decide) ?_
  refine rk_iadd rfl (nI_add _ _) ?_
  refine rk_sald rfl rfl rfl (by omega) (by omega) ?_
  refine rk_cg2 rfl rfl hx rfl rfl (Nat.le_of_ble_eq_true rfl) (Nat.le_of_ble_eq_true rfl) (ob m c s h hm hI) ?_
  rintro o1 ⟨w, h1, c1, s1, fs1, rfl, hm1, hmt⟩
  show Rk X am_293 162 [some (.float 99), some (.ref 0), some (.ref 52), some (.int (nI j))] [.int w] h1 _
  refine rk_aload_n rfl rfl ?_
  refine rk_fload_n rfl rfl ?_
  refine rk_iload_n rfl rfl ?_
  refine rk_iconst (v := nI 1) rfl (by decide) ?_
  refine rk_iadd rfl (nI_add _ _) ?_
  refine rk_sald rfl rfl rfl (by omega) (by omega) ?_
  refine rk_fload_n rfl rfl ?_
  refine rk_iload_n rfl rfl ?_
  refine rk_iconst (v := nI 2) rfl (by decide) ?_
  refine rk_iadd rfl (nI_add _ _) ?_
  refine rk_sald rfl rfl rfl (by omega) (by omega) ?_
  refine rk_cg2 rfl rfl hm1 rfl rfl (Nat.le_of_ble_eq_true rfl) (Nat.le_of_ble_eq_true rfl) hmt ?_
  rintro o2 ⟨h2, rfl, hI2⟩
  show Rk X am_293 174 [some (.float 99), some (.ref 0), some (.ref 52), some (.int (nI j))] [.int w, .int w] h2 _
  refine rk_icmp_eq rfl rfl (fun _ => ?_) (fun hn => absurd rfl hn)
  have := nx h2 _ _ hI2
  rw [← LwP_add] at this
  exact (this.mono (fun o hP => by simpa only [ai_add00] using hP))
set_option maxRecDepth 20000 in
theorem law_5 {X : ai_X} {I : Nat → Nat → Nat → ai_H → Prop} {j m c s : Nat} {h : ai_H} {fs : List Value} (hm : m < 64) (hj : j + 6 ≤ X.1) (hL : X.1 ≤ 384) (hx : h[0]? = some (.inr (10, fs))) (hI : I m c s h) (ob : Ob X I am_135 am_217 [.int (X.2 (j + 1))]) (nx : ∀ h c s, I (m + 1) c s h → Rk X am_293 1206 [some (.float 99), some (.ref 0), some (.ref 52), some (.int (nI j))] [] h (LwP c s)) : Rk X am_293 177 [some (.float 99), some (.ref 0), some (.ref 52), some (.int (nI j))] [] h (LwP c s) := by
  refine rk_aload_n rfl rfl ?_
  refine rk_fload_n rfl rfl ?_
  refine rk_iload_n rfl rfl ?_
  refine rk_iconst (v := nI 1) rfl (by decide) ?_
  refine rk_iadd rfl (nI_add _ _) ?_
  refine rk_sald rfl rfl rfl (by omega) (by omega) ?_
  refine rk_cg1 rfl rfl hx rfl rfl (Nat.le_of_ble_eq_true rfl) (Nat.le_of_ble_eq_true rfl) (ob m c s h hm hI) ?_
  rintro o1 ⟨w, h1, c1, s1, fs1, rfl, hm1, hmt⟩
  show Rk X am_293 184 [some (.float 99), some (.ref 0), some (.ref 52), some (.int (nI j))] [.int w] h1 _
  refine rk_aload_n rfl rfl ?_
  refine rk_fload_n rfl rfl ?_
  refine rk_iload_n rfl rfl ?_
  refine rk_iconst (v := nI 1) rfl (by decide) ?_
  refine rk_iadd rfl (nI_add _ _) ?_
  refine rk_sald rfl rfl rfl (by omega) (by omega) ?_
  refine rk_cg1 rfl rfl hm1 rfl rfl (Nat.le_of_ble_eq_true rfl) (Nat.le_of_ble_eq_true rfl) hmt ?_
  rintro o2 ⟨h2, rfl, hI2⟩
  show Rk X am_293 191 [some (.float 99), some (.ref 0), some (.ref 52), some (.int (nI j))] [.int w, .int w] h2 _
  refine rk_icmp_eq rfl rfl (fun _ => ?_) (fun hn => absurd rfl hn)
  have := nx h2 _ _ hI2
  rw [← LwP_add] at this
  exact (this.mono (fun o hP => by simpa only [ai_add00] using hP))
set_option maxRecDepth 20000 in
theorem law_6 {X : ai_X} {I : Nat → Nat → Nat → ai_H → Prop} {j m c s : Nat} {h : ai_H} {fs : List Value} (hm : m < 64) (hj : j + 6 ≤ X.1) (hL : X.1 ≤ 384) (hx : h[0]? = some (.inr (10, fs))) (hI : I m c s h) (ob : Ob X I am_136 am_218 [.int (X.2 (j + 1))]) (nx : ∀ h c s, I (m + 1) c s h → Rk X am_293 1206 [some (.float 99), some (.ref 0), some (.ref 52), some (.int (nI j))] [] h (LwP c s)) : Rk X am_293 194 [some (.float 99), some (.ref 0), some (.ref 52), some (.int (nI j))] [] h (LwP c s) := by
  refine rk_aload_n rfl rfl ?_
  refine rk_fload_n rfl rfl ?_
  refine rk_iload_n rfl rfl ?_
  refine rk_iconst (v := nI 1) rfl (by decide) ?_
  refine rk_iadd rfl (nI_add _ _) ?_
  refine rk_sald rfl rfl rfl (by omega) (by omega) ?_
  refine rk_cg1 rfl rfl hx rfl rfl (Nat.le_of_ble_eq_true rfl) (Nat.le_of_ble_eq_true rfl) (ob m c s h hm hI) ?_
  rintro o1 ⟨w, h1, c1, s1, fs1, rfl, hm1, hmt⟩
  show Rk X am_293 201 [some (.float 99), some (.ref 0), some (.ref 52), some (.int (nI j))] [.int w] h1 _
  refine rk_aload_n rfl rfl ?_
  refine rk_fload_n rfl rfl ?_
  refine rk_iload_n rfl rfl ?_
  refine rk_iconst (v := nI 1) rfl (by decide) ?_
  refine rk_iadd rfl (nI_add _ _) ?_
  refine rk_sald rfl rfl rfl (by omega) (by omega) ?_
  refine rk_cg1 rfl rfl hm1 rfl rfl (Nat.le_of_ble_eq_true rfl) (Nat.le_of_ble_eq_true rfl) hmt ?_
  rintro o2 ⟨h2, rfl, hI2⟩
  show Rk X am_293 208 [some (.float 99), some (.ref 0), some (.ref 52), some (.int (nI j))] [.int w, .int w] h2 _
  refine rk_icmp_eq rfl rfl (fun _ => ?_) (fun hn => absurd rfl hn)
  have := nx h2 _ _ hI2
  rw [← LwP_add] at this
  exact (this.mono (fun o hP => by simpa only [ai_add00] using hP))
set_option maxRecDepth 20000 in
theorem law_7 {X : ai_X} {I : Nat → Nat → Nat → ai_H → Prop} {j m c s : Nat} {h : ai_H} {fs : List Value} (hm : m < 64) (hj : j + 6 ≤ X.1) (hL : X.1 ≤ 384) (hx : h[0]? = some (.inr (10, fs))) (hI : I m c s h) (ob : Ob X I am_137 am_220 [.int (X.2 (j + 1))]) (nx : ∀ h c s, I (m + 1) c s h → Rk X am_293 1206 [some (.float 99), some (.ref 0), some (.ref 52), some (.int (nI j))] [] h (LwP c s)) : Rk X am_293 211 [some (.float 99), some (.ref 0), some (.ref 52), some (.int (nI j))] [] h (LwP c s) := by
  refine rk_aload_n rfl rfl ?_
  refine rk_fload_n rfl rfl ?_
  refine rk_iload_n rfl rfl ?_
  refine rk_iconst (v := nI 1) rfl (by decide) ?_
  refine rk_iadd rfl (nI_add _ _) ?_
  refine rk_sald rfl rfl rfl (by omega) (by omega) ?_
  refine rk_cg1 rfl rfl hx rfl rfl (Nat.le_of_ble_eq_true rfl) (Nat.le_of_ble_eq_true rfl) (ob m c s h hm hI) ?_
  rintro o1 ⟨w, h1, c1, s1, fs1, rfl, hm1, hmt⟩
  show Rk X am_293 218 [some (.float 99), some (.ref 0), some (.ref 52), some (.int (nI j))] [.int w] h1 _
  refine rk_aload_n rfl rfl ?_
  refine rk_fload_n rfl rfl ?_
  refine rk_iload_n rfl rfl ?_
  refine rk_iconst (v := nI 1) rfl (by decide) ?_
  refine rk_iadd rfl (nI_add _ _) ?_
  refine rk_sald rfl rfl rfl (by omega) (by omega) ?_
  refine rk_cg1 rfl rfl hm1 rfl rfl (Nat.le_of_ble_eq_true rfl) (Nat.le_of_ble_eq_true rfl) hmt ?_
  rintro o2 ⟨h2, rfl, hI2⟩
  show Rk X am_293 225 [some (.float 99), some (.ref 0), some (.ref 52), some (.int (nI j))] [.int w, .int w] h2 _
  refine rk_icmp_eq rfl rfl (fun _ => ?_) (fun hn => absurd rfl hn)
  have := nx h2 _ _ hI2
  rw [← LwP_add] at this
  exact (this.mono (fun o hP => by simpa only [ai_add00] using hP))
set_option maxRecDepth 20000 in
theorem law_8 {X : ai_X} {I : Nat → Nat → Nat → ai_H → Prop} {j m c s : Nat} {h : ai_H} {fs : List Value} (hm : m < 64) (hj : j + 6 ≤ X.1) (hL : X.1 ≤ 384) (hx : h[0]? = some (.inr (10, fs))) (hI : I m c s h) (ob : Ob X I am_138 am_224 [.int (X.2 (j + 1)), .int (X.2 (j + 2)), .int (X.2 (j + 3))]) (nx : ∀ h c s, I (m + 1) c s h → Rk X am_293 1206 [some (.float 99), some (.ref 0), some (.ref 52), some (.int (nI j))] [] h (LwP c s)) : Rk X am_293 228 [some (.float 99), some (.ref 0), some (.ref 52), some (.int (nI j))] [] h (LwP c s) := by
  refine rk_aload_n rfl rfl ?_
  refine rk_fload_n rfl rfl ?_
  refine rk_iload_n rfl rfl ?_
  refine rk_iconst (v := nI 1) rfl (by decide) ?_
  refine rk_iadd rfl (nI_add _ _) ?_
  refine rk_sald rfl rfl rfl (by omega) (by omega) ?_
  refine rk_fload_n rfl rfl ?_
  refine rk_iload_n rfl rfl ?_
  refine rk_iconst (v := nI 2) rfl (by decide) ?_
  refine rk_iadd rfl (nI_add _ _) ?_
  refine rk_sald rfl rfl rfl (by omega) (by omega) ?_
  refine rk_fload_n rfl rfl ?_
  refine rk_iload_n rfl rfl ?_
  refine rk_iconst (v := nI 3) rfl (by decide) ?_
  refine rk_iadd rfl (nI_add _ _) ?_
  refine rk_sald rfl rfl rfl (by omega) (by omega) ?_
  refine rk_cg3 rfl rfl hx rfl rfl (Nat.le_of_ble_eq_true rfl) (Nat.le_of_ble_eq_true rfl) (ob m c s h hm hI) ?_
  rintro o1 ⟨w, h1, c1, s1, fs1, rfl, hm1, hmt⟩
  show Rk X am_293 245 [some (.float 99), some (.ref 0), some (.ref 52), some (.int (nI j))] [.int w] h1 _
  refine rk_aload_n rfl rfl ?_
  refine rk_fload_n rfl rfl ?_
  refine rk_iload_n rfl rfl ?_
  refine rk_iconst (v := nI 1) rfl (by decide) ?_
  refine rk_iadd rfl (nI_add _ _) ?_
  refine rk_sald rfl rfl rfl (by omega) (by omega) ?_
  refine rk_fload_n rfl rfl ?_
  refine rk_iload_n rfl rfl ?_
  refine rk_iconst (v := nI 2) rfl (by decide) ?_
  refine rk_iadd rfl (nI_add _ _) ?_
  refine rk_sald rfl rfl rfl (by omega) (by omega) ?_
  refine rk_fload_n rfl rfl ?_
  refine rk_iload_n rfl rfl ?_
  refine rk_iconst (v := nI 3) rfl (by decide) ?_
  refine rk_iadd rfl (nI_add _ _) ?_
  refine rk_sald rfl rfl rfl (by omega) (by omega) ?_
  refine rk_cg3 rfl rfl hm1 rfl rfl (Nat.le_of_ble_eq_true rfl) (Nat.le_of_ble_eq_true rfl) hmt ?_
  rintro o2 ⟨h2, rfl, hI2⟩
  show Rk X am_293 262 [some (.float 99), some (.ref 0), some (.ref 52), some (.int (nI j))] [.int w, .int w] h2 _
  refine rk_icmp_eq rfl rfl (fun _ => ?_) (fun hn => absurd rfl hn)
  have := nx h2 _ _ hI2
  rw [← LwP_add] at this
  exact (this.mono (fun o hP => by simpa only [ai_add00] using hP))
set_option maxRecDepth 20000 in
theorem law_9 {X : ai_X} {I : Nat → Nat → Nat → ai_H → Prop} {j m c s : Nat} {h : ai_H} {fs : List Value} (hm : m < 64) (hj : j + 6 ≤ X.1) (hL : X.1 ≤ 384) (hx : h[0]? = some (.inr (10, fs))) (hI : I m c s h) (ob : Ob X I am_139 am_226 [.int (X.2 (j + 1)), .int (X.2 (j + 2))]) (nx : ∀ h c s, I (m + 1) c s h → Rk X am_293 1206 [some (.float 99), some (.ref 0), some (.ref 52), some (.int (nI j))] [] h (LwP c s)) : Rk X am_293 265 [some (.float 99), some (.ref 0), some (.ref 52), some (.int (nI j))] [] h (LwP c s) := by
  refine rk_aload_n rfl rfl ?_
  refine rk_fload_n rfl rfl ?_
  refine rk_iload_n rfl rfl ?_
  refine rk_iconst (v := nI 1) rfl (by decide) ?_
  refine rk_iadd rfl (nI_add _ _) ?_
  refine rk_sald rfl rfl rfl (by omega) (by omega) ?_
  refine rk_fload_n rfl rfl ?_
  refine rk_iload_n rfl rfl ?_
  refine rk_iconst (v := nI 2) rfl (by decide) ?_
  refine rk_iadd rfl (nI_add _ _) ?_
  refine rk_sald rfl rfl rfl (by omega) (by omega) ?_
  refine rk_cg2 rfl rfl hx rfl rfl (Nat.le_of_ble_eq_true rfl) (Nat.le_of_ble_eq_true rfl) (ob m c s h hm hI) ?_
  rintro o1 ⟨w, h1, c1, s1, fs1, rfl, hm1, hmt⟩
  show Rk X am_293 277 [some (.float 99), some (.ref 0), some (.ref 52), some (.int (nI j))] [.int w] h1 _
  refine rk_aload_n rfl rfl ?_
  refine rk_fload_n rfl rfl ?_
  refine rk_iload_n rfl rfl ?_
  refine rk_iconst (v := nI 1) rfl (by decide) ?_
  refine rk_iadd rfl (nI_add _ _) ?_
  refine rk_sald rfl rfl rfl (by omega) (by omega) ?_
  refine rk_fload_n rfl rfl ?_
  refine rk_iload_n rfl rfl ?_
  refine rk_iconst (v := nI 2) rfl (by decide) ?_
  refine rk_iadd rfl (nI_add _ _) ?_
  refine rk_sald rfl rfl rfl (by omega) (by omega) ?_
  refine rk_cg2 rfl rfl hm1 rfl rfl (Nat.le_of_ble_eq_true rfl) (Nat.le_of_ble_eq_true rfl) hmt ?_
  rintro o2 ⟨h2, rfl, hI2⟩
  show Rk X am_293 289 [some (.float 99), some (.ref 0), some (.ref 52), some (.int (nI j))] [.int w, .int w] h2 _
  refine rk_icmp_eq rfl rfl (fun _ => ?_) (fun hn => absurd rfl hn)
  have := nx h2 _ _ hI2
  rw [← LwP_add] at this
  exact (this.mono (fun o hP => by simpa only [ai_add00] using hP))
set_option maxRecDepth 20000 in
theorem law_10 {X : ai_X} {I : Nat → Nat → Nat → ai_H → Prop} {j m c s : Nat} {h : ai_H} {fs : List Value} (hm : m < 64) (hj : j + 6 ≤ X.1) (hL : X.1 ≤ 384) (hx : h[0]? = some (.inr (10, fs))) (hI : I m c s h) (ob : Ob X I am_140 am_228 [.int (X.2 (j + 1)), .int (X.2 (j + 2))]) (nx : ∀ h c s, I (m + 1) c s h → Rk X am_293 1206 [some (.float 99), some (.ref 0), some (.ref 52), some (.int (nI j))] [] h (LwP c s)) : Rk X am_293 292 [some (.float 99), some (.ref 0), some (.ref 52), some (.int (nI j))] [] h (LwP c s) := by
  refine rk_aload_n rfl rfl ?_
  refine rk_fload_n rfl rfl ?_
  refine rk_iload_n rfl rfl ?_
  refine rk_iconst (v := nI 1) rfl (by decide) ?_
  refine rk_iadd rfl (nI_add _ _) ?_
  refine rk_sald rfl rfl rfl (by omega) (by omega) ?_
  refine rk_fload_n rfl rfl ?_
  refine rk_iload_n rfl rfl ?_
  refine rk_iconst (v := nI 2) rfl (by decide) ?_
  refine rk_iadd rfl (nI_add _ _) ?_
  refine rk_sald rfl rfl rfl (by omega) (by omega) ?_
  refine rk_cg2 rfl rfl hx rfl rfl (Nat.le_of_ble_eq_true rfl) (Nat.le_of_ble_eq_true rfl) (ob m c s h hm hI) ?_
  rintro o1 ⟨w, h1, c1, s1, fs1, rfl, hm1, hmt⟩
  show Rk X am_293 304 [some (.float 99), some (.ref 0), some (.ref 52), some (.int (nI j))] [.int w] h1 _
  refine rk_aload_n rfl rfl ?_
  refine rk_fload_n rfl rfl ?_
  refine rk_iload_n rfl rfl ?_
  refine rk_iconst (v := nI 1) rfl (by decide) ?_
  refine rk_iadd rfl (nI_add _ _) ?_
  refine rk_sald rfl rfl rfl (by omega) (by omega) ?_
  refine rk_fload_n rfl rfl ?_
  refine rk_iload_n rfl rfl ?_
  refine rk_iconst (v := nI 2) rfl (by decide) ?_
  refine rk_iadd rfl (nI_add _ _) ?_
  refine rk_sald rfl rfl rfl (by omega) (by omega) ?_
  refine rk_cg2 rfl rfl hm1 rfl rfl (Nat.le_of_ble_eq_true rfl) (Nat.le_of_ble_eq_true rfl) hmt ?_
  rintro o2 ⟨h2, rfl, hI2⟩
  show Rk X am_293 316 [some (.float 99), some (.ref 0), some (.ref 52), some (.int (nI j))] [.int w, .int w] h2 _
  refine rk_icmp_eq rfl rfl (fun _ => ?_) (fun hn => absurd rfl hn)
  have := nx h2 _ _ hI2
  rw [← LwP_add] at this
  exact (this.mono (fun o hP => by simpa only [ai_add00] using hP))
set_option maxRecDepth 20000 in
theorem law_11 {X : ai_X} {I : Nat → Nat → Nat → ai_H → Prop} {j m c s : Nat} {h : ai_H} {fs : List Value} (hm : m < 64) (hj : j + 6 ≤ X.1) (hL : X.1 ≤ 384) (hx : h[0]? = some (.inr (10, fs))) (hI : I m c s h) (ob : Ob X I am_141 am_229 [.int (X.2 (j + 1)), .int (X.2 (j + 2)), .int (X.2 (j + 3))]) (nx : ∀ h c s, I (m + 1) c s h → Rk X am_293 1206 [some (.float 99), some (.ref 0), some (.ref 52), some (.int (nI j))] [] h (LwP c s)) : Rk X am_293 319 [some (.float 99), some (.ref 0), some (.ref 52), some (.int (nI j))] [] h (LwP c s) := by
  refine rk_aload_n rfl rfl ?_
  refine rk_fload_n rfl rfl ?_
  refine rk_iload_n rfl rfl ?_
  refine rk_iconst (v := nI 1) rfl (by decide) ?_
  refine rk_iadd rfl (nI_add _ _) ?_
  refine rk_sald rfl rfl rfl (by omega) (by omega) ?_
  refine rk_fload_n rfl rfl ?_
  refine rk_iload_n rfl rfl ?_
  refine rk_iconst (v := nI 2) rfl (by decide) ?_
  refine rk_iadd rfl (nI_add _ _) ?_
  refine rk_sald rfl rfl rfl (by omega) (by omega) ?_
  refine rk_fload_n rfl rfl ?_
  refine rk_iload_n rfl rfl ?_
  refine rk_iconst (v := nI 3) rfl (by decide) ?_
  refine rk_iadd rfl (nI_add _ _) ?_
  refine rk_sald rfl rfl rfl (by omega) (by omega) ?_
  refine rk_cg3 rfl rfl hx rfl rfl (Nat.le_of_ble_eq_true rfl) (Nat.le_of_ble_eq_true rfl) (ob m c s h hm hI) ?_
  rintro o1 ⟨w, h1, c1, s1, fs1, rfl, hm1, hmt⟩
  show Rk X am_293 336 [some (.float 99), some (.ref 0), some (.ref 52), some (.int (nI j))] [.int w] h1 _
  refine rk_aload_n rfl rfl ?_
  refine rk_fload_n rfl rfl ?_
  refine rk_iload_n rfl rfl ?_
  refine rk_iconst (v := nI 1) rfl (by decide) ?_
  refine rk_iadd rfl (nI_add _ _) ?_
  refine rk_sald rfl rfl rfl (by omega) (by omega) ?_
  refine rk_fload_n rfl rfl ?_
  refine rk_iload_n rfl rfl ?_
  refine rk_iconst (v := nI 2) rfl (by decide) ?_
  refine rk_iadd rfl (nI_add _ _) ?_
  refine rk_sald rfl rfl rfl (by omega) (by omega) ?_
  refine rk_fload_n rfl rfl ?_
  refine rk_iload_n rfl rfl ?_
  refine rk_iconst (v := nI 3) rfl (by decide) ?_
  refine rk_iadd rfl (nI_add _ _) ?_
  refine rk_sald rfl rfl rfl (by omega) (by omega) ?_
  refine rk_cg3 rfl rfl hm1 rfl rfl (Nat.le_of_ble_eq_true rfl) (Nat.le_of_ble_eq_true rfl) hmt ?_
  rintro o2 ⟨h2, rfl, hI2⟩
  show Rk X am_293 353 [some (.float 99), some (.ref 0), some (.ref 52), some (.int (nI j))] [.int w, .int w] h2 _
  refine rk_icmp_eq rfl rfl (fun _ => ?_) (fun hn => absurd rfl hn)
  have := nx h2 _ _ hI2
  rw [← LwP_add] at this
  exact (this.mono (fun o hP => by simpa only [ai_add00] using hP))
set_option maxRecDepth 20000 in
theorem law_12 {X : ai_X} {I : Nat → Nat → Nat → ai_H → Prop} {j m c s : Nat} {h : ai_H} {fs : List Value} (hm : m < 64) (hj : j + 6 ≤ X.1) (hL : X.1 ≤ 384) (hx : h[0]? = some (.inr (10, fs))) (hI : I m c s h) (ob : Ob X I am_142 am_230 [.int (X.2 (j + 1)), .int (X.2 (j + 2))]) (nx : ∀ h c s, I (m + 1) c s h → Rk X am_293 1206 [some (.float 99), some (.ref 0), some (.ref 52), some (.int (nI j))] [] h (LwP c s)) : Rk X am_293 356 [some (.float 99), some (.ref 0), some (.ref 52), some (.int (nI j))] [] h (LwP c s) := by
  refine rk_aload_n rfl rfl ?_
  refine rk_fload_n rfl rfl ?_
  refine rk_iload_n rfl rfl ?_
  refine rk_iconst (v := nI 1) rfl (by decide) ?_
  refine rk_iadd rfl (nI_add _ _) ?_
  refine rk_sald rfl rfl rfl (by omega) (by omega) ?_
  refine rk_fload_n rfl rfl ?_
  refine rk_iload_n rfl rfl ?_
  refine rk_iconst (v := nI 2) rfl (by decide) ?_
  refine rk_iadd rfl (nI_add _ _) ?_
  refine rk_sald rfl rfl rfl (by omega) (by omega) ?_
  refine rk_cg2 rfl rfl hx rfl rfl (Nat.le_of_ble_eq_true rfl) (Nat.le_of_ble_eq_true rfl) (ob m c s h hm hI) ?_
  rintro o1 ⟨w, h1, c1, s1, fs1, rfl, hm1, hmt⟩
  show Rk X am_293 368 [some (.float 99), some (.ref 0), some (.ref 52), some (.int (nI j))] [.int w] h1 _
  refine rk_aload_n rfl rfl ?_
  refine rk_fload_n rfl rfl ?_
  refine rk_iload_n rfl rfl ?_
  refine rk_iconst (v := nI 1) rfl (by decide) ?_
  refine rk_iadd rfl (nI_add _ _) ?_
  refine rk_sald rfl rfl rfl (by omega) (by omega) ?_
  refine rk_fload_n rfl rfl ?_
  refine rk_iload_n rfl rfl ?_
  refine rk_iconst (v := nI 2) rfl (by decide) ?_
  refine rk_iadd rfl (nI_add _ _) ?_
  refine rk_sald rfl rfl rfl (by omega) (by omega) ?_
  refine rk_cg2 rfl rfl hm1 rfl rfl (Nat.le_of_ble_eq_true rfl) (Nat.le_of_ble_eq_true rfl) hmt ?_
  rintro o2 ⟨h2, rfl, hI2⟩
  show Rk X am_293 380 [some (.float 99), some (.ref 0), some (.ref 52), some (.int (nI j))] [.int w, .int w] h2 _
  refine rk_icmp_eq rfl rfl (fun _ => ?_) (fun hn => absurd rfl hn)
  have := nx h2 _ _ hI2
  rw [← LwP_add] at this
  exact (this.mono (fun o hP => by simpa only [ai_add00] using hP))
set_option maxRecDepth 20000 in
theorem law_13 {X : ai_X} {I : Nat → Nat → Nat → ai_H → Prop} {j m c s : Nat} {h : ai_H} {fs : List Value} (hm : m < 64) (hj : j + 6 ≤ X.1) (hL : X.1 ≤ 384) (hx : h[0]? = some (.inr (10, fs))) (hI : I m c s h) (ob : Ob X I am_143 am_238 [.int (X.2 (j + 1)), .int (X.2 (j + 2))]) (nx : ∀ h c s, I (m + 1) c s h → Rk X am_293 1206 [some (.float 99), some (.ref 0), some (.ref 52), some (.int (nI j))] [] h (LwP c s)) : Rk X am_293 383 [some (.float 99), some (.ref 0), some (.ref 52), some (.int (nI j))] [] h (LwP c s) := by
  refine rk_aload_n rfl rfl ?_
  refine rk_fload_n rfl rfl ?_
  refine rk_iload_n rfl rfl ?_
  refine rk_iconst (v := nI 1) rfl (by decide) ?_
  refine rk_iadd rfl (nI_add _ _) ?_
  refine rk_sald rfl rfl rfl (by omega) (by omega) ?_
  refine rk_fload_n rfl rfl ?_
  refine rk_iload_n rfl rfl ?_
  refine rk_iconst (v := nI 2) rfl (by decide) ?_
  refine rk_iadd rfl (nI_add _ _) ?_
  refine rk_sald rfl rfl rfl (by omega) (by omega) ?_
  refine rk_cg2 rfl rfl hx rfl rfl (Nat.le_of_ble_eq_true rfl) (Nat.le_of_ble_eq_true rfl) (ob m c s h hm hI) ?_
  rintro o1 ⟨w, h1, c1, s1, fs1, rfl, hm1, hmt⟩
  show Rk X am_293 395 [some (.float 99), some (.ref 0), some (.ref 52), some (.int (nI j))] [.int w] h1 _
  refine rk_aload_n rfl rfl ?_
  refine rk_fload_n rfl rfl ?_
  refine rk_iload_n rfl rfl ?_
  refine rk_iconst (v := nI 1) rfl (by decide) ?_
  refine rk_iadd rfl (nI_add _ _) ?_
  refine rk_sald rfl rfl rfl (by omega) (by omega) ?_
  refine rk_fload_n rfl rfl ?_
  refine rk_iload_n rfl rfl ?_
  refine rk_iconst (v := nI 2) rfl (by decide) ?_
  refine rk_iadd rfl (nI_add _ _) ?_
  refine rk_sald rfl rfl rfl (by omega) (by omega) ?_
  refine rk_cg2 rfl rfl hm1 rfl rfl (Nat.le_of_ble_eq_true rfl) (Nat.le_of_ble_eq_true rfl) hmt ?_
  rintro o2 ⟨h2, rfl, hI2⟩
  show Rk X am_293 407 [some (.float 99), some (.ref 0), some (.ref 52), some (.int (nI j))] [.int w, .int w] h2 _
  refine rk_icmp_eq rfl rfl (fun _ => ?_) (fun hn => absurd rfl hn)
  have := nx h2 _ _ hI2
  rw [← LwP_add] at this
  exact (this.mono (fun o hP => by simpa only [ai_add00] using hP))
set_option maxRecDepth 20000 in
theorem law_14 {X : ai_X} {I : Nat → Nat → Nat → ai_H → Prop} {j m c s : Nat} {h : ai_H} {fs : List Value} (hm : m < 64) (hj : j + 6 ≤ X.1) (hL : X.1 ≤ 384) (hx : h[0]? = some (.inr (10, fs))) (hI : I m c s h) (ob : Ob X I am_144 am_239 [.int (X.2 (j + 1)), .int (X.2 (j + 2))]) (nx : ∀ h c s, I (m + 1) c s h → Rk X am_293 1206 [some (.float 99), some (.ref 0), some (.ref 52), some (.int (nI j))] [] h (LwP c s)) : Rk X am_293 410 [some (.float 99), some (.ref 0), some (.ref 52), some (.int (nI j))] [] h (LwP c s) := by
  refine rk_aload_n rfl rfl ?_
  refine rk_fload_n rfl rfl ?_
  refine rk_iload_n rfl rfl ?_
  refine rk_iconst (v := nI 1) rfl (by decide) ?_
  refine rk_iadd rfl (nI_add _ _) ?_
  refine rk_sald rfl rfl rfl (by omega) (by omega) ?_
  refine rk_fload_n rfl rfl ?_
  refine rk_iload_n rfl rfl ?_
  refine rk_iconst (v := nI 2) rfl (by decide) ?_
  refine rk_iadd rfl (nI_add _ _) ?_
  refine rk_sald rfl rfl rfl (by omega) (by omega) ?_
  refine rk_cg2 rfl rfl hx rfl rfl (Nat.le_of_ble_eq_true rfl) (Nat.le_of_ble_eq_true rfl) (ob m c s h hm hI) ?_
  rintro o1 ⟨w, h1, c1, s1, fs1, rfl, hm1, hmt⟩
  show Rk X am_293 422 [some (.float 99), some (.ref 0), some (.ref 52), some (.int (nI j))] [.int w] h1 _
  refine rk_aload_n rfl rfl ?_
  refine rk_fload_n rfl rfl ?_
  refine rk_iload_n rfl rfl ?_
  refine rk_iconst (v := nI 1) rfl (by decide) ?_
  refine rk_iadd rfl (nI_add _ _) ?_
  refine rk_sald rfl rfl rfl (by omega) (by omega) ?_
  refine rk_fload_n rfl rfl ?_
  refine rk_iload_n rfl rfl ?_
  refine rk_iconst (v := nI 2) rfl (by decide) ?_
  refine rk_iadd rfl (nI_add _ _) ?_
  refine rk_sald rfl rfl rfl (by omega) (by omega) ?_
  refine rk_cg2 rfl rfl hm1 rfl rfl (Nat.le_of_ble_eq_true rfl) (Nat.le_of_ble_eq_true rfl) hmt ?_
  rintro o2 ⟨h2, rfl, hI2⟩
  show Rk X am_293 434 [some (.float 99), some (.ref 0), some (.ref 52), some (.int (nI j))] [.int w, .int w] h2 _
  refine rk_icmp_eq rfl rfl (fun _ => ?_) (fun hn => absurd rfl hn)
  have := nx h2 _ _ hI2
  rw [← LwP_add] at this
  exact (this.mono (fun o hP => by simpa only [ai_add00] using hP))
set_option maxRecDepth 20000 in
theorem law_15 {X : ai_X} {I : Nat → Nat → Nat → ai_H → Prop} {j m c s : Nat} {h : ai_H} {fs : List Value} (hm : m < 64) (hj : j + 6 ≤ X.1) (hL : X.1 ≤ 384) (hx : h[0]? = some (.inr (10, fs))) (hI : I m c s h) (ob : Ob X I am_146 am_240 []) (nx : ∀ h c s, I (m + 1) c s h → Rk X am_293 1206 [some (.float 99), some (.ref 0), some (.ref 52), some (.int (nI j))] [] h (LwP c s)) : Rk X am_293 437 [some (.float 99), some (.ref 0), some (.ref 52), some (.int (nI j))] [] h (LwP c s) := by
  refine rk_aload_n rfl rfl ?_
  refine rk_cg0 rfl rfl hx rfl rfl (Nat.le_of_ble_eq_true rfl) (Nat.le_of_ble_eq_true rfl) (ob m c s h hm hI) ?_
  rintro o1 ⟨w, h1, c1, s1, fs1, rfl, hm1, hmt⟩
  show Rk X am_293 439 [some (.float 99), some (.ref 0), some (.ref 52), some (.int (nI j))] [.int w] h1 _
  refine rk_aload_n rfl rfl ?_
  refine rk_cg0 rfl rfl hm1 rfl rfl (Nat.le_of_ble_eq_true rfl) (Nat.le_of_ble_eq_true rfl) hmt ?_
  rintro o2 ⟨h2, rfl, hI2⟩
  show Rk X am_293 441 [some (.float 99), some (.ref 0), some (.ref 52), some (.int (nI j))] [.int w, .int w] h2 _
  refine rk_icmp_eq rfl rfl (fun _ => ?_) (fun hn => absurd rfl hn)
  have := nx h2 _ _ hI2
  rw [← LwP_add] at this
  exact (this.mono (fun o hP => by simpa only [ai_add00] using hP))
set_option maxRecDepth 20000 in
theorem law_16 {X : ai_X} {I : Nat → Nat → Nat → ai_H → Prop} {j m c s : Nat} {h : ai_H} {fs : List Value} (hm : m < 64) (hj : j + 6 ≤ X.1) (hL : X.1 ≤ 384) (hx : h[0]? = some (.inr (10, fs))) (hI : I m c s h) (ob : Ob X I am_147 am_243 [.int (X.2 (j + 1)), .int (X.2 (j + 2))]) (nx : ∀ h c s, I (m + 1) c s h → Rk X am_293 1206 [some (.float 99), some (.ref 0), some (.ref 52), some (.int (nI j))] [] h (LwP c s)) : Rk X am_293 444 [some (.float 99), some (.ref 0), some (.ref 52), some (.int (nI j))] [] h (LwP c s) := by
  refine rk_aload_n rfl rfl ?_
  refine rk_fload_n rfl rfl ?_
  refine rk_iload_n rfl rfl ?_
  refine rk_iconst (v := nI 1) rfl (by decide) ?_
  refine rk_iadd rfl (nI_add _ _) ?_
  refine rk_sald rfl rfl rfl (by omega) (by omega) ?_
  refine rk_fload_n rfl rfl ?_
  refine rk_iload_n rfl rfl ?_
  refine rk_iconst (v := nI 2) rfl (by decide) ?_
  refine rk_iadd rfl (nI_add _ _) ?_
  refine rk_sald rfl rfl rfl (by omega) (by omega) ?_
  refine rk_cg2 rfl rfl hx rfl rfl (Nat.le_of_ble_eq_true rfl) (Nat.le_of_ble_eq_true rfl) (ob m c s h hm hI) ?_
  rintro o1 ⟨w, h1, c1, s1, fs1, rfl, hm1, hmt⟩
  show Rk X am_293 456 [some (.float 99), some (.ref 0), some (.ref 52), some (.int (nI j))] [.int w] h1 _
  refine rk_aload_n rfl rfl ?_
  refine rk_fload_n rfl rfl ?_
  refine rk_iload_n rfl rfl ?_
  refine rk_iconst (v := nI 1) rfl (by decide) ?_
  refine rk_iadd rfl (nI_add _ _) ?_
  refine rk_sald rfl rfl rfl (by omega) (by omega) ?_
  refine rk_fload_n rfl rfl ?_
  refine rk_iload_n rfl rfl ?_
  refine rk_iconst (v := nI 2) rfl (by decide) ?_
  refine rk_iadd rfl (nI_add _ _) ?_
  refine rk_sald rfl rfl rfl (by omega) (by omega) ?_
  refine rk_cg2 rfl rfl hm1 rfl rfl (Nat.le_of_ble_eq_true rfl) (Nat.le_of_ble_eq_true rfl) hmt ?_
  rintro o2 ⟨h2, rfl, hI2⟩
  show Rk X am_293 468 [some (.float 99), some (.ref 0), some (.ref 52), some (.int (nI j))] [.int w, .int w] h2 _
  refine rk_icmp_eq rfl rfl (fun _ => ?_) (fun hn => absurd rfl hn)
  have := nx h2 _ _ hI2
  rw [← LwP_add] at this
  exact (this.mono (fun o hP => by simpa only [ai_add00] using hP))
set_option maxRecDepth 20000 in
theorem law_17 {X : ai_X} {I : Nat → Nat → Nat → ai_H → Prop} {j m c s : Nat} {h : ai_H} {fs : List Value} (hm : m < 64) (hj : j + 6 ≤ X.1) (hL : X.1 ≤ 384) (hx : h[0]? = some (.inr (10, fs))) (hI : I m c s h) (ob : Ob X I am_148 am_244 []) (nx : ∀ h c s, I (m + 1) c s h → Rk X am_293 1206 [some (.float 99), some (.ref 0), some (.ref 52), some (.int (nI j))] [] h (LwP c s)) : Rk X am_293 471 [some (.float 99), some (.ref 0), some (.ref 52), some (.int (nI j))] [] h (LwP c s) := by
  refine rk_aload_n rfl rfl ?_
  refine rk_cg0 rfl rfl hx rfl rfl (Nat.le_of_ble_eq_true rfl) (Nat.le_of_ble_eq_true rfl) (ob m c s h hm hI) ?_
  rintro o1 ⟨w, h1, c1, s1, fs1, rfl, hm1, hmt⟩
  show Rk X am_293 473 [some (.float 99), some (.ref 0), some (.ref 52), some (.int (nI j))] [.int w] h1 _
  refine rk_aload_n rfl rfl ?_
  refine rk_cg0 rfl rfl hm1 rfl rfl (Nat.le_of_ble_eq_true rfl) (Nat.le_of_ble_eq_true rfl) hmt ?_
  rintro o2 ⟨h2, rfl, hI2⟩
  show Rk X am_293 475 [some (.float 99), some (.ref 0), some (.ref 52), some (.int (nI j))] [.int w, .int w] h2 _
  refine rk_icmp_eq rfl rfl (fun _ => ?_) (fun hn => absurd rfl hn)
  have := nx h2 _ _ hI2
  rw [← LwP_add] at this
  exact (this.mono (fun o hP => by simpa only [ai_add00] using hP))
set_option maxRecDepth 20000 in
theorem law_18 {X : ai_X} {I : Nat → Nat → Nat → ai_H → Prop} {j m c s : Nat} {h : ai_H} {fs : List Value} (hm : m < 64) (hj : j + 6 ≤ X.1) (hL : X.1 ≤ 384) (hx : h[0]? = some (.inr (10, fs))) (hI : I m c s h) (ob : Ob X I am_149 am_245 [.int (X.2 (j + 1))]) (nx : ∀ h c s, I (m + 1) c s h → Rk X am_293 1206 [some (.float 99), some (.ref 0), some (.ref 52), some (.int (nI j))] [] h (LwP c s)) : Rk X am_293 478 [some (.float 99), some (.ref 0), some (.ref 52), some (.int (nI j))] [] h (LwP c s) := by
  refine rk_aload_n rfl rfl ?_
  refine rk_fload_n rfl rfl ?_
  refine rk_iload_n rfl rfl ?_
  refine rk_iconst (v := nI 1) rfl (by decide) ?_
  refine rk_iadd rfl (nI_add _ _) ?_
  refine rk_sald rfl rfl rfl (by omega) (by omega) ?_
  refine rk_cg1 rfl rfl hx rfl rfl (Nat.le_of_ble_eq_true rfl) (Nat.le_of_ble_eq_true rfl) (ob m c s h hm hI) ?_
  rintro o1 ⟨w, h1, c1, s1, fs1, rfl, hm1, hmt⟩
  show Rk X am_293 485 [some (.float 99), some (.ref 0), some (.ref 52), some (.int (nI j))] [.int w] h1 _
  refine rk_aload_n rfl rfl ?_
  refine rk_fload_n rfl rfl ?_
  refine rk_iload_n rfl rfl ?_
  refine rk_iconst (v := nI 1) rfl (by decide) ?_
  refine rk_iadd rfl (nI_add _ _) ?_
  refine rk_sald rfl rfl rfl (by omega) (by omega) ?_
  refine rk_cg1 rfl rfl hm1 rfl rfl (Nat.le_of_ble_eq_true rfl) (Nat.le_of_ble_eq_true rfl) hmt ?_
  rintro o2 ⟨h2, rfl, hI2⟩
  show Rk X am_293 492 [some (.float 99), some (.ref 0), some (.ref 52), some (.int (nI j))] [.int w, .int w] h2 _
  refine rk_icmp_eq rfl rfl (fun _ => ?_) (fun hn => absurd rfl hn)
  have := nx h2 _ _ hI2
  rw [← LwP_add] at this
  exact (this.mono (fun o hP => by simpa only [ai_add00] using hP))
set_option maxRecDepth 20000 in
theorem law_19 {X : ai_X} {I : Nat → Nat → Nat → ai_H → Prop} {j m c s : Nat} {h : ai_H} {fs : List Value} (hm : m < 64) (hj : j + 6 ≤ X.1) (hL : X.1 ≤ 384) (hx : h[0]? = some (.inr (10, fs))) (hI : I m c s h) (ob : Ob X I am_150 am_246 [.int (X.2 (j + 1))]) (nx : ∀ h c s, I (m + 1) c s h → Rk X am_293 1206 [some (.float 99), some (.ref 0), some (.ref 52), some (.int (nI j))] [] h (LwP c s)) : Rk X am_293 495 [some (.float 99), some (.ref 0), some (.ref 52), some (.int (nI j))] [] h (LwP c s) := by
  refine rk_aload_n rfl rfl ?_
  refine rk_fload_n rfl rfl ?_
  refine rk_iload_n rfl rfl ?_
  refine rk_iconst (v := nI 1) rfl (by decide) ?_
  refine rk_iadd rfl (nI_add _ _) ?_
  refine rk_sald rfl rfl rfl (by omega) (by omega) ?_
  refine rk_cg1 rfl rfl hx rfl rfl (Nat.le_of_ble_eq_true rfl) (Nat.le_of_ble_eq_true rfl) (ob m c s h hm hI) ?_
  rintro o1 ⟨w, h1, c1, s1, fs1, rfl, hm1, hmt⟩
  show Rk X am_293 502 [some (.float 99), some (.ref 0), some (.ref 52), some (.int (nI j))] [.int w] h1 _
  refine rk_aload_n rfl rfl ?_
  refine rk_fload_n rfl rfl ?_
  refine rk_iload_n rfl rfl ?_
  refine rk_iconst (v := nI 1) rfl (by decide) ?_
  refine rk_iadd rfl (nI_add _ _) ?_
  refine rk_sald rfl rfl rfl (by omega) (by omega) ?_
  refine rk_cg1 rfl rfl hm1 rfl rfl (Nat.le_of_ble_eq_true rfl) (Nat.le_of_ble_eq_true rfl) hmt ?_
  rintro o2 ⟨h2, rfl, hI2⟩
  show Rk X am_293 509 [some (.float 99), some (.ref 0), some (.ref 52), some (.int (nI j))] [.int w, .int w] h2 _
  refine rk_icmp_eq rfl rfl (fun _ => ?_) (fun hn => absurd rfl hn)
  have := nx h2 _ _ hI2
  rw [← LwP_add] at this
  exact (this.mono (fun o hP => by simpa only [ai_add00] using hP))
set_option maxRecDepth 20000 in
theorem law_20 {X : ai_X} {I : Nat → Nat → Nat → ai_H → Prop} {j m c s : Nat} {h : ai_H} {fs : List Value} (hm : m < 64) (hj : j + 6 ≤ X.1) (hL : X.1 ≤ 384) (hx : h[0]? = some (.inr (10, fs))) (hI : I m c s h) (ob : Ob X I am_151 am_249 []) (nx : ∀ h c s, I (m + 1) c s h → Rk X am_293 1206 [some (.float 99), some (.ref 0), some (.ref 52), some (.int (nI j))] [] h (LwP c s)) : Rk X am_293 512 [some (.float 99), some (.ref 0), some (.ref 52), some (.int (nI j))] [] h (LwP c s) := by
  refine rk_aload_n rfl rfl ?_
  refine rk_cg0 rfl rfl hx rfl rfl (Nat.le_of_ble_eq_true rfl) (Nat.le_of_ble_eq_true rfl) (ob m c s h hm hI) ?_
  rintro o1 ⟨w, h1, c1, s1, fs1, rfl, hm1, hmt⟩
  show Rk X am_293 514 [some (.float 99), some (.ref 0), some (.ref 52), some (.int (nI j))] [.int w] h1 _
  refine rk_aload_n rfl rfl ?_
  refine rk_cg0 rfl rfl hm1 rfl rfl (Nat.le_of_ble_eq_true rfl) (Nat.le_of_ble_eq_true rfl) hmt ?_
  rintro o2 ⟨h2, rfl, hI2⟩
  show Rk X am_293 516 [some (.float 99), some (.ref 0), some (.ref 52), some (.int (nI j))] [.int w, .int w] h2 _
  refine rk_icmp_eq rfl rfl (fun _ => ?_) (fun hn => absurd rfl hn)
  have := nx h2 _ _ hI2
  rw [← LwP_add] at this
  exact (this.mono (fun o hP => by simpa only [ai_add00] using hP))
set_option maxRecDepth 20000 in
theorem law_21 {X : ai_X} {I : Nat → Nat → Nat → ai_H → Prop} {j m c s : Nat} {h : ai_H} {fs : List Value} (hm : m < 64) (hj : j + 6 ≤ X.1) (hL : X.1 ≤ 384) (hx : h[0]? = some (.inr (10, fs))) (hI : I m c s h) (ob : Ob X I am_152 am_250 [.int (X.2 (j + 1))]) (nx : ∀ h c s, I (m + 1) c s h → Rk X am_293 1206 [some (.float 99), some (.ref 0), some (.ref 52), some (.int (nI j))] [] h (LwP c s)) : Rk X am_293 519 [some (.float 99), some (.ref 0), some (.ref 52), some (.int (nI j))] [] h (LwP c s) := by
  refine rk_aload_n rfl rfl ?_
  refine rk_fload_n rfl rfl ?_
  refine rk_iload_n rfl rfl ?_
  refine rk_iconst (v := nI 1) rfl (by decide) ?_
  refine rk_iadd rfl (nI_add _ _) ?_
  refine rk_sald rfl rfl rfl (by omega) (by omega) ?_
  refine rk_cg1 rfl rfl hx rfl rfl (Nat.le_of_ble_eq_true rfl) (Nat.le_of_ble_eq_true rfl) (ob m c s h hm hI) ?_
  rintro o1 ⟨w, h1, c1, s1, fs1, rfl, hm1, hmt⟩
  show Rk X am_293 526 [some (.float 99), some (.ref 0), some (.ref 52), some (.int (nI j))] [.int w] h1 _
  refine rk_aload_n rfl rfl ?_
  refine rk_fload_n rfl rfl ?_
  refine rk_iload_n rfl rfl ?_
  refine rk_iconst (v := nI 1) rfl (by decide) ?_
  refine rk_iadd rfl (nI_add _ _) ?_
  refine rk_sald rfl rfl rfl (by omega) (by omega) ?_
  refine rk_cg1 rfl rfl hm1 rfl rfl (Nat.le_of_ble_eq_true rfl) (Nat.le_of_ble_eq_true rfl) hmt ?_
  rintro o2 ⟨h2, rfl, hI2⟩
  show Rk X am_293 533 [some (.float 99), some (.ref 0), some (.ref 52), some (.int (nI j))] [.int w, .int w] h2 _
  refine rk_icmp_eq rfl rfl (fun _ => ?_) (fun hn => absurd rfl hn)
  have := nx h2 _ _ hI2
  rw [← LwP_add] at this
  exact (this.mono (fun o hP => by simpa only [ai_add00] using hP))
set_option maxRecDepth 20000 in
theorem law_22 {X : ai_X} {I : Nat → Nat → Nat → ai_H → Prop} {j m c s : Nat} {h : ai_H} {fs : List Value} (hm : m < 64) (hj : j + 6 ≤ X.1) (hL : X.1 ≤ 384) (hx : h[0]? = some (.inr (10, fs))) (hI : I m c s h) (ob : Ob X I am_153 am_251 [.int (X.2 (j + 1)), .int (X.2 (j + 2))]) (nx : ∀ h c s, I (m + 1) c s h → Rk X am_293 1206 [some (.float 99), some (.ref 0), some (.ref 52), some (.int (nI j))] [] h (LwP c s)) : Rk X am_293 536 [some (.float 99), some (.ref 0), some (.ref 52), some (.int (nI j))] [] h (LwP c s) := by
  refine rk_aload_n rfl rfl ?_
  refine rk_fload_n rfl rfl ?_
  refine rk_iload_n rfl rfl ?_
  refine rk_iconst (v := nI 1) rfl (by decide) ?_
  refine rk_iadd rfl (nI_add _ _) ?_
  refine rk_sald rfl rfl rfl (by omega) (by omega) ?_
  refine rk_fload_n rfl rfl ?_
  refine rk_iload_n rfl rfl ?_
  refine rk_iconst (v := nI 2) rfl (by decide) ?_
  refine rk_iadd rfl (nI_add _ _) ?_
  refine rk_sald rfl rfl rfl (by omega) (by omega) ?_
  refine rk_cg2 rfl rfl hx rfl rfl (Nat.le_of_ble_eq_true rfl) (Nat.le_of_ble_eq_true rfl) (ob m c s h hm hI) ?_
  rintro o1 ⟨w, h1, c1, s1, fs1, rfl, hm1, hmt⟩
  show Rk X am_293 548 [some (.float 99), some (.ref 0), some (.ref 52), some (.int (nI j))] [.int w] h1 _
  refine rk_aload_n rfl rfl ?_
  refine rk_fload_n rfl rfl ?_
  refine rk_iload_n rfl rfl ?_
  refine rk_iconst (v := nI 1) rfl (by decide) ?_
  refine rk_iadd rfl (nI_add _ _) ?_
  refine rk_sald rfl rfl rfl (by omega) (by omega) ?_
  refine rk_fload_n rfl rfl ?_
  refine rk_iload_n rfl rfl ?_
  refine rk_iconst (v := nI 2) rfl (by decide) ?_
  refine rk_iadd rfl (nI_add _ _) ?_
  refine rk_sald rfl rfl rfl (by omega) (by omega) ?_
  refine rk_cg2 rfl rfl hm1 rfl rfl (Nat.le_of_ble_eq_true rfl) (Nat.le_of_ble_eq_true rfl) hmt ?_
  rintro o2 ⟨h2, rfl, hI2⟩
  show Rk X am_293 560 [some (.float 99), some (.ref 0), some (.ref 52), some (.int (nI j))] [.int w, .int w] h2 _
  refine rk_icmp_eq rfl rfl (fun _ => ?_) (fun hn => absurd rfl hn)
  have := nx h2 _ _ hI2
  rw [← LwP_add] at this
  exact (this.mono (fun o hP => by simpa only [ai_add00] using hP))
set_option maxRecDepth 20000 in
theorem law_23 {X : ai_X} {I : Nat → Nat → Nat → ai_H → Prop} {j m c s : Nat} {h : ai_H} {fs : List Value} (hm : m < 64) (hj : j + 6 ≤ X.1) (hL : X.1 ≤ 384) (hx : h[0]? = some (.inr (10, fs))) (hI : I m c s h) (ob : Ob X I am_154 am_252 [.int (X.2 (j + 1))]) (nx : ∀ h c s, I (m + 1) c s h → Rk X am_293 1206 [some (.float 99), some (.ref 0), some (.ref 52), some (.int (nI j))] [] h (LwP c s)) : Rk X am_293 563 [some (.float 99), some (.ref 0), some (.ref 52), some (.int (nI j))] [] h (LwP c s) := by
  refine rk_aload_n rfl rfl ?_
  refine rk_fload_n rfl rfl ?_
  refine rk_iload_n rfl rfl ?_
  refine rk_iconst (v := nI 1) rfl (by decide) ?_
  refine rk_iadd rfl (nI_add _ _) ?_
  refine rk_sald rfl rfl rfl (by omega) (by omega) ?_
  refine rk_cg1 rfl rfl hx rfl rfl (Nat.le_of_ble_eq_true rfl) (Nat.le_of_ble_eq_true rfl) (ob m c s h hm hI) ?_
  rintro o1 ⟨w, h1, c1, s1, fs1, rfl, hm1, hmt⟩
  show Rk X am_293 570 [some (.float 99), some (.ref 0), some (.ref 52), some (.int (nI j))] [.int w] h1 _
  refine rk_aload_n rfl rfl ?_
  refine rk_fload_n rfl rfl ?_
  refine rk_iload_n rfl rfl ?_
  refine rk_iconst (v := nI 1) rfl (by decide) ?_
  refine rk_iadd rfl (nI_add _ _) ?_
  refine rk_sald rfl rfl rfl (by omega) (by omega) ?_
  refine rk_cg1 rfl rfl hm1 rfl rfl (Nat.le_of_ble_eq_true rfl) (Nat.le_of_ble_eq_true rfl) hmt ?_
  rintro o2 ⟨h2, rfl, hI2⟩
  show Rk X am_293 577 [some (.float 99), some (.ref 0), some (.ref 52), some (.int (nI j))] [.int w, .int w] h2 _
  refine rk_icmp_eq rfl rfl (fun _ => ?_) (fun hn => absurd rfl hn)
  have := nx h2 _ _ hI2
  rw [← LwP_add] at this
  exact (this.mono (fun o hP => by simpa only [ai_add00] using hP))
set_option maxRecDepth 20000 in
theorem law_24 {X : ai_X} {I : Nat → Nat → Nat → ai_H → Prop} {j m c s : Nat} {h : ai_H} {fs : List Value} (hm : m < 64) (hj : j + 6 ≤ X.1) (hL : X.1 ≤ 384) (hx : h[0]? = some (.inr (10, fs))) (hI : I m c s h) (ob : Ob X I am_155 am_257 [.int (X.2 (j + 1)), .int (X.2 (j + 2)), .int (bI (¬ X.2 (j + 3) = 0))]) (nx : ∀ h c s, I (m + 1) c s h → Rk X am_293 1206 [some (.float 99), some (.ref 0), some (.ref 52), some (.int (nI j))] [] h (LwP c s)) : Rk X am_293 580 [some (.float 99), some (.ref 0), some (.ref 52), some (.int (nI j))] [] h (LwP c s) := by
  refine rk_aload_n rfl rfl ?_
  refine rk_fload_n rfl rfl ?_
  refine rk_iload_n rfl rfl ?_
  refine rk_iconst (v := nI 1) rfl (by decide) ?_
  refine rk_iadd rfl (nI_add _ _) ?_
  refine rk_sald rfl rfl rfl (by omega) (by omega) ?_
  refine rk_fload_n rfl rfl ?_
  refine rk_iload_n rfl rfl ?_
  refine rk_iconst (v := nI 2) rfl (by decide) ?_
  refine rk_iadd rfl (nI_add _ _) ?_
  refine rk_sald rfl rfl rfl (by omega) (by omega) ?_
  refine rk_fload_n rfl rfl ?_
  refine rk_iload_n rfl rfl ?_
  refine rk_iconst (v := nI 3) rfl (by decide) ?_
  refine rk_iadd rfl (nI_add _ _) ?_
  refine rk_sald rfl rfl rfl (by omega) (by omega) ?_
  refine rk_bool rfl rfl rfl rfl rfl rfl rfl rfl ?_
  refine rk_cg3 rfl rfl hx rfl rfl (Nat.le_of_ble_eq_true rfl) (Nat.le_of_ble_eq_true rfl) (ob m c s h hm hI) ?_
  rintro o1 ⟨w, h1, c1, s1, fs1, rfl, hm1, hmt⟩
  show Rk X am_293 601 [some (.float 99), some (.ref 0), some (.ref 52), some (.int (nI j))] [.int w] h1 _
  refine rk_aload_n rfl rfl ?_
  refine rk_fload_n rfl rfl ?_
  refine rk_iload_n rfl rfl ?_
  refine rk_iconst (v := nI 1) rfl (by decide) ?_
  refine rk_iadd rfl (nI_add _ _) ?_
  refine rk_sald rfl rfl rfl (by omega) (by omega) ?_
  refine rk_fload_n rfl rfl ?_
  refine rk_iload_n rfl rfl ?_
  refine rk_iconst (v := nI 2) rfl (by decide) ?_
  refine rk_iadd rfl (nI_add _ _) ?_
  refine rk_sald rfl rfl rfl (by omega) (by omega) ?_
  refine rk_fload_n rfl rfl ?_
  refine rk_iload_n rfl rfl ?_
  refine rk_iconst (v := nI 3) rfl (by decide) ?_
  refine rk_iadd rfl (nI_add _ _) ?_
  refine rk_sald rfl rfl rfl (by omega) (by omega) ?_
  refine rk_bool rfl rfl rfl rfl rfl rfl rfl rfl ?_
  refine rk_cg3 rfl rfl hm1 rfl rfl (Nat.le_of_ble_eq_true rfl) (Nat.le_of_ble_eq_true rfl) hmt ?_
  rintro o2 ⟨h2, rfl, hI2⟩
  show Rk X am_293 622 [some (.float 99), some (.ref 0), some (.ref 52), some (.int (nI j))] [.int w, .int w] h2 _
  refine rk_icmp_eq rfl rfl (fun _ => ?_) (fun hn => absurd rfl hn)
  have := nx h2 _ _ hI2
  rw [← LwP_add] at this
  exact (this.mono (fun o hP => by simpa only [ai_add00] using hP))
set_option maxRecDepth 20000 in
theorem law_25 {X : ai_X} {I : Nat → Nat → Nat → ai_H → Prop} {j m c s : Nat} {h : ai_H} {fs : List Value} (hm : m < 64) (hj : j + 6 ≤ X.1) (hL : X.1 ≤ 384) (hx : h[0]? = some (.inr (10, fs))) (hI : I m c s h) (ob : Ob X I am_156 am_258 [.int (X.2 (j + 1)), .int (bI (¬ X.2 (j + 2) = 0))]) (nx : ∀ h c s, I (m + 1) c s h → Rk X am_293 1206 [some (.float 99), some (.ref 0), some (.ref 52), some (.int (nI j))] [] h (LwP c s)) : Rk X am_293 625 [some (.float 99), some (.ref 0), some (.ref 52), some (.int (nI j))] [] h (LwP c s) := by
  refine rk_aload_n rfl rfl ?_
  refine rk_fload_n rfl rfl ?_
  refine rk_iload_n rfl rfl ?_
  refine rk_iconst (v := nI 1) rfl (by decide) ?_
  refine rk_iadd rfl (nI_add _ _) ?_
  refine rk_sald rfl rfl rfl (by omega) (by omega) ?_
  refine rk_fload_n rfl rfl ?_
  refine rk_iload_n rfl rfl ?_
  refine rk_iconst (v := nI 2) rfl (by decide) ?_
  refine rk_iadd rfl (nI_add _ _) ?_
  refine rk_sald rfl rfl rfl (by omega) (by omega) ?_
  refine rk_bool rfl rfl rfl rfl rfl rfl rfl rfl ?_
  refine rk_cg2 rfl rfl hx rfl rfl (Nat.le_of_ble_eq_true rfl) (Nat.le_of_ble_eq_true rfl) (ob m c s h hm hI) ?_
  rintro o1 ⟨w, h1, c1, s1, fs1, rfl, hm1, hmt⟩
  show Rk X am_293 641 [some (.float 99), some (.ref 0), some (.ref 52), some (.int (nI j))] [.int w] h1 _
  refine rk_aload_n rfl rfl ?_
  refine rk_fload_n rfl rfl ?_
  refine rk_iload_n rfl rfl ?_
  refine rk_iconst (v := nI 1) rfl (by decide) ?_
  refine rk_iadd rfl (nI_add _ _) ?_
  refine rk_sald rfl rfl rfl (by omega) (by omega) ?_
  refine rk_fload_n rfl rfl ?_
  refine rk_iload_n rfl rfl ?_
  refine rk_iconst (v := nI 2) rfl (by decide) ?_
  refine rk_iadd rfl (nI_add _ _) ?_
  refine rk_sald rfl rfl rfl (by omega) (by omega) ?_
  refine rk_bool rfl rfl rfl rfl rfl rfl rfl rfl ?_
  refine rk_cg2 rfl rfl hm1 rfl rfl (Nat.le_of_ble_eq_true rfl) (Nat.le_of_ble_eq_true rfl) hmt ?_
  rintro o2 ⟨h2, rfl, hI2⟩
  show Rk X am_293 657 [some (.float 99), some (.ref 0), some (.ref 52), some (.int (nI j))] [.int w, .int w] h2 _
  refine rk_icmp_eq rfl rfl (fun _ => ?_) (fun hn => absurd rfl hn)
  have := nx h2 _ _ hI2
  rw [← LwP_add] at this
  exact (this.mono (fun o hP => by simpa only [ai_add00] using hP))
set_option maxRecDepth 20000 in
theorem law_26 {X : ai_X} {I : Nat → Nat → Nat → ai_H → Prop} {j m c s : Nat} {h : ai_H} {fs : List Value} (hm : m < 64) (hj : j + 6 ≤ X.1) (hL : X.1 ≤ 384) (hx : h[0]? = some (.inr (10, fs))) (hI : I m c s h) (ob : Ob X I am_157 am_260 [.int (X.2 (j + 1))]) (nx : ∀ h c s, I (m + 1) c s h → Rk X am_293 1206 [some (.float 99), some (.ref 0), some (.ref 52), some (.int (nI j))] [] h (LwP c s)) : Rk X am_293 660 [some (.float 99), some (.ref 0), some (.ref 52), some (.int (nI j))] [] h (LwP c s) := by
  refine rk_aload_n rfl rfl ?_
  refine rk_fload_n rfl rfl ?_
  refine rk_iload_n rfl rfl ?_
  refine rk_iconst (v := nI 1) rfl (by decide) ?_
  refine rk_iadd rfl (nI_add _ _) ?_
  refine rk_sald rfl rfl rfl (by omega) (by omega) ?_
  refine rk_cg1 rfl rfl hx rfl rfl (Nat.le_of_ble_eq_true rfl) (Nat.le_of_ble_eq_true rfl) (ob m c s h hm hI) ?_
  rintro o1 ⟨w, h1, c1, s1, fs1, rfl, hm1, hmt⟩
  show Rk X am_293 667 [some (.float 99), some (.ref 0), some (.ref 52), some (.int (nI j))] [.int w] h1 _
  refine rk_aload_n rfl rfl ?_
  refine rk_fload_n rfl rfl ?_
  refine rk_iload_n rfl rfl ?_
  refine rk_iconst (v := nI 1) rfl (by decide) ?_
  refine rk_iadd rfl (nI_add _ _) ?_
  refine rk_sald rfl rfl rfl (by omega) (by omega) ?_
  refine rk_cg1 rfl rfl hm1 rfl rfl (Nat.le_of_ble_eq_true rfl) (Nat.le_of_ble_eq_true rfl) hmt ?_
  rintro o2 ⟨h2, rfl, hI2⟩
  show Rk X am_293 674 [some (.float 99), some (.ref 0), some (.ref 52), some (.int (nI j))] [.int w, .int w] h2 _
  refine rk_icmp_eq rfl rfl (fun _ => ?_) (fun hn => absurd rfl hn)
  have := nx h2 _ _ hI2
  rw [← LwP_add] at this
  exact (this.mono (fun o hP => by simpa only [ai_add00] using hP))
set_option maxRecDepth 20000 in
theorem law_27 {X : ai_X} {I : Nat → Nat → Nat → ai_H → Prop} {j m c s : Nat} {h : ai_H} {fs : List Value} (hm : m < 64) (hj : j + 6 ≤ X.1) (hL : X.1 ≤ 384) (hx : h[0]? = some (.inr (10, fs))) (hI : I m c s h) (ob : Ob X I am_158 am_262 [.int (X.2 (j + 1)), .int (X.2 (j + 2))]) (nx : ∀ h c s, I (m + 1) c s h → Rk X am_293 1206 [some (.float 99), some (.ref 0), some (.ref 52), some (.int (nI j))] [] h (LwP c s)) : Rk X am_293 677 [some (.float 99), some (.ref 0), some (.ref 52), some (.int (nI j))] [] h (LwP c s) := by
  refine rk_aload_n rfl rfl ?_
  refine rk_fload_n rfl rfl ?_
  refine rk_iload_n rfl rfl ?_
  refine rk_iconst (v := nI 1) rfl (by decide) ?_
  refine rk_iadd rfl (nI_add _ _) ?_
  refine rk_sald rfl rfl rfl (by omega) (by omega) ?_
  refine rk_fload_n rfl rfl ?_
  refine rk_iload_n rfl rfl ?_
  refine rk_iconst (v := nI 2) rfl (by decide) ?_
  refine rk_iadd rfl (nI_add _ _) ?_
  refine rk_sald rfl rfl rfl (by omega) (by omega) ?_
  refine rk_cg2 rfl rfl hx rfl rfl (Nat.le_of_ble_eq_true rfl) (Nat.le_of_ble_eq_true rfl) (ob m c s h hm hI) ?_
  rintro o1 ⟨w, h1, c1, s1, fs1, rfl, hm1, hmt⟩
  show Rk X am_293 689 [some (.float 99), some (.ref 0), some (.ref 52), some (.int (nI j))] [.int w] h1 _
  refine rk_aload_n rfl rfl ?_
  refine rk_fload_n rfl rfl ?_
  refine rk_iload_n rfl rfl ?_
  refine rk_iconst (v := nI 1) rfl (by decide) ?_
  refine rk_iadd rfl (nI_add _ _) ?_
  refine rk_sald rfl rfl rfl (by omega) (by omega) ?_
  refine rk_fload_n rfl rfl ?_
  refine rk_iload_n rfl rfl ?_
  refine rk_iconst (v := nI 2) rfl (by decide) ?_
  refine rk_iadd rfl (nI_add _ _) ?_
  refine rk_sald rfl rfl rfl (by omega) (by omega) ?_
  refine rk_cg2 rfl rfl hm1 rfl rfl (Nat.le_of_ble_eq_true rfl) (Nat.le_of_ble_eq_true rfl) hmt ?_
  rintro o2 ⟨h2, rfl, hI2⟩
  show Rk X am_293 701 [some (.float 99), some (.ref 0), some (.ref 52), some (.int (nI j))] [.int w, .int w] h2 _
  refine rk_icmp_eq rfl rfl (fun _ => ?_) (fun hn => absurd rfl hn)
  have := nx h2 _ _ hI2
  rw [← LwP_add] at this
  exact (this.mono (fun o hP => by simpa only [ai_add00] using hP))
set_option maxRecDepth 20000 in
theorem law_28 {X : ai_X} {I : Nat → Nat → Nat → ai_H → Prop} {j m c s : Nat} {h : ai_H} {fs : List Value} (hm : m < 64) (hj : j + 6 ≤ X.1) (hL : X.1 ≤ 384) (hx : h[0]? = some (.inr (10, fs))) (hI : I m c s h) (ob : Ob X I am_159 am_263 []) (nx : ∀ h c s, I (m + 1) c s h → Rk X am_293 1206 [some (.float 99), some (.ref 0), some (.ref 52), some (.int (nI j))] [] h (LwP c s)) : Rk X am_293 704 [some (.float 99), some (.ref 0), some (.ref 52), some (.int (nI j))] [] h (LwP c s) := by
  refine rk_aload_n rfl rfl ?_
  refine rk_cg0 rfl rfl hx rfl rfl (Nat.le_of_ble_eq_true rfl) (Nat.le_of_ble_eq_true rfl) (ob m c s h hm hI) ?_
  rintro o1 ⟨w, h1, c1, s1, fs1, rfl, hm1, hmt⟩
  show Rk X am_293 706 [some (.float 99), some (.ref 0), some (.ref 52), some (.int (nI j))] [.int w] h1 _
  refine rk_aload_n rfl rfl ?_
  refine rk_cg0 rfl rfl hm1 rfl rfl (Nat.le_of_ble_eq_true rfl) (Nat.le_of_ble_eq_true rfl) hmt ?_
  rintro o2 ⟨h2, rfl, hI2⟩
  show Rk X am_293 708 [some (.float 99), some (.ref 0), some (.ref 52), some (.int (nI j))] [.int w, .int w] h2 _
  refine rk_icmp_eq rfl rfl (fun _ => ?_) (fun hn => absurd rfl hn)
  have := nx h2 _ _ hI2
  rw [← LwP_add] at this
  exact (this.mono (fun o hP => by simpa only [ai_add00] using hP))
set_option maxRecDepth 20000 in
theorem law_29 {X : ai_X} {I : Nat → Nat → Nat → ai_H → Prop} {j m c s : Nat} {h : ai_H} {fs : List Value} (hm : m < 64) (hj : j + 6 ≤ X.1) (hL : X.1 ≤ 384) (hx : h[0]? = some (.inr (10, fs))) (hI : I m c s h) (ob : Ob X I am_160 am_264 [.int (X.2 (j + 1)), .int (X.2 (j + 2))]) (nx : ∀ h c s, I (m + 1) c s h → Rk X am_293 1206 [some (.float 99), some (.ref 0), some (.ref 52), some (.int (nI j))] [] h (LwP c s)) : Rk X am_293 711 [some (.float 99), some (.ref 0), some (.ref 52), some (.int (nI j))] [] h (LwP c s) := by
  refine rk_aload_n rfl rfl ?_
  refine rk_fload_n rfl rfl ?_
  refine rk_iload_n rfl rfl ?_
  refine rk_iconst (v := nI 1) rfl (by decide) ?_
  refine rk_iadd rfl (nI_add _ _) ?_
  refine rk_sald rfl rfl rfl (by omega) (by omega) ?_
  refine rk_fload_n rfl rfl ?_
  refine rk_iload_n rfl rfl ?_
  refine rk_iconst (v := nI 2) rfl (by decide) ?_
  refine rk_iadd rfl (nI_add _ _) ?_
  refine rk_sald rfl rfl rfl (by omega) (by omega) ?_
  refine rk_cg2 rfl rfl hx rfl rfl (Nat.le_of_ble_eq_true rfl) (Nat.le_of_ble_eq_true rfl) (ob m c s h hm hI) ?_
  rintro o1 ⟨w, h1, c1, s1, fs1, rfl, hm1, hmt⟩
  show Rk X am_293 723 [some (.float 99), some (.ref 0), some (.ref 52), some (.int (nI j))] [.int w] h1 _
  refine rk_aload_n rfl rfl ?_
  refine rk_fload_n rfl rfl ?_
  refine rk_iload_n rfl rfl ?_
  refine rk_iconst (v := nI 1) rfl (by decide) ?_
  refine rk_iadd rfl (nI_add _ _) ?_
  refine rk_sald rfl rfl rfl (by omega) (by omega) ?_
  refine rk_fload_n rfl rfl ?_
  refine rk_iload_n rfl rfl ?_
  refine rk_iconst (v := nI 2) rfl (by decide) ?_
  refine rk_iadd rfl (nI_add _ _) ?_
  refine rk_sald rfl rfl rfl (by omega) (by omega) ?_
  refine rk_cg2 rfl rfl hm1 rfl rfl (Nat.le_of_ble_eq_true rfl) (Nat.le_of_ble_eq_true rfl) hmt ?_
  rintro o2 ⟨h2, rfl, hI2⟩
  show Rk X am_293 735 [some (.float 99), some (.ref 0), some (.ref 52), some (.int (nI j))] [.int w, .int w] h2 _
  refine rk_icmp_eq rfl rfl (fun _ => ?_) (fun hn => absurd rfl hn)
  have := nx h2 _ _ hI2
  rw [← LwP_add] at this
  exact (this.mono (fun o hP => by simpa only [ai_add00] using hP))
set_option maxRecDepth 20000 in
theorem law_30 {X : ai_X} {I : Nat → Nat → Nat → ai_H → Prop} {j m c s : Nat} {h : ai_H} {fs : List Value} (hm : m < 64) (hj : j + 6 ≤ X.1) (hL : X.1 ≤ 384) (hx : h[0]? = some (.inr (10, fs))) (hI : I m c s h) (ob : Ob X I am_161 am_268 [.int (X.2 (j + 1)), .int (X.2 (j + 2))]) (nx : ∀ h c s, I (m + 1) c s h → Rk X am_293 1206 [some (.float 99), some (.ref 0), some (.ref 52), some (.int (nI j))] [] h (LwP c s)) : Rk X am_293 738 [some (.float 99), some (.ref 0), some (.ref 52), some (.int (nI j))] [] h (LwP c s) := by
  refine rk_aload_n rfl rfl ?_
  refine rk_fload_n rfl rfl ?_
  refine rk_iload_n rfl rfl ?_
  refine rk_iconst (v := nI 1) rfl (by decide) ?_
  refine rk_iadd rfl (nI_add _ _) ?_
  refine rk_sald rfl rfl rfl (by omega) (by omega) ?_
  refine rk_fload_n rfl rfl ?_
  refine rk_iload_n rfl rfl ?_
  refine rk_iconst (v := nI 2) rfl (by decide) ?_
  refine rk_iadd rfl (nI_add _ _) ?_
  refine rk_sald rfl rfl rfl (by omega) (by omega) ?_
  refine rk_cg2 rfl rfl hx rfl rfl (Nat.le_of_ble_eq_true rfl) (Nat.le_of_ble_eq_true rfl) (ob m c s h hm hI) ?_
  rintro o1 ⟨w, h1, c1, s1, fs1, rfl, hm1, hmt⟩
  show Rk X am_293 750 [some (.float 99), some (.ref 0), some (.ref 52), some (.int (nI j))] [.int w] h1 _
  refine rk_aload_n rfl rfl ?_
  refine rk_fload_n rfl rfl ?_
  refine rk_iload_n rfl rfl ?_
  refine rk_iconst (v := nI 1) rfl (by decide) ?_
  refine rk_iadd rfl (nI_add _ _) ?_
  refine rk_sald rfl rfl rfl (by omega) (by omega) ?_
  refine rk_fload_n rfl rfl ?_
  refine rk_iload_n rfl rfl ?_
  refine rk_iconst (v := nI 2) rfl (by decide) ?_
  refine rk_iadd rfl (nI_add _ _) ?_
  refine rk_sald rfl rfl rfl (by omega) (by omega) ?_
  refine rk_cg2 rfl rfl hm1 rfl rfl (Nat.le_of_ble_eq_true rfl) (Nat.le_of_ble_eq_true rfl) hmt ?_
  rintro o2 ⟨h2, rfl, hI2⟩
  show Rk X am_293 762 [some (.float 99), some (.ref 0), some (.ref 52), some (.int (nI j))] [.int w, .int w] h2 _
  refine rk_icmp_eq rfl rfl (fun _ => ?_) (fun hn => absurd rfl hn)
  have := nx h2 _ _ hI2
  rw [← LwP_add] at this
  exact (this.mono (fun o hP => by simpa only [ai_add00] using hP))
set_option maxRecDepth 20000 in
theorem law_31 {X : ai_X} {I : Nat → Nat → Nat → ai_H → Prop} {j m c s : Nat} {h : ai_H} {fs : List Value} (hm : m < 64) (hj : j + 6 ≤ X.1) (hL : X.1 ≤ 384) (hx : h[0]? = some (.inr (10, fs))) (hI : I m c s h) (ob : Ob X I am_162 am_269 [.int (X.2 (j + 1)), .int (X.2 (j + 2)), .int (X.2 (j + 3))]) (nx : ∀ h c s, I (m + 1) c s h → Rk X am_293 1206 [some (.float 99), some (.ref 0), some (.ref 52), some (.int (nI j))] [] h (LwP c s)) : Rk X am_293 765 [some (.float 99), some (.ref 0), some (.ref 52), some (.int (nI j))] [] h (LwP c s) := by
  refine rk_aload_n rfl rfl ?_
  refine rk_fload_n rfl rfl ?_
  refine rk_iload_n rfl rfl ?_
  refine rk_iconst (v := nI 1) rfl (by decide) ?_
  refine rk_iadd rfl (nI_add _ _) ?_
  refine rk_sald rfl rfl rfl (by omega) (by omega) ?_
  refine rk_fload_n rfl rfl ?_
  refine rk_iload_n rfl rfl ?_
  refine rk_iconst (v := nI 2) rfl (by decide) ?_
  refine rk_iadd rfl (nI_add _ _) ?_
  refine rk_sald rfl rfl rfl (by omega) (by omega) ?_
  refine rk_fload_n rfl rfl ?_
  refine rk_iload_n rfl rfl ?_
  refine rk_iconst (v := nI 3) rfl (by decide) ?_
  refine rk_iadd rfl (nI_add _ _) ?_
  refine rk_sald rfl rfl rfl (by omega) (by omega) ?_
  refine rk_cg3 rfl rfl hx rfl rfl (Nat.le_of_ble_eq_true rfl) (Nat.le_of_ble_eq_true rfl) (ob m c s h hm hI) ?_
  rintro o1 ⟨w, h1, c1, s1, fs1, rfl, hm1, hmt⟩
  show Rk X am_293 782 [some (.float 99), some (.ref 0), some (.ref 52), some (.int (nI j))] [.int w] h1 _
  refine rk_aload_n rfl rfl ?_
  refine rk_fload_n rfl rfl ?_
  refine rk_iload_n rfl rfl ?_
  refine rk_iconst (v := nI 1) rfl (by decide) ?_
  refine rk_iadd rfl (nI_add _ _) ?_
  refine rk_sald rfl rfl rfl (by omega) (by omega) ?_
  refine rk_fload_n rfl rfl ?_
  refine rk_iload_n rfl rfl ?_
  refine rk_iconst (v := nI 2) rfl (by decide) ?_
  refine rk_iadd rfl (nI_add _ _) ?_
  refine rk_sald rfl rfl rfl (by omega) (by omega) ?_
  refine rk_fload_n rfl rfl ?_
  refine rk_iload_n rfl rfl ?_
  refine rk_iconst (v := nI 3) rfl (by decide) ?_
  refine rk_iadd rfl (nI_add _ _) ?_
  refine rk_sald rfl rfl rfl (by omega) (by omega) ?_
  refine rk_cg3 rfl rfl hm1 rfl rfl (Nat.le_of_ble_eq_true rfl) (Nat.le_of_ble_eq_true rfl) hmt ?_
  rintro o2 ⟨h2, rfl, hI2⟩
  show Rk X am_293 799 [some (.float 99), some (.ref 0), some (.ref 52), some (.int (nI j))] [.int w, .int w] h2 _
  refine rk_icmp_eq rfl rfl (fun _ => ?_) (fun hn => absurd rfl hn)
  have := nx h2 _ _ hI2
  rw [← LwP_add] at this
  exact (this.mono (fun o hP => by simpa only [ai_add00] using hP))
set_option maxRecDepth 20000 in
theorem law_32 {X : ai_X} {I : Nat → Nat → Nat → ai_H → Prop} {j m c s : Nat} {h : ai_H} {fs : List Value} (hm : m < 64) (hj : j + 6 ≤ X.1) (hL : X.1 ≤ 384) (hx : h[0]? = some (.inr (10, fs))) (hI : I m c s h) (ob : Ob X I am_163 am_271 [.int (X.2 (j + 1)), .int (X.2 (j + 2)), .int (X.2 (j + 3))]) (nx : ∀ h c s, I (m + 1) c s h → Rk X am_293 1206 [some (.float 99), some (.ref 0), some (.ref 52), some (.int (nI j))] [] h (LwP c s)) : Rk X am_293 802 [some (.float 99), some (.ref 0), some (.ref 52), some (.int (nI j))] [] h (LwP c s) := by
  refine rk_aload_n rfl rfl ?_
  refine rk_fload_n rfl rfl ?_
  refine rk_iload_n rfl rfl ?_
  refine rk_iconst (v := nI 1) rfl (by decide) ?_
  refine rk_iadd rfl (nI_add _ _) ?_
  refine rk_sald rfl rfl rfl (by omega) (by omega) ?_
  refine rk_fload_n rfl rfl ?_
  refine rk_iload_n rfl rfl ?_
  refine rk_iconst (v := nI 2) rfl (by decide) ?_
  refine rk_iadd rfl (nI_add _ _) ?_
  refine rk_sald rfl rfl rfl (by omega) (by omega) ?_
  refine rk_fload_n rfl rfl ?_
  refine rk_iload_n rfl rfl ?_
  refine rk_iconst (v := nI 3) rfl (by decide) ?_
  refine rk_iadd rfl (nI_add _ _) ?_
  refine rk_sald rfl rfl rfl (by omega) (by omega) ?_
  refine rk_cg3 rfl rfl hx rfl rfl (Nat.le_of_ble_eq_true rfl) (Nat.le_of_ble_eq_true rfl) (ob m c s h hm hI) ?_
  rintro o1 ⟨w, h1, c1, s1, fs1, rfl, hm1, hmt⟩
  show Rk X am_293 819 [some (.float 99), some (.ref 0), some (.ref 52), some (.int (nI j))] [.int w] h1 _
  refine rk_aload_n rfl rfl ?_
  refine rk_fload_n rfl rfl ?_
  refine rk_iload_n rfl rfl ?_
  refine rk_iconst (v := nI 1) rfl (by decide) ?_
  refine rk_iadd rfl (nI_add _ _) ?_
  refine rk_sald rfl rfl rfl (by omega) (by omega) ?_
  refine rk_fload_n rfl rfl ?_
  refine rk_iload_n rfl rfl ?_
  refine rk_iconst (v := nI 2) rfl (by decide) ?_
  refine rk_iadd rfl (nI_add _ _) ?_
  refine rk_sald rfl rfl rfl (by omega) (by omega) ?_
  refine rk_fload_n rfl rfl ?_
  refine rk_iload_n rfl rfl ?_
  refine rk_iconst (v := nI 3) rfl (by decide) ?_
  refine rk_iadd rfl (nI_add _ _) ?_
  refine rk_sald rfl rfl rfl (by omega) (by omega) ?_
  refine rk_cg3 rfl rfl hm1 rfl rfl (Nat.le_of_ble_eq_true rfl) (Nat.le_of_ble_eq_true rfl) hmt ?_
  rintro o2 ⟨h2, rfl, hI2⟩
  show Rk X am_293 836 [some (.float 99), some (.ref 0), some (.ref 52), some (.int (nI j))] [.int w, .int w] h2 _
  refine rk_icmp_eq rfl rfl (fun _ => ?_) (fun hn => absurd rfl hn)
  have := nx h2 _ _ hI2
  rw [← LwP_add] at this
  exact (this.mono (fun o hP => by simpa only [ai_add00] using hP))
set_option maxRecDepth 20000 in
theorem law_33 {X : ai_X} {I : Nat → Nat → Nat → ai_H → Prop} {j m c s : Nat} {h : ai_H} {fs : List Value} (hm : m < 64) (hj : j + 6 ≤ X.1) (hL : X.1 ≤ 384) (hx : h[0]? = some (.inr (10, fs))) (hI : I m c s h) (ob : Ob X I am_164 am_272 [.int (X.2 (j + 1)), .int (X.2 (j + 2)), .int (X.2 (j + 3))]) (nx : ∀ h c s, I (m + 1) c s h → Rk X am_293 1206 [some (.float 99), some (.ref 0), some (.ref 52), some (.int (nI j))] [] h (LwP c s)) : Rk X am_293 839 [some (.float 99), some (.ref 0), some (.ref 52), some (.int (nI j))] [] h (LwP c s) := by
  refine rk_aload_n rfl rfl ?_
  refine rk_fload_n rfl rfl ?_
  refine rk_iload_n rfl rfl ?_
  refine rk_iconst (v := nI 1) rfl (by decide) ?_
  refine rk_iadd rfl (nI_add _ _) ?_
  refine rk_sald rfl rfl rfl (by omega) (by omega) ?_
  refine rk_fload_n rfl rfl ?_
  refine rk_iload_n rfl rfl ?_
  refine rk_iconst (v := nI 2) rfl (by decide) ?_
  refine rk_iadd rfl (nI_add _ _) ?_
  refine rk_sald rfl rfl rfl (by omega) (by omega) ?_
  refine rk_fload_n rfl rfl ?_
  refine rk_iload_n rfl rfl ?_
  refine rk_iconst (v := nI 3) rfl (by decide) ?_
  refine rk_iadd rfl (nI_add _ _) ?_
  refine rk_sald rfl rfl rfl (by omega) (by omega) ?_
  refine rk_cg3 rfl rfl hx rfl rfl (Nat.le_of_ble_eq_true rfl) (Nat.le_of_ble_eq_true rfl) (ob m c s h hm hI) ?_
  rintro o1 ⟨w, h1, c1, s1, fs1, rfl, hm1, hmt⟩
  show Rk X am_293 856 [some (.float 99), some (.ref 0), some (.ref 52), some (.int (nI j))] [.int w] h1 _
  refine rk_aload_n rfl rfl ?_
  refine rk_fload_n rfl rfl ?_
  refine rk_iload_n rfl rfl ?_
  refine rk_iconst (v := nI 1) rfl (by decide) ?_
  refine rk_iadd rfl (nI_add _ _) ?_
  refine rk_sald rfl rfl rfl (by omega) (by omega) ?_
  refine rk_fload_n rfl rfl ?_
  refine rk_iload_n rfl rfl ?_
  refine rk_iconst (v := nI 2) rfl (by decide) ?_
  refine rk_iadd rfl (nI_add _ _) ?_
  refine rk_sald rfl rfl rfl (by omega) (by omega) ?_
  refine rk_fload_n rfl rfl ?_
  refine rk_iload_n rfl rfl ?_
  refine rk_iconst (v := nI 3) rfl (by decide) ?_
  refine rk_iadd rfl (nI_add _ _) ?_
  refine rk_sald rfl rfl rfl (by omega) (by omega) ?_
  refine rk_cg3 rfl rfl hm1 rfl rfl (Nat.le_of_ble_eq_true rfl) (Nat.le_of_ble_eq_true rfl) hmt ?_
  rintro o2 ⟨h2, rfl, hI2⟩
  show Rk X am_293 873 [some (.float 99), some (.ref 0), some (.ref 52), some (.int (nI j))] [.int w, .int w] h2 _
  refine rk_icmp_eq rfl rfl (fun _ => ?_) (fun hn => absurd rfl hn)
  have := nx h2 _ _ hI2
  rw [← LwP_add] at this
  exact (this.mono (fun o hP => by simpa only [ai_add00] using hP))
set_option maxRecDepth 20000 in
theorem law_34 {X : ai_X} {I : Nat → Nat → Nat → ai_H → Prop} {j m c s : Nat} {h : ai_H} {fs : List Value} (hm : m < 64) (hj : j + 6 ≤ X.1) (hL : X.1 ≤ 384) (hx : h[0]? = some (.inr (10, fs))) (hI : I m c s h) (ob : Ob X I am_166 am_273 [.int (X.2 (j + 1)), .int (X.2 (j + 2)), .int (X.2 (j + 3))]) (nx : ∀ h c s, I (m + 1) c s h → Rk X am_293 1206 [some (.float 99), some (.ref 0), some (.ref 52), some (.int (nI j))] [] h (LwP c s)) : Rk X am_293 876 [some (.float 99), some (.ref 0), some (.ref 52), some (.int (nI j))] [] h (LwP c s) := by
  refine rk_aload_n rfl rfl ?_
  refine rk_fload_n rfl rfl ?_
  refine rk_iload_n rfl rfl ?_
  refine rk_iconst (v := nI 1) rfl (by decide) ?_
  refine rk_iadd rfl (nI_add _ _) ?_
  refine rk_sald rfl rfl rfl (by omega) (by omega) ?_
  refine rk_fload_n rfl rfl ?_
  refine rk_iload_n rfl rfl ?_
  refine rk_iconst (v := nI 2) rfl (by decide) ?_
  refine rk_iadd rfl (nI_add _ _) ?_
  refine rk_sald rfl rfl rfl (by omega) (by omega) ?_
  refine rk_fload_n rfl rfl ?_
  refine rk_iload_n rfl rfl ?_
  refine rk_iconst (v := nI 3) rfl (by decide) ?_
  refine rk_iadd rfl (nI_add _ _) ?_
  refine rk_sald rfl rfl rfl (by omega) (by omega) ?_
  refine rk_cg3 rfl rfl hx rfl rfl (Nat.le_of_ble_eq_true rfl) (Nat.le_of_ble_eq_true rfl) (ob m c s h hm hI) ?_
  rintro o1 ⟨w, h1, c1, s1, fs1, rfl, hm1, hmt⟩
  show Rk X am_293 893 [some (.float 99), some (.ref 0), some (.ref 52), some (.int (nI j))] [.int w] h1 _
  refine rk_aload_n rfl rfl ?_
  refine rk_fload_n rfl rfl ?_
  refine rk_iload_n rfl rfl ?_
  refine rk_iconst (v := nI 1) rfl (by decide) ?_
  refine rk_iadd rfl (nI_add _ _) ?_
  refine rk_sald rfl rfl rfl (by omega) (by omega) ?_
  refine rk_fload_n rfl rfl ?_
  refine rk_iload_n rfl rfl ?_
  refine rk_iconst (v := nI 2) rfl (by decide) ?_
  refine rk_iadd rfl (nI_add _ _) ?_
  refine rk_sald rfl rfl rfl (by omega) (by omega) ?_
  refine rk_fload_n rfl rfl ?_
  refine rk_iload_n rfl rfl ?_
  refine rk_iconst (v := nI 3) rfl (by decide) ?_
  refine rk_iadd rfl (nI_add _ _) ?_
  refine rk_sald rfl rfl rfl (by omega) (by omega) ?_
  refine rk_cg3 rfl rfl hm1 rfl rfl (Nat.le_of_ble_eq_true rfl) (Nat.le_of_ble_eq_true rfl) hmt ?_
  rintro o2 ⟨h2, rfl, hI2⟩
  show Rk X am_293 910 [some (.float 99), some (.ref 0), some (.ref 52), some (.int (nI j))] [.int w, .int w] h2 _
  refine rk_icmp_eq rfl rfl (fun _ => ?_) (fun hn => absurd rfl hn)
  have := nx h2 _ _ hI2
  rw [← LwP_add] at this
  exact (this.mono (fun o hP => by simpa only [ai_add00] using hP))
set_option maxRecDepth 20000 in
theorem law_35 {X : ai_X} {I : Nat → Nat → Nat → ai_H → Prop} {j m c s : Nat} {h : ai_H} {fs : List Value} (hm : m < 64) (hj : j + 6 ≤ X.1) (hL : X.1 ≤ 384) (hx : h[0]? = some (.inr (10, fs))) (hI : I m c s h) (ob : ObL X I am_168 am_276 [.int (X.2 (j + 1)), .int (X.2 (j + 2)), .int (X.2 (j + 3))]) (nx : ∀ h c s, I (m + 1) c s h → Rk X am_293 1206 [some (.float 99), some (.ref 0), some (.ref 52), some (.int (nI j))] [] h (LwP c s)) : Rk X am_293 913 [some (.float 99), some (.ref 0), some (.ref 52), some (.int (nI j))] [] h (LwP c s) := by
  refine rk_aload_n rfl rfl ?_
  refine rk_fload_n rfl rfl ?_
  refine rk_iload_n rfl rfl ?_
  refine rk_iconst (v := nI 1) rfl (by decide) ?_
  refine rk_iadd rfl (nI_add _ _) ?_
  refine rk_sald rfl rfl rfl (by omega) (by omega) ?_
  refine rk_fload_n rfl rfl ?_
  refine rk_iload_n rfl rfl ?_
  refine rk_iconst (v := nI 2) rfl (by decide) ?_
  refine rk_iadd rfl (nI_add _ _) ?_
  refine rk_sald rfl rfl rfl (by omega) (by omega) ?_
  refine rk_fload_n rfl rfl ?_
  refine rk_iload_n rfl rfl ?_
  refine rk_iconst (v := nI 3) rfl (by decide) ?_
  refine rk_iadd rfl (nI_add _ _) ?_
  refine rk_sald rfl rfl rfl (by omega) (by omega) ?_
  refine rk_cg3 rfl rfl hx rfl rfl (Nat.le_of_ble_eq_true rfl) (Nat.le_of_ble_eq_true rfl) (ob m c s h hm hI) ?_
  rintro o1 ⟨w, h1, c1, s1, fs1, rfl, hm1, hmt⟩
  show Rk X am_293 930 [some (.float 99), some (.ref 0), some (.ref 52), some (.int (nI j))] [.long w] h1 _
  refine rk_aload_n rfl rfl ?_
  refine rk_fload_n rfl rfl ?_
  refine rk_iload_n rfl rfl ?_
  refine rk_iconst (v := nI 1) rfl (by decide) ?_
  refine rk_iadd rfl (nI_add _ _) ?_
  refine rk_sald rfl rfl rfl (by omega) (by omega) ?_
  refine rk_fload_n rfl rfl ?_
  refine rk_iload_n rfl rfl ?_
  refine rk_iconst (v := nI 2) rfl (by decide) ?_
  refine rk_iadd rfl (nI_add _ _) ?_
  refine rk_sald rfl rfl rfl (by omega) (by omega) ?_
  refine rk_fload_n rfl rfl ?_
  refine rk_iload_n rfl rfl ?_
  refine rk_iconst (v := nI 3) rfl (by decide) ?_
  refine rk_iadd rfl (nI_add _ _) ?_
  refine rk_sald rfl rfl rfl (by omega) (by omega) ?_
  refine rk_cg3 rfl rfl hm1 rfl rfl (Nat.le_of_ble_eq_true rfl) (Nat.le_of_ble_eq_true rfl) hmt ?_
  rintro o2 ⟨h2, rfl, hI2⟩
  show Rk X am_293 947 [some (.float 99), some (.ref 0), some (.ref 52), some (.int (nI j))] [.long w, .long w] h2 _
  refine rk_lcmp (v := 0) rfl (by simp [lg_cmp]) ?_
  refine rk_if_eq rfl rfl (fun _ => ?_) (fun hn => absurd rfl hn)
  have := nx h2 _ _ hI2
  rw [← LwP_add] at this
  exact (this.mono (fun o hP => by simpa only [ai_add00] using hP))
set_option maxRecDepth 20000 in
theorem law_36 {X : ai_X} {I : Nat → Nat → Nat → ai_H → Prop} {j m c s : Nat} {h : ai_H} {fs : List Value} (hm : m < 64) (hj : j + 6 ≤ X.1) (hL : X.1 ≤ 384) (hx : h[0]? = some (.inr (10, fs))) (hI : I m c s h) (ob : Ob X I am_169 am_278 [.int (X.2 (j + 1))]) (nx : ∀ h c s, I (m + 1) c s h → Rk X am_293 1206 [some (.float 99), some (.ref 0), some (.ref 52), some (.int (nI j))] [] h (LwP c s)) : Rk X am_293 951 [some (.float 99), some (.ref 0), some (.ref 52), some (.int (nI j))] [] h (LwP c s) := by
  refine rk_aload_n rfl rfl ?_
  refine rk_fload_n rfl rfl ?_
  refine rk_iload_n rfl rfl ?_
  refine rk_iconst (v := nI 1) rfl (by decide) ?_
  refine rk_iadd rfl (nI_add _ _) ?_
  refine rk_sald rfl rfl rfl (by omega) (by omega) ?_
  refine rk_cg1 rfl rfl hx rfl rfl (Nat.le_of_ble_eq_true rfl) (Nat.le_of_ble_eq_true rfl) (ob m c s h hm hI) ?_
  rintro o1 ⟨w, h1, c1, s1, fs1, rfl, hm1, hmt⟩
  show Rk X am_293 958 [some (.float 99), some (.ref 0), some (.ref 52), some (.int (nI j))] [.int w] h1 _
  refine rk_aload_n rfl rfl ?_
  refine rk_fload_n rfl rfl ?_
  refine rk_iload_n rfl rfl ?_
  refine rk_iconst (v := nI 1) rfl (by decide) ?_
  refine rk_iadd rfl (nI_add _ _) ?_
  refine rk_sald rfl rfl rfl (by omega) (by omega) ?_
  refine rk_cg1 rfl rfl hm1 rfl rfl (Nat.le_of_ble_eq_true rfl) (Nat.le_of_ble_eq_true rfl) hmt ?_
  rintro o2 ⟨h2, rfl, hI2⟩
  show Rk X am_293 965 [some (.float 99), some (.ref 0), some (.ref 52), some (.int (nI j))] [.int w, .int w] h2 _
  refine rk_icmp_eq rfl rfl (fun _ => ?_) (fun hn => absurd rfl hn)
  have := nx h2 _ _ hI2
  rw [← LwP_add] at this
  exact (this.mono (fun o hP => by simpa only [ai_add00] using hP))
set_option maxRecDepth 20000 in
theorem law_37 {X : ai_X} {I : Nat → Nat → Nat → ai_H → Prop} {j m c s : Nat} {h : ai_H} {fs : List Value} (hm : m < 64) (hj : j + 6 ≤ X.1) (hL : X.1 ≤ 384) (hx : h[0]? = some (.inr (10, fs))) (hI : I m c s h) (ob : Ob X I am_170 am_279 [.int (X.2 (j + 1))]) (nx : ∀ h c s, I (m + 1) c s h → Rk X am_293 1206 [some (.float 99), some (.ref 0), some (.ref 52), some (.int (nI j))] [] h (LwP c s)) : Rk X am_293 968 [some (.float 99), some (.ref 0), some (.ref 52), some (.int (nI j))] [] h (LwP c s) := by
  refine rk_aload_n rfl rfl ?_
  refine rk_fload_n rfl rfl ?_
  refine rk_iload_n rfl rfl ?_
  refine rk_iconst (v := nI 1) rfl (by decide) ?_
  refine rk_iadd rfl (nI_add _ _) ?_
  refine rk_sald rfl rfl rfl (by omega) (by omega) ?_
  refine rk_cg1 rfl rfl hx rfl rfl (Nat.le_of_ble_eq_true rfl) (Nat.le_of_ble_eq_true rfl) (ob m c s h hm hI) ?_
  rintro o1 ⟨w, h1, c1, s1, fs1, rfl, hm1, hmt⟩
  show Rk X am_293 975 [some (.float 99), some (.ref 0), some (.ref 52), some (.int (nI j))] [.int w] h1 _
  refine rk_aload_n rfl rfl ?_
  refine rk_fload_n rfl rfl ?_
  refine rk_iload_n rfl rfl ?_
  refine rk_iconst (v := nI 1) rfl (by decide) ?_
  refine rk_iadd rfl (nI_add _ _) ?_
  refine rk_sald rfl rfl rfl (by omega) (by omega) ?_
  refine rk_cg1 rfl rfl hm1 rfl rfl (Nat.le_of_ble_eq_true rfl) (Nat.le_of_ble_eq_true rfl) hmt ?_
  rintro o2 ⟨h2, rfl, hI2⟩
  show Rk X am_293 982 [some (.float 99), some (.ref 0), some (.ref 52), some (.int (nI j))] [.int w, .int w] h2 _
  refine rk_icmp_eq rfl rfl (fun _ => ?_) (fun hn => absurd rfl hn)
  have := nx h2 _ _ hI2
  rw [← LwP_add] at this
  exact (this.mono (fun o hP => by simpa only [ai_add00] using hP))
set_option maxRecDepth 20000 in
theorem law_38 {X : ai_X} {I : Nat → Nat → Nat → ai_H → Prop} {j m c s : Nat} {h : ai_H} {fs : List Value} (hm : m < 64) (hj : j + 6 ≤ X.1) (hL : X.1 ≤ 384) (hx : h[0]? = some (.inr (10, fs))) (hI : I m c s h) (ob : Ob X I am_171 am_280 [.int (X.2 (j + 1)), .int (X.2 (j + 2)), .int (X.2 (j + 3))]) (nx : ∀ h c s, I (m + 1) c s h → Rk X am_293 1206 [some (.float 99), some (.ref 0), some (.ref 52), some (.int (nI j))] [] h (LwP c s)) : Rk X am_293 985 [some (.float 99), some (.ref 0), some (.ref 52), some (.int (nI j))] [] h (LwP c s) := by
  refine rk_aload_n rfl rfl ?_
  refine rk_fload_n rfl rfl ?_
  refine rk_iload_n rfl rfl ?_
  refine rk_iconst (v := nI 1) rfl (by decide) ?_
  refine rk_iadd rfl (nI_add _ _) ?_
  refine rk_sald rfl rfl rfl (by omega) (by omega) ?_
  refine rk_fload_n rfl rfl ?_
  refine rk_iload_n rfl rfl ?_
  refine rk_iconst (v := nI 2) rfl (by decide) ?_
  refine rk_iadd rfl (nI_add _ _) ?_
  refine rk_sald rfl rfl rfl (by omega) (by omega) ?_
  refine rk_fload_n rfl rfl ?_
  refine rk_iload_n rfl rfl ?_
  refine rk_iconst (v := nI 3) rfl (by decide) ?_
  refine rk_iadd rfl (nI_add _ _) ?_
  refine rk_sald rfl rfl rfl (by omega) (by omega) ?_
  refine rk_cg3 rfl rfl hx rfl rfl (Nat.le_of_ble_eq_true rfl) (Nat.le_of_ble_eq_true rfl) (ob m c s h hm hI) ?_
  rintro o1 ⟨w, h1, c1, s1, fs1, rfl, hm1, hmt⟩
  show Rk X am_293 1002 [some (.float 99), some (.ref 0), some (.ref 52), some (.int (nI j))] [.int w] h1 _
  refine rk_aload_n rfl rfl ?_
  refine rk_fload_n rfl rfl ?_
  refine rk_iload_n rfl rfl ?_
  refine rk_iconst (v := nI 1) rfl (by decide) ?_
  refine rk_iadd rfl (nI_add _ _) ?_
  refine rk_sald rfl rfl rfl (by omega) (by omega) ?_
  refine rk_fload_n rfl rfl ?_
  refine rk_iload_n rfl rfl ?_
  refine rk_iconst (v := nI 2) rfl (by decide) ?_
  refine rk_iadd rfl (nI_add _ _) ?_
  refine rk_sald rfl rfl rfl (by omega) (by omega) ?_
  refine rk_fload_n rfl rfl ?_
  refine rk_iload_n rfl rfl ?_
  refine rk_iconst (v := nI 3) rfl (by decide) ?_
  refine rk_iadd rfl (nI_add _ _) ?_
  refine rk_sald rfl rfl rfl (by omega) (by omega) ?_
  refine rk_cg3 rfl rfl hm1 rfl rfl (Nat.le_of_ble_eq_true rfl) (Nat.le_of_ble_eq_true rfl) hmt ?_
  rintro o2 ⟨h2, rfl, hI2⟩
  show Rk X am_293 1019 [some (.float 99), some (.ref 0), some (.ref 52), some (.int (nI j))] [.int w, .int w] h2 _
  refine rk_icmp_eq rfl rfl (fun _ => ?_) (fun hn => absurd rfl hn)
  have := nx h2 _ _ hI2
  rw [← LwP_add] at this
  exact (this.mono (fun o hP => by simpa only [ai_add00] using hP))
set_option maxRecDepth 20000 in
theorem law_39 {X : ai_X} {I : Nat → Nat → Nat → ai_H → Prop} {j m c s : Nat} {h : ai_H} {fs : List Value} (hm : m < 64) (hj : j + 6 ≤ X.1) (hL : X.1 ≤ 384) (hx : h[0]? = some (.inr (10, fs))) (hI : I m c s h) (ob : Ob X I am_172 am_281 [.int (X.2 (j + 1))]) (nx : ∀ h c s, I (m + 1) c s h → Rk X am_293 1206 [some (.float 99), some (.ref 0), some (.ref 52), some (.int (nI j))] [] h (LwP c s)) : Rk X am_293 1022 [some (.float 99), some (.ref 0), some (.ref 52), some (.int (nI j))] [] h (LwP c s) := by
  refine rk_aload_n rfl rfl ?_
  refine rk_fload_n rfl rfl ?_
  refine rk_iload_n rfl rfl ?_
  refine rk_iconst (v := nI 1) rfl (by decide) ?_
  refine rk_iadd rfl (nI_add _ _) ?_
  refine rk_sald rfl rfl rfl (by omega) (by omega) ?_
  refine rk_cg1 rfl rfl hx rfl rfl (Nat.le_of_ble_eq_true rfl) (Nat.le_of_ble_eq_true rfl) (ob m c s h hm hI) ?_
  rintro o1 ⟨w, h1, c1, s1, fs1, rfl, hm1, hmt⟩
  show Rk X am_293 1029 [some (.float 99), some (.ref 0), some (.ref 52), some (.int (nI j))] [.int w] h1 _
  refine rk_aload_n rfl rfl ?_
  refine rk_fload_n rfl rfl ?_
  refine rk_iload_n rfl rfl ?_
  refine rk_iconst (v := nI 1) rfl (by decide) ?_
  refine rk_iadd rfl (nI_add _ _) ?_
  refine rk_sald rfl rfl rfl (by omega) (by omega) ?_
  refine rk_cg1 rfl rfl hm1 rfl rfl (Nat.le_of_ble_eq_true rfl) (Nat.le_of_ble_eq_true rfl) hmt ?_
  rintro o2 ⟨h2, rfl, hI2⟩
  show Rk X am_293 1036 [some (.float 99), some (.ref 0), some (.ref 52), some (.int (nI j))] [.int w, .int w] h2 _
  refine rk_icmp_eq rfl rfl (fun _ => ?_) (fun hn => absurd rfl hn)
  have := nx h2 _ _ hI2
  rw [← LwP_add] at this
  exact (this.mono (fun o hP => by simpa only [ai_add00] using hP))
set_option maxRecDepth 20000 in
theorem law_40 {X : ai_X} {I : Nat → Nat → Nat → ai_H → Prop} {j m c s : Nat} {h : ai_H} {fs : List Value} (hm : m < 64) (hj : j + 6 ≤ X.1) (hL : X.1 ≤ 384) (hx : h[0]? = some (.inr (10, fs))) (hI : I m c s h) (ob : Ob X I am_173 am_283 [.int (X.2 (j + 1)), .int (X.2 (j + 2)), .int (X.2 (j + 3))]) (nx : ∀ h c s, I (m + 1) c s h → Rk X am_293 1206 [some (.float 99), some (.ref 0), some (.ref 52), some (.int (nI j))] [] h (LwP c s)) : Rk X am_293 1039 [some (.float 99), some (.ref 0), some (.ref 52), some (.int (nI j))] [] h (LwP c s) := by
  refine rk_aload_n rfl rfl ?_
  refine rk_fload_n rfl rfl ?_
  refine rk_iload_n rfl rfl ?_
  refine rk_iconst (v := nI 1) rfl (by decide) ?_
  refine rk_iadd rfl (nI_add _ _) ?_
  refine rk_sald rfl rfl rfl (by omega) (by omega) ?_
  refine rk_fload_n rfl rfl ?_
  refine rk_iload_n rfl rfl ?_
  refine rk_iconst (v := nI 2) rfl (by decide) ?_
  refine rk_iadd rfl (nI_add _ _) ?_
  refine rk_sald rfl rfl rfl (by omega) (by omega) ?_
  refine rk_fload_n rfl rfl ?_
  refine rk_iload_n rfl rfl ?_
  refine rk_iconst (v := nI 3) rfl (by decide) ?_
  refine rk_iadd rfl (nI_add _ _) ?_
  refine rk_sald rfl rfl rfl (by omega) (by omega) ?_
  refine rk_cg3 rfl rfl hx rfl rfl (Nat.le_of_ble_eq_true rfl) (Nat.le_of_ble_eq_true rfl) (ob m c s h hm hI) ?_
  rintro o1 ⟨w, h1, c1, s1, fs1, rfl, hm1, hmt⟩
  show Rk X am_293 1056 [some (.float 99), some (.ref 0), some (.ref 52), some (.int (nI j))] [.int w] h1 _
  refine rk_aload_n rfl rfl ?_
  refine rk_fload_n rfl rfl ?_
  refine rk_iload_n rfl rfl ?_
  refine rk_iconst (v := nI 1) rfl (by decide) ?_
  refine rk_iadd rfl (nI_add _ _) ?_
  refine rk_sald rfl rfl rfl (by omega) (by omega) ?_
  refine rk_fload_n rfl rfl ?_
  refine rk_iload_n rfl rfl ?_
  refine rk_iconst (v := nI 2) rfl (by decide) ?_
  refine rk_iadd rfl (nI_add _ _) ?_
  refine rk_sald rfl rfl rfl (by omega) (by omega) ?_
  refine rk_fload_n rfl rfl ?_
  refine rk_iload_n rfl rfl ?_
  refine rk_iconst (v := nI 3) rfl (by decide) ?_
  refine rk_iadd rfl (nI_add _ _) ?_
  refine rk_sald rfl rfl rfl (by omega) (by omega) ?_
  refine rk_cg3 rfl rfl hm1 rfl rfl (Nat.le_of_ble_eq_true rfl) (Nat.le_of_ble_eq_true rfl) hmt ?_
  rintro o2 ⟨h2, rfl, hI2⟩
  show Rk X am_293 1073 [some (.float 99), some (.ref 0), some (.ref 52), some (.int (nI j))] [.int w, .int w] h2 _
  refine rk_icmp_eq rfl rfl (fun _ => ?_) (fun hn => absurd rfl hn)
  have := nx h2 _ _ hI2
  rw [← LwP_add] at this
  exact (this.mono (fun o hP => by simpa only [ai_add00] using hP))
set_option maxRecDepth 20000 in
theorem law_41 {X : ai_X} {I : Nat → Nat → Nat → ai_H → Prop} {j m c s : Nat} {h : ai_H} {fs : List Value} (hm : m < 64) (hj : j + 6 ≤ X.1) (hL : X.1 ≤ 384) (hx : h[0]? = some (.inr (10, fs))) (hI : I m c s h) (ob : ObL X I am_174 am_284 [.int (X.2 (j + 1)), .int (X.2 (j + 2)), .long ((X.2 (j + 3)).toInt64 <<< ((nI 32).toInt64 &&& 63) ||| (X.2 (j + 4)).toInt64 &&& 4294967295)]) (nx : ∀ h c s, I (m + 1) c s h → Rk X am_293 1206 [some (.float 99), some (.ref 0), some (.ref 52), some (.int (nI j))] [] h (LwP c s)) : Rk X am_293 1076 [some (.float 99), some (.ref 0), some (.ref 52), some (.int (nI j))] [] h (LwP c s) := by
  refine rk_aload_n rfl rfl ?_
  refine rk_fload_n rfl rfl ?_
  refine rk_iload_n rfl rfl ?_
  refine rk_iconst (v := nI 1) rfl (by decide) ?_
  refine rk_iadd rfl (nI_add _ _) ?_
  refine rk_sald rfl rfl rfl (by omega) (by omega) ?_
  refine rk_fload_n rfl rfl ?_
  refine rk_iload_n rfl rfl ?_
  refine rk_iconst (v := nI 2) rfl (by decide) ?_
  refine rk_iadd rfl (nI_add _ _) ?_
  refine rk_sald rfl rfl rfl (by omega) (by omega) ?_
  refine rk_fload_n rfl rfl ?_
  refine rk_iload_n rfl rfl ?_
  refine rk_iconst (v := nI 3) rfl (by decide) ?_
  refine rk_iadd rfl (nI_add _ _) ?_
  refine rk_sald rfl rfl rfl (by omega) (by omega) ?_
  refine rk_i2l rfl rfl ?_
  refine rk_bipush (v := nI 32) rfl (by decide) ?_
  refine rk_lshl rfl rfl ?_
  refine rk_fload_n rfl rfl ?_
  refine rk_iload_n rfl rfl ?_
  refine rk_iconst (v := nI 4) rfl (by decide) ?_
  refine rk_iadd rfl (nI_add _ _) ?_
  refine rk_sald rfl rfl rfl (by omega) (by omega) ?_
  refine rk_i2l rfl rfl ?_
  refine rk_ldc2 rfl ?_
  refine rk_land rfl rfl ?_
  refine rk_lor rfl rfl ?_
  refine rk_cg3 rfl rfl hx rfl rfl (Nat.le_of_ble_eq_true rfl) (Nat.le_of_ble_eq_true rfl) (ob m c s h hm hI) ?_
  rintro o1 ⟨w, h1, c1, s1, fs1, rfl, hm1, hmt⟩
  show Rk X am_293 1105 [some (.float 99), some (.ref 0), some (.ref 52), some (.int (nI j))] [.long w] h1 _
  refine rk_aload_n rfl rfl ?_
  refine rk_fload_n rfl rfl ?_
  refine rk_iload_n rfl rfl ?_
  refine rk_iconst (v := nI 1) rfl (by decide) ?_
  refine rk_iadd rfl (nI_add _ _) ?_
  refine rk_sald rfl rfl rfl (by omega) (by omega) ?_
  refine rk_fload_n rfl rfl ?_
  refine rk_iload_n rfl rfl ?_
  refine rk_iconst (v := nI 2) rfl (by decide) ?_
  refine rk_iadd rfl (nI_add _ _) ?_
  refine rk_sald rfl rfl rfl (by omega) (by omega) ?_
  refine rk_fload_n rfl rfl ?_
  refine rk_iload_n rfl rfl ?_
  refine rk_iconst (v := nI 3) rfl (by decide) ?_
  refine rk_iadd rfl (nI_add _ _) ?_
  refine rk_sald rfl rfl rfl (by omega) (by omega) ?_
  refine rk_i2l rfl rfl ?_
  refine rk_bipush (v := nI 32) rfl (by decide) ?_
  refine rk_lshl rfl rfl ?_
  refine rk_fload_n rfl rfl ?_
  refine rk_iload_n rfl rfl ?_
  refine rk_iconst (v := nI 4) rfl (by decide) ?_
  refine rk_iadd rfl (nI_add _ _) ?_
  refine rk_sald rfl rfl rfl (by omega) (by omega) ?_
  refine rk_i2l rfl rfl ?_
  refine rk_ldc2 rfl ?_
  refine rk_land rfl rfl ?_
  refine rk_lor rfl rfl ?_
  refine rk_cg3 rfl rfl hm1 rfl rfl (Nat.le_of_ble_eq_true rfl) (Nat.le_of_ble_eq_true rfl) hmt ?_
  rintro o2 ⟨h2, rfl, hI2⟩
  show Rk X am_293 1134 [some (.float 99), some (.ref 0), some (.ref 52), some (.int (nI j))] [.long w, .long w] h2 _
  refine rk_lcmp (v := 0) rfl (by simp [lg_cmp]) ?_
  refine rk_if_eq rfl rfl (fun _ => ?_) (fun hn => absurd rfl hn)
  have := nx h2 _ _ hI2
  rw [← LwP_add] at this
  exact (this.mono (fun o hP => by simpa only [ai_add00] using hP))
set_option maxRecDepth 20000 in
theorem law_42 {X : ai_X} {I : Nat → Nat → Nat → ai_H → Prop} {j m c s : Nat} {h : ai_H} {fs : List Value} (hm : m < 64) (hj : j + 6 ≤ X.1) (hL : X.1 ≤ 384) (hx : h[0]? = some (.inr (10, fs))) (hI : I m c s h) (ob : Ob X I am_175 am_285 [.int (X.2 (j + 1))]) (nx : ∀ h c s, I (m + 1) c s h → Rk X am_293 1206 [some (.float 99), some (.ref 0), some (.ref 52), some (.int (nI j))] [] h (LwP c s)) : Rk X am_293 1138 [some (.float 99), some (.ref 0), some (.ref 52), some (.int (nI j))] [] h (LwP c s) := by
  refine rk_aload_n rfl rfl ?_
  refine rk_fload_n rfl rfl ?_
  refine rk_iload_n rfl rfl ?_
  refine rk_iconst (v := nI 1) rfl (by decide) ?_
  refine rk_iadd rfl (nI_add _ _) ?_
  refine rk_sald rfl rfl rfl (by omega) (by omega) ?_
  refine rk_cg1 rfl rfl hx rfl rfl (Nat.le_of_ble_eq_true rfl) (Nat.le_of_ble_eq_true rfl) (ob m c s h hm hI) ?_
  rintro o1 ⟨w, h1, c1, s1, fs1, rfl, hm1, hmt⟩
  show Rk X am_293 1145 [some (.float 99), some (.ref 0), some (.ref 52), some (.int (nI j))] [.int w] h1 _
  refine rk_aload_n rfl rfl ?_
  refine rk_fload_n rfl rfl ?_
  refine rk_iload_n rfl rfl ?_
  refine rk_iconst (v := nI 1) rfl (by decide) ?_
  refine rk_iadd rfl (nI_add _ _) ?_
  refine rk_sald rfl rfl rfl (by omega) (by omega) ?_
  refine rk_cg1 rfl rfl hm1 rfl rfl (Nat.le_of_ble_eq_true rfl) (Nat.le_of_ble_eq_true rfl) hmt ?_
  rintro o2 ⟨h2, rfl, hI2⟩
  show Rk X am_293 1152 [some (.float 99), some (.ref 0), some (.ref 52), some (.int (nI j))] [.int w, .int w] h2 _
  refine rk_icmp_eq rfl rfl (fun _ => ?_) (fun hn => absurd rfl hn)
  have := nx h2 _ _ hI2
  rw [← LwP_add] at this
  exact (this.mono (fun o hP => by simpa only [ai_add00] using hP))
set_option maxRecDepth 20000 in
theorem law_43 {X : ai_X} {I : Nat → Nat → Nat → ai_H → Prop} {j m c s : Nat} {h : ai_H} {fs : List Value} (hm : m < 64) (hj : j + 6 ≤ X.1) (hL : X.1 ≤ 384) (hx : h[0]? = some (.inr (10, fs))) (hI : I m c s h) (ob : Ob X I am_176 am_286 [.int (X.2 (j + 1))]) (nx : ∀ h c s, I (m + 1) c s h → Rk X am_293 1206 [some (.float 99), some (.ref 0), some (.ref 52), some (.int (nI j))] [] h (LwP c s)) : Rk X am_293 1155 [some (.float 99), some (.ref 0), some (.ref 52), some (.int (nI j))] [] h (LwP c s) := by
  refine rk_aload_n rfl rfl ?_
  refine rk_fload_n rfl rfl ?_
  refine rk_iload_n rfl rfl ?_
  refine rk_iconst (v := nI 1) rfl (by decide) ?_
  refine rk_iadd rfl (nI_add _ _) ?_
  refine rk_sald rfl rfl rfl (by omega) (by omega) ?_
  refine rk_cg1 rfl rfl hx rfl rfl (Nat.le_of_ble_eq_true rfl) (Nat.le_of_ble_eq_true rfl) (ob m c s h hm hI) ?_
  rintro o1 ⟨w, h1, c1, s1, fs1, rfl, hm1, hmt⟩
  show Rk X am_293 1162 [some (.float 99), some (.ref 0), some (.ref 52), some (.int (nI j))] [.int w] h1 _
  refine rk_aload_n rfl rfl ?_
  refine rk_fload_n rfl rfl ?_
  refine rk_iload_n rfl rfl ?_
  refine rk_iconst (v := nI 1) rfl (by decide) ?_
  refine rk_iadd rfl (nI_add _ _) ?_
  refine rk_sald rfl rfl rfl (by omega) (by omega) ?_
  refine rk_cg1 rfl rfl hm1 rfl rfl (Nat.le_of_ble_eq_true rfl) (Nat.le_of_ble_eq_true rfl) hmt ?_
  rintro o2 ⟨h2, rfl, hI2⟩
  show Rk X am_293 1169 [some (.float 99), some (.ref 0), some (.ref 52), some (.int (nI j))] [.int w, .int w] h2 _
  refine rk_icmp_eq rfl rfl (fun _ => ?_) (fun hn => absurd rfl hn)
  have := nx h2 _ _ hI2
  rw [← LwP_add] at this
  exact (this.mono (fun o hP => by simpa only [ai_add00] using hP))
set_option maxRecDepth 20000 in
theorem law_44 {X : ai_X} {I : Nat → Nat → Nat → ai_H → Prop} {j m c s : Nat} {h : ai_H} {fs : List Value} (hm : m < 64) (hj : j + 6 ≤ X.1) (hL : X.1 ≤ 384) (hx : h[0]? = some (.inr (10, fs))) (hI : I m c s h) (ob : Ob X I am_177 am_287 [.int (X.2 (j + 1))]) (nx : ∀ h c s, I (m + 1) c s h → Rk X am_293 1206 [some (.float 99), some (.ref 0), some (.ref 52), some (.int (nI j))] [] h (LwP c s)) : Rk X am_293 1172 [some (.float 99), some (.ref 0), some (.ref 52), some (.int (nI j))] [] h (LwP c s) := by
  refine rk_aload_n rfl rfl ?_
  refine rk_fload_n rfl rfl ?_
  refine rk_iload_n rfl rfl ?_
  refine rk_iconst (v := nI 1) rfl (by decide) ?_
  refine rk_iadd rfl (nI_add _ _) ?_
  refine rk_sald rfl rfl rfl (by omega) (by omega) ?_
  refine rk_cg1 rfl rfl hx rfl rfl (Nat.le_of_ble_eq_true rfl) (Nat.le_of_ble_eq_true rfl) (ob m c s h hm hI) ?_
  rintro o1 ⟨w, h1, c1, s1, fs1, rfl, hm1, hmt⟩
  show Rk X am_293 1179 [some (.float 99), some (.ref 0), some (.ref 52), some (.int (nI j))] [.int w] h1 _
  refine rk_aload_n rfl rfl ?_
  refine rk_fload_n rfl rfl ?_
  refine rk_iload_n rfl rfl ?_
  refine rk_iconst (v := nI 1) rfl (by decide) ?_
  refine rk_iadd rfl (nI_add _ _) ?_
  refine rk_sald rfl rfl rfl (by omega) (by omega) ?_
  refine rk_cg1 rfl rfl hm1 rfl rfl (Nat.le_of_ble_eq_true rfl) (Nat.le_of_ble_eq_true rfl) hmt ?_
  rintro o2 ⟨h2, rfl, hI2⟩
  show Rk X am_293 1186 [some (.float 99), some (.ref 0), some (.ref 52), some (.int (nI j))] [.int w, .int w] h2 _
  refine rk_icmp_eq rfl rfl (fun _ => ?_) (fun hn => absurd rfl hn)
  have := nx h2 _ _ hI2
  rw [← LwP_add] at this
  exact (this.mono (fun o hP => by simpa only [ai_add00] using hP))
set_option maxRecDepth 20000 in
theorem law_45 {X : ai_X} {I : Nat → Nat → Nat → ai_H → Prop} {j m c s : Nat} {h : ai_H} {fs : List Value} (hm : m < 64) (hj : j + 6 ≤ X.1) (hL : X.1 ≤ 384) (hx : h[0]? = some (.inr (10, fs))) (hI : I m c s h) (ob : Ob X I am_178 am_289 [.int (X.2 (j + 1))]) (nx : ∀ h c s, I (m + 1) c s h → Rk X am_293 1206 [some (.float 99), some (.ref 0), some (.ref 52), some (.int (nI j))] [] h (LwP c s)) : Rk X am_293 1189 [some (.float 99), some (.ref 0), some (.ref 52), some (.int (nI j))] [] h (LwP c s) := by
  refine rk_aload_n rfl rfl ?_
  refine rk_fload_n rfl rfl ?_
  refine rk_iload_n rfl rfl ?_
  refine rk_iconst (v := nI 1) rfl (by decide) ?_
  refine rk_iadd rfl (nI_add _ _) ?_
  refine rk_sald rfl rfl rfl (by omega) (by omega) ?_
  refine rk_cg1 rfl rfl hx rfl rfl (Nat.le_of_ble_eq_true rfl) (Nat.le_of_ble_eq_true rfl) (ob m c s h hm hI) ?_
  rintro o1 ⟨w, h1, c1, s1, fs1, rfl, hm1, hmt⟩
  show Rk X am_293 1196 [some (.float 99), some (.ref 0), some (.ref 52), some (.int (nI j))] [.int w] h1 _
  refine rk_aload_n rfl rfl ?_
  refine rk_fload_n rfl rfl ?_
  refine rk_iload_n rfl rfl ?_
  refine rk_iconst (v := nI 1) rfl (by decide) ?_
  refine rk_iadd rfl (nI_add _ _) ?_
  refine rk_sald rfl rfl rfl (by omega) (by omega) ?_
  refine rk_cg1 rfl rfl hm1 rfl rfl (Nat.le_of_ble_eq_true rfl) (Nat.le_of_ble_eq_true rfl) hmt ?_
  rintro o2 ⟨h2, rfl, hI2⟩
  show Rk X am_293 1203 [some (.float 99), some (.ref 0), some (.ref 52), some (.int (nI j))] [.int w, .int w] h2 _
  refine rk_icmp_eq rfl rfl (fun _ => ?_) (fun hn => absurd rfl hn)
  have := nx h2 _ _ hI2
  rw [← LwP_add] at this
  exact (this.mono (fun o hP => by simpa only [ai_add00] using hP))
/-- all the obligations -/
def O0 (X : ai_X) (I : Nat → Nat → Nat → ai_H → Prop) : Prop := ∀ (a0 : Int32) (a1 : Int32) (a2 : Int32) (a3 : Int32) (a4 : Int32), Ob X I am_129 am_183 [.int a0, .int a1, .int a2, .int a3, .int a4]
def O1 (X : ai_X) (I : Nat → Nat → Nat → ai_H → Prop) : Prop := ∀ (a0 : Int32), Ob X I am_131 am_205 [.int a0]
def O2 (X : ai_X) (I : Nat → Nat → Nat → ai_H → Prop) : Prop := ∀ (a0 : Int32), Ob X I am_132 am_206 [.int a0]
def O3 (X : ai_X) (I : Nat → Nat → Nat → ai_H → Prop) : Prop := ∀ (a0 : Int32) (a1 : Int32) (a2 : Int32), Ob X I am_133 am_215 [.int a0, .int a1, .int a2]
def O4 (X : ai_X) (I : Nat → Nat → Nat → ai_H → Prop) : Prop := ∀ (a0 : Int32) (a1 : Int32), Ob X I am_134 am_216 [.int a0, .int a1]
def O5 (X : ai_X) (I : Nat → Nat → Nat → ai_H → Prop) : Prop := ∀ (a0 : Int32), Ob X I am_135 am_217 [.int a0]
def O6 (X : ai_X) (I : Nat → Nat → Nat → ai_H → Prop) : Prop := ∀ (a0 : Int32), Ob X I am_136 am_218 [.int a0]
def O7 (X : ai_X) (I : Nat → Nat → Nat → ai_H → Prop) : Prop := ∀ (a0 : Int32), Ob X I am_137 am_220 [.int a0]
def O8 (X : ai_X) (I : Nat → Nat → Nat → ai_H → Prop) : Prop := ∀ (a0 : Int32) (a1 : Int32) (a2 : Int32), Ob X I am_138 am_224 [.int a0, .int a1, .int a2]
def O9 (X : ai_X) (I : Nat → Nat → Nat → ai_H → Prop) : Prop := ∀ (a0 : Int32) (a1 : Int32), Ob X I am_139 am_226 [.int a0, .int a1]
def O10 (X : ai_X) (I : Nat → Nat → Nat → ai_H → Prop) : Prop := ∀ (a0 : Int32) (a1 : Int32), Ob X I am_140 am_228 [.int a0, .int a1]
def O11 (X : ai_X) (I : Nat → Nat → Nat → ai_H → Prop) : Prop := ∀ (a0 : Int32) (a1 : Int32) (a2 : Int32), Ob X I am_141 am_229 [.int a0, .int a1, .int a2]
def O12 (X : ai_X) (I : Nat → Nat → Nat → ai_H → Prop) : Prop := ∀ (a0 : Int32) (a1 : Int32), Ob X I am_142 am_230 [.int a0, .int a1]
def O13 (X : ai_X) (I : Nat → Nat → Nat → ai_H → Prop) : Prop := ∀ (a0 : Int32) (a1 : Int32), Ob X I am_143 am_238 [.int a0, .int a1]
def O14 (X : ai_X) (I : Nat → Nat → Nat → ai_H → Prop) : Prop := ∀ (a0 : Int32) (a1 : Int32), Ob X I am_144 am_239 [.int a0, .int a1]
def O15 (X : ai_X) (I : Nat → Nat → Nat → ai_H → Prop) : Prop := Ob X I am_146 am_240 []
def O16 (X : ai_X) (I : Nat → Nat → Nat → ai_H → Prop) : Prop := ∀ (a0 : Int32) (a1 : Int32), Ob X I am_147 am_243 [.int a0, .int a1]
def O17 (X : ai_X) (I : Nat → Nat → Nat → ai_H → Prop) : Prop := Ob X I am_148 am_244 []
def O18 (X : ai_X) (I : Nat → Nat → Nat → ai_H → Prop) : Prop := ∀ (a0 : Int32), Ob X I am_149 am_245 [.int a0]
def O19 (X : ai_X) (I : Nat → Nat → Nat → ai_H → Prop) : Prop := ∀ (a0 : Int32), Ob X I am_150 am_246 [.int a0]
def O20 (X : ai_X) (I : Nat → Nat → Nat → ai_H → Prop) : Prop := Ob X I am_151 am_249 []
def O21 (X : ai_X) (I : Nat → Nat → Nat → ai_H → Prop) : Prop := ∀ (a0 : Int32), Ob X I am_152 am_250 [.int a0]
def O22 (X : ai_X) (I : Nat → Nat → Nat → ai_H → Prop) : Prop := ∀ (a0 : Int32) (a1 : Int32), Ob X I am_153 am_251 [.int a0, .int a1]
def O23 (X : ai_X) (I : Nat → Nat → Nat → ai_H → Prop) : Prop := ∀ (a0 : Int32), Ob X I am_154 am_252 [.int a0]
def O24 (X : ai_X) (I : Nat → Nat → Nat → ai_H → Prop) : Prop := ∀ (a0 : Int32) (a1 : Int32) (a2 : Int32), Ob X I am_155 am_257 [.int a0, .int a1, .int (bI (¬ a2 = 0))]
def O25 (X : ai_X) (I : Nat → Nat → Nat → ai_H → Prop) : Prop := ∀ (a0 : Int32) (a1 : Int32), Ob X I am_156 am_258 [.int a0, .int (bI (¬ a1 = 0))]
def O26 (X : ai_X) (I : Nat → Nat → Nat → ai_H → Prop) : Prop := ∀ (a0 : Int32), Ob X I am_157 am_260 [.int a0]
def O27 (X : ai_X) (I : Nat → Nat → Nat → ai_H → Prop) : Prop := ∀ (a0 : Int32) (a1 : Int32), Ob X I am_158 am_262 [.int a0, .int a1]
def O28 (X : ai_X) (I : Nat → Nat → Nat → ai_H → Prop) : Prop := Ob X I am_159 am_263 []
def O29 (X : ai_X) (I : Nat → Nat → Nat → ai_H → Prop) : Prop := ∀ (a0 : Int32) (a1 : Int32), Ob X I am_160 am_264 [.int a0, .int a1]
def O30 (X : ai_X) (I : Nat → Nat → Nat → ai_H → Prop) : Prop := ∀ (a0 : Int32) (a1 : Int32), Ob X I am_161 am_268 [.int a0, .int a1]
def O31 (X : ai_X) (I : Nat → Nat → Nat → ai_H → Prop) : Prop := ∀ (a0 : Int32) (a1 : Int32) (a2 : Int32), Ob X I am_162 am_269 [.int a0, .int a1, .int a2]
def O32 (X : ai_X) (I : Nat → Nat → Nat → ai_H → Prop) : Prop := ∀ (a0 : Int32) (a1 : Int32) (a2 : Int32), Ob X I am_163 am_271 [.int a0, .int a1, .int a2]
def O33 (X : ai_X) (I : Nat → Nat → Nat → ai_H → Prop) : Prop := ∀ (a0 : Int32) (a1 : Int32) (a2 : Int32), Ob X I am_164 am_272 [.int a0, .int a1, .int a2]
def O34 (X : ai_X) (I : Nat → Nat → Nat → ai_H → Prop) : Prop := ∀ (a0 : Int32) (a1 : Int32) (a2 : Int32), Ob X I am_166 am_273 [.int a0, .int a1, .int a2]
def O35 (X : ai_X) (I : Nat → Nat → Nat → ai_H → Prop) : Prop := ∀ (a0 : Int32) (a1 : Int32) (a2 : Int32), ObL X I am_168 am_276 [.int a0, .int a1, .int a2]
def O36 (X : ai_X) (I : Nat → Nat → Nat → ai_H → Prop) : Prop := ∀ (a0 : Int32), Ob X I am_169 am_278 [.int a0]
def O37 (X : ai_X) (I : Nat → Nat → Nat → ai_H → Prop) : Prop := ∀ (a0 : Int32), Ob X I am_170 am_279 [.int a0]
def O38 (X : ai_X) (I : Nat → Nat → Nat → ai_H → Prop) : Prop := ∀ (a0 : Int32) (a1 : Int32) (a2 : Int32), Ob X I am_171 am_280 [.int a0, .int a1, .int a2]
def O39 (X : ai_X) (I : Nat → Nat → Nat → ai_H → Prop) : Prop := ∀ (a0 : Int32), Ob X I am_172 am_281 [.int a0]
def O40 (X : ai_X) (I : Nat → Nat → Nat → ai_H → Prop) : Prop := ∀ (a0 : Int32) (a1 : Int32) (a2 : Int32), Ob X I am_173 am_283 [.int a0, .int a1, .int a2]
def O41 (X : ai_X) (I : Nat → Nat → Nat → ai_H → Prop) : Prop := ∀ (a0 : Int32) (a1 : Int32) (a2 : Int64), ObL X I am_174 am_284 [.int a0, .int a1, .long a2]
def O42 (X : ai_X) (I : Nat → Nat → Nat → ai_H → Prop) : Prop := ∀ (a0 : Int32), Ob X I am_175 am_285 [.int a0]
def O43 (X : ai_X) (I : Nat → Nat → Nat → ai_H → Prop) : Prop := ∀ (a0 : Int32), Ob X I am_176 am_286 [.int a0]
def O44 (X : ai_X) (I : Nat → Nat → Nat → ai_H → Prop) : Prop := ∀ (a0 : Int32), Ob X I am_177 am_287 [.int a0]
def O45 (X : ai_X) (I : Nat → Nat → Nat → ai_H → Prop) : Prop := ∀ (a0 : Int32), Ob X I am_178 am_289 [.int a0]
def Obs (X : ai_X) (I : Nat → Nat → Nat → ai_H → Prop) : Prop := O0 X I ∧ O1 X I ∧ O2 X I ∧ O3 X I ∧ O4 X I ∧ O5 X I ∧ O6 X I ∧ O7 X I ∧ O8 X I ∧ O9 X I ∧ O10 X I ∧ O11 X I ∧ O12 X I ∧ O13 X I ∧ O14 X I ∧ O15 X I ∧ O16 X I ∧ O17 X I ∧ O18 X I ∧ O19 X I ∧ O20 X I ∧ O21 X I ∧ O22 X I ∧ O23 X I ∧ O24 X I ∧ O25 X I ∧ O26 X I ∧ O27 X I ∧ O28 X I ∧ O29 X I ∧ O30 X I ∧ O31 X I ∧ O32 X I ∧ O33 X I ∧ O34 X I ∧ O35 X I ∧ O36 X I ∧ O37 X I ∧ O38 X I ∧ O39 X I ∧ O40 X I ∧ O41 X I ∧ O42 X I ∧ O43 X I ∧ O44 X I ∧ O45 X I
theorem law_cmp {L j : Nat} (hL : L ≤ 384) (hj : j ≤ 400) : nI L - nI 6 < nI j ↔ L < j + 6 := by
  rw [Int32.lt_iff_toInt_lt, pk_sub_toInt (by omega) (by omega), nI_toInt (by omega)]
  omega
set_option maxRecDepth 20000 in
set_option maxHeartbeats 4000000 in
theorem law_loop {X : ai_X} {I : Nat → Nat → Nat → ai_H → Prop} (hL : X.1 ≤ 384) (hI0 : ∀ m c s h, I m c s h → (∃ fs, h[0]? = some (.inr (10, fs))) ∧ c ≤ 600000 ∧ s ≤ 7302249) (hI1 : ∀ m c s h, I m c s h → I (m + 1) c s h) (ob : Obs X I) : ∀ (d j m c s : Nat) (h : ai_H), X.1 < j + d → j ≤ X.1 + 6 → j = 6 * m → I m c s h → Rk X am_293 10 [some (.float 99), some (.ref 0), some (.ref 52), some (.int (nI j))] [] h (LwP c s) := by
  obtain ⟨o0, o1, o2, o3, o4, o5, o6, o7, o8, o9, o10, o11, o12, o13, o14, o15, o16, o17, o18, o19, o20, o21, o22, o23, o24, o25, o26, o27, o28, o29, o30, o31, o32, o33, o34, o35, o36, o37, o38, o39, o40, o41, o42, o43, o44, o45⟩ := ob
  intro d
  induction d with
  | zero =>
    intro j m c s h hd hj hjm hI
    refine rk_iload_n rfl rfl ?_
    refine rk_fload_n rfl rfl ?_
    refine rk_slen rfl rfl ?_
    refine rk_bipush (v := nI 6) rfl (by decide) ?_
    refine rk_isub rfl rfl ?_
    refine rk_icmp_gt rfl rfl (fun hc => ?_) (fun hc => absurd ((law_cmp hL (by omega)).mpr (by omega)) hc)
    refine rk_iconst (v := 1) rfl (by decide) ?_
    exact rk_ireturn rfl rfl ⟨rfl, (hI0 m c s h hI).2.1, (hI0 m c s h hI).2.2⟩
  | succ d ih =>
    intro j m c s h hd hj hjm hI
    refine rk_iload_n rfl rfl ?_
    refine rk_fload_n rfl rfl ?_
    refine rk_slen rfl rfl ?_
    refine rk_bipush (v := nI 6) rfl (by decide) ?_
    refine rk_isub rfl rfl ?_
    refine rk_icmp_gt rfl rfl (fun hc => ?_) (fun hc => ?_)
    · refine rk_iconst (v := 1) rfl (by decide) ?_
      exact rk_ireturn rfl rfl ⟨rfl, (hI0 m c s h hI).2.1, (hI0 m c s h hI).2.2⟩
    · have hj6 : j + 6 ≤ X.1 := by
        have := mt (law_cmp hL (by omega)).mpr hc
        omega
      refine rk_fload_n rfl rfl ?_
      refine rk_iload_n rfl rfl ?_
      refine rk_sald rfl rfl rfl (by omega) (by omega) ?_
      refine rk_bipush (v := 63) rfl (by decide) ?_
      obtain ⟨t, ht, he⟩ := pk_andE (X.2 j) (m := 63) 6 (by decide)
      refine rk_iand rfl he ?_
      have hm64 : m < 64 := by omega
      have nx : ∀ h c s, I (m + 1) c s h → Rk X am_293 1206 [some (.float 99), some (.ref 0), some (.ref 52), some (.int (nI j))] [] h (LwP c s) := by
        intro h c s hI
        refine rk_iinc rfl rfl (nI_add j 6) rfl ?_
        refine rk_goto rfl rfl ?_
        exact ih (j + 6) (m + 1) c s h (by omega) (by omega) (by omega) hI
      obtain ⟨⟨fs, hx⟩, -⟩ := hI0 m c s h hI
      by_cases h46 : t < 46
      · match t, h46 with
        | 0, _ => exact rk_sw_in (off := 199) (j := 22) rfl (by decide) rfl (ai_dw law_inc rfl) rfl (law_0 hm64 hj6 hL hx hI (o0 _ _ _ _ _) nx)
        | 1, _ => exact rk_sw_in (off := 262) (j := 79) rfl (by decide) rfl (ai_dw law_inc rfl) rfl (law_1 hm64 hj6 hL hx hI (o1 _) nx)
        | 2, _ => exact rk_sw_in (off := 285) (j := 96) rfl (by decide) rfl (ai_dw law_inc rfl) rfl (law_2 hm64 hj6 hL hx hI (o2 _) nx)
        | 3, _ => exact rk_sw_in (off := 308) (j := 113) rfl (by decide) rfl (ai_dw law_inc rfl) rfl (law_3 hm64 hj6 hL hx hI (o3 _ _ _) nx)
        | 4, _ => exact rk_sw_in (off := 351) (j := 150) rfl (by decide) rfl (ai_dw law_inc rfl) rfl (law_4 hm64 hj6 hL hx hI (o4 _ _) nx)
        | 5, _ => exact rk_sw_in (off := 384) (j := 177) rfl (by decide) rfl (ai_dw law_inc rfl) rfl (law_5 hm64 hj6 hL hx hI (o5 _) nx)
        | 6, _ => exact rk_sw_in (off := 407) (j := 194) rfl (by decide) rfl (ai_dw law_inc rfl) rfl (law_6 hm64 hj6 hL hx hI (o6 _) nx)
        | 7, _ => exact rk_sw_in (off := 430) (j := 211) rfl (by decide) rfl (ai_dw law_inc rfl) rfl (law_7 hm64 hj6 hL hx hI (o7 _) nx)
        | 8, _ => exact rk_sw_in (off := 453) (j := 228) rfl (by decide) rfl (ai_dw law_inc rfl) rfl (law_8 hm64 hj6 hL hx hI (o8 _ _ _) nx)
        | 9, _ => exact rk_sw_in (off := 496) (j := 265) rfl (by decide) rfl (ai_dw law_inc rfl) rfl (law_9 hm64 hj6 hL hx hI (o9 _ _) nx)
        | 10, _ => exact rk_sw_in (off := 529) (j := 292) rfl (by decide) rfl (ai_dw law_inc rfl) rfl (law_10 hm64 hj6 hL hx hI (o10 _ _) nx)
        | 11, _ => exact rk_sw_in (off := 562) (j := 319) rfl (by decide) rfl (ai_dw law_inc rfl) rfl (law_11 hm64 hj6 hL hx hI (o11 _ _ _) nx)
        | 12, _ => exact rk_sw_in (off := 605) (j := 356) rfl (by decide) rfl (ai_dw law_inc rfl) rfl (law_12 hm64 hj6 hL hx hI (o12 _ _) nx)
        | 13, _ => exact rk_sw_in (off := 638) (j := 383) rfl (by decide) rfl (ai_dw law_inc rfl) rfl (law_13 hm64 hj6 hL hx hI (o13 _ _) nx)
        | 14, _ => exact rk_sw_in (off := 671) (j := 410) rfl (by decide) rfl (ai_dw law_inc rfl) rfl (law_14 hm64 hj6 hL hx hI (o14 _ _) nx)
        | 15, _ => exact rk_sw_in (off := 704) (j := 437) rfl (by decide) rfl (ai_dw law_inc rfl) rfl (law_15 hm64 hj6 hL hx hI (o15) nx)
        | 16, _ => exact rk_sw_in (off := 717) (j := 444) rfl (by decide) rfl (ai_dw law_inc rfl) rfl (law_16 hm64 hj6 hL hx hI (o16 _ _) nx)
        | 17, _ => exact rk_sw_in (off := 750) (j := 471) rfl (by decide) rfl (ai_dw law_inc rfl) rfl (law_17 hm64 hj6 hL hx hI (o17) nx)
        | 18, _ => exact rk_sw_in (off := 763) (j := 478) rfl (by decide) rfl (ai_dw law_inc rfl) rfl (law_18 hm64 hj6 hL hx hI (o18 _) nx)
        | 19, _ => exact rk_sw_in (off := 786) (j := 495) rfl (by decide) rfl (ai_dw law_inc rfl) rfl (law_19 hm64 hj6 hL hx hI (o19 _) nx)
        | 20, _ => exact rk_sw_in (off := 809) (j := 512) rfl (by decide) rfl (ai_dw law_inc rfl) rfl (law_20 hm64 hj6 hL hx hI (o20) nx)
        | 21, _ => exact rk_sw_in (off := 822) (j := 519) rfl (by decide) rfl (ai_dw law_inc rfl) rfl (law_21 hm64 hj6 hL hx hI (o21 _) nx)
        | 22, _ => exact rk_sw_in (off := 845) (j := 536) rfl (by decide) rfl (ai_dw law_inc rfl) rfl (law_22 hm64 hj6 hL hx hI (o22 _ _) nx)
        | 23, _ => exact rk_sw_in (off := 878) (j := 563) rfl (by decide) rfl (ai_dw law_inc rfl) rfl (law_23 hm64 hj6 hL hx hI (o23 _) nx)
        | 24, _ => exact rk_sw_in (off := 901) (j := 580) rfl (by decide) rfl (ai_dw law_inc rfl) rfl (law_24 hm64 hj6 hL hx hI (o24 _ _ _) nx)
        | 25, _ => exact rk_sw_in (off := 960) (j := 625) rfl (by decide) rfl (ai_dw law_inc rfl) rfl (law_25 hm64 hj6 hL hx hI (o25 _ _) nx)
        | 26, _ => exact rk_sw_in (off := 1009) (j := 660) rfl (by decide) rfl (ai_dw law_inc rfl) rfl (law_26 hm64 hj6 hL hx hI (o26 _) nx)
        | 27, _ => exact rk_sw_in (off := 1032) (j := 677) rfl (by decide) rfl (ai_dw law_inc rfl) rfl (law_27 hm64 hj6 hL hx hI (o27 _ _) nx)
        | 28, _ => exact rk_sw_in (off := 1065) (j := 704) rfl (by decide) rfl (ai_dw law_inc rfl) rfl (law_28 hm64 hj6 hL hx hI (o28) nx)
        | 29, _ => exact rk_sw_in (off := 1078) (j := 711) rfl (by decide) rfl (ai_dw law_inc rfl) rfl (law_29 hm64 hj6 hL hx hI (o29 _ _) nx)
        | 30, _ => exact rk_sw_in (off := 1111) (j := 738) rfl (by decide) rfl (ai_dw law_inc rfl) rfl (law_30 hm64 hj6 hL hx hI (o30 _ _) nx)
        | 31, _ => exact rk_sw_in (off := 1144) (j := 765) rfl (by decide) rfl (ai_dw law_inc rfl) rfl (law_31 hm64 hj6 hL hx hI (o31 _ _ _) nx)
        | 32, _ => exact rk_sw_in (off := 1187) (j := 802) rfl (by decide) rfl (ai_dw law_inc rfl) rfl (law_32 hm64 hj6 hL hx hI (o32 _ _ _) nx)
        | 33, _ => exact rk_sw_in (off := 1230) (j := 839) rfl (by decide) rfl (ai_dw law_inc rfl) rfl (law_33 hm64 hj6 hL hx hI (o33 _ _ _) nx)
        | 34, _ => exact rk_sw_in (off := 1273) (j := 876) rfl (by decide) rfl (ai_dw law_inc rfl) rfl (law_34 hm64 hj6 hL hx hI (o34 _ _ _) nx)
        | 35, _ => exact rk_sw_in (off := 1316) (j := 913) rfl (by decide) rfl (ai_dw law_inc rfl) rfl (law_35 hm64 hj6 hL hx hI (o35 _ _ _) nx)
        | 36, _ => exact rk_sw_in (off := 1360) (j := 951) rfl (by decide) rfl (ai_dw law_inc rfl) rfl (law_36 hm64 hj6 hL hx hI (o36 _) nx)
        | 37, _ => exact rk_sw_in (off := 1383) (j := 968) rfl (by decide) rfl (ai_dw law_inc rfl) rfl (law_37 hm64 hj6 hL hx hI (o37 _) nx)
        | 38, _ => exact rk_sw_in (off := 1406) (j := 985) rfl (by decide) rfl (ai_dw law_inc rfl) rfl (law_38 hm64 hj6 hL hx hI (o38 _ _ _) nx)
        | 39, _ => exact rk_sw_in (off := 1449) (j := 1022) rfl (by decide) rfl (ai_dw law_inc rfl) rfl (law_39 hm64 hj6 hL hx hI (o39 _) nx)
        | 40, _ => exact rk_sw_in (off := 1472) (j := 1039) rfl (by decide) rfl (ai_dw law_inc rfl) rfl (law_40 hm64 hj6 hL hx hI (o40 _ _ _) nx)
        | 41, _ => exact rk_sw_in (off := 1515) (j := 1076) rfl (by decide) rfl (ai_dw law_inc rfl) rfl (law_41 hm64 hj6 hL hx hI (o41 _ _ _) nx)
        | 42, _ => exact rk_sw_in (off := 1589) (j := 1138) rfl (by decide) rfl (ai_dw law_inc rfl) rfl (law_42 hm64 hj6 hL hx hI (o42 _) nx)
        | 43, _ => exact rk_sw_in (off := 1612) (j := 1155) rfl (by decide) rfl (ai_dw law_inc rfl) rfl (law_43 hm64 hj6 hL hx hI (o43 _) nx)
        | 44, _ => exact rk_sw_in (off := 1635) (j := 1172) rfl (by decide) rfl (ai_dw law_inc rfl) rfl (law_44 hm64 hj6 hL hx hI (o44 _) nx)
        | 45, _ => exact rk_sw_in (off := 1658) (j := 1189) rfl (by decide) rfl (ai_dw law_inc rfl) rfl (law_45 hm64 hj6 hL hx hI (o45 _) nx)
        | n + 46, z => exact absurd z (by omega)
      · exact rk_sw_out (j := 1206) rfl (Or.inr (by rw [nI_toInt (by omega)]; omega)) (ai_dw law_inc rfl) rfl (nx h c s (hI1 m c s h hI))
theorem law_start {X : ai_X} {fs : List Value} {k b pc len p q i c0 ad : Nat} {v0 : Value} {M1 : ai_M} {h h1 : ai_H} {ls : ai_L} {st : List Value} {c s c1 s1 : Nat} (hr : (ai_mR am_293)[k]? = some (pc, .invokespecial i, len, v0, 2, b, p, q)) (hM : ai_mt[b]? = some M1) (hh : h[ad]? = some (.inr (c0, fs))) (hc : c0 = ai_mC M1) (hn : 0 = ai_mN M1) (hfl : (ai_fl [.ref ad]).length ≤ ai_mL M1) (hs : ai_sum st ≤ 8) (hm : Mt X M1 [.ref ad] h (fun o => o = (none, h1, c1, s1))) (z : Rk X am_293 (k + 1) ls st h1 (LwP (c + c1) (s + s1))) : Rk X am_293 k ls (.ref ad :: st) h (LwP c s) := by
  refine rk_call hr rfl (Nat.le_of_ble_eq_true rfl) hM (rk_arg (as := []) (by show (2 : Nat) ≠ 1; decide) hh hc hn) hfl hs hm ?_
  rintro o1 rfl
  rw [LwP_add]
  exact z
/-- the claim out of the obligations -/
theorem ai_good_of (I : ai_X → Nat → Nat → Nat → ai_H → Prop) (hi : ∀ X, I X 0 80 325714 (hpA ++ hpB)) (hI0 : ∀ X m c s h, I X m c s h → (∃ fs, h[0]? = some (.inr (10, fs))) ∧ c ≤ 600000 ∧ s ≤ 7302249) (hI1 : ∀ X m c s h, I X m c s h → I X (m + 1) c s h) (ob : ∀ X : ai_X, X.1 ≤ 384 → Obs X (I X)) : ai_good 384 := by
  intro L xs hL
  have K : Rk (L, xs) am_293 0 (ai_loc 4 [.float 99]) [] [] (LwP 0 0) := by
    refine rk_new rfl rfl ?_
    rw [LwP_add]
    refine rk_dup_a rfl ?_
    refine law_start rfl rfl rfl rfl rfl (Nat.le_of_ble_eq_true rfl) (Nat.le_of_ble_eq_true rfl) ⟨300, _, hp_cls _, rfl⟩ ?_
    refine rk_astore_n rfl (Nat.le_of_ble_eq_true rfl) rfl ?_
    refine rk_new rfl rfl ?_
    rw [LwP_add]
    refine rk_dup_a rfl ?_
    refine law_start rfl rfl rfl rfl rfl (Nat.le_of_ble_eq_true rfl) (Nat.le_of_ble_eq_true rfl) ⟨300, _, hp_mdl _, rfl⟩ ?_
    refine rk_astore_n rfl (Nat.le_of_ble_eq_true rfl) rfl ?_
    refine rk_iconst (v := nI 0) rfl (by decide) ?_
    refine rk_istore_n rfl (Nat.le_of_ble_eq_true rfl) rfl ?_
    exact law_loop (X := (L, xs)) hL (hI0 (L, xs)) (hI1 (L, xs)) (ob (L, xs) hL) (L + 1) 0 0 80 325714 _ (by show L < 0 + (L + 1); omega) (by omega) rfl (hi (L, xs))
  obtain ⟨n, o, hn, h1, h2, h3⟩ := K
  exact ⟨n, o, hn, h1, by omega, by omega⟩
