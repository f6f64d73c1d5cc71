/-! PURE RULES: calls by the number of their arguments; a heap that was written; whole numbers -/
section AICALLS
variable {X : ai_X} {M : ai_M} {k : Nat} {ls : ai_L} {st t : List Value} {h : ai_H} {P : ai_O → Prop}
/-- behind a write: what is known of the new heap -/
theorem hp_gen {ad : Nat} {c0 C : ai_C} (f : h[ad]? = some c0) (z : ∀ h1 : ai_H, h1[ad]? = some C → (∀ q : Nat, q ≠ ad → h1[q]? = h[q]?) → h1.length = h.length → Rk X M k ls st h1 P) : Rk X M k ls st (h.set ad C) P :=
  z _ (by rw [List.getElem?_set_self (List.getElem?_eq_some_iff.mp f).1]) (fun q hq => by rw [List.getElem?_set_ne (Ne.symm hq)]) (by rw [List.length_set])
theorem ad00 {k : Nat} {ls : ai_L} {st : List Value} {h : ai_H} (z : Rk X M k ls st h P) : Rk X M k ls st h (fun o => P (ai_add 0 0 o)) := z.mono (fun o hP => by rw [ai_add00]; exact hP)
theorem rk_cv0i {F : Int32 → ai_H → Prop} {pc len b p q i ad c : Nat} {v0 : Value} {M1 : ai_M} {fs : List Value} (hr : (ai_mR M)[k]? = some (pc, .invokevirtual i, len, v0, 0, b, p, q)) (hM : ai_mt[b]? = some M1) (hh : h[ad]? = some (.inr (c, fs))) (hc : c = ai_mC M1) (hn : 0 = ai_mN M1) (hfl : (ai_fl [.ref ad]).length ≤ ai_mL M1) (hs : ai_sum t ≤ 8) (hm : Mt X M1 [.ref ad] h (Qi F)) (z : ∀ w h1, F w h1 → Rk X M (k + 1) ls (.int w :: t) h1 P) : Rk X M k ls (.ref ad :: t) h P := by
  refine rk_call hr rfl (Nat.le_of_ble_eq_true rfl) hM (rk_arg (as := []) (by show (0 : Nat) ≠ 1; decide) hh hc hn) hfl hs hm ?_
  rintro o1 ⟨w, h1, rfl, hF⟩
  exact ad00 (z w h1 hF)
theorem rk_cv0l {F : Int64 → ai_H → Prop} {pc len b p q i ad c : Nat} {v0 : Value} {M1 : ai_M} {fs : List Value} (hr : (ai_mR M)[k]? = some (pc, .invokevirtual i, len, v0, 0, b, p, q)) (hM : ai_mt[b]? = some M1) (hh : h[ad]? = some (.inr (c, fs))) (hc : c = ai_mC M1) (hn : 0 = ai_mN M1) (hfl : (ai_fl [.ref ad]).length ≤ ai_mL M1) (hs : ai_sum t ≤ 8) (hm : Mt X M1 [.ref ad] h (Ql F)) (z : ∀ w h1, F w h1 → Rk X M (k + 1) ls (.long w :: t) h1 P) : Rk X M k ls (.ref ad :: t) h P := by
  refine rk_call hr rfl (Nat.le_of_ble_eq_true rfl) hM (rk_arg (as := []) (by show (0 : Nat) ≠ 1; decide) hh hc hn) hfl hs hm ?_
  rintro o1 ⟨w, h1, rfl, hF⟩
  exact ad00 (z w h1 hF)
theorem rk_cv0v {F : ai_H → Prop} {pc len b p q i ad c : Nat} {v0 : Value} {M1 : ai_M} {fs : List Value} (hr : (ai_mR M)[k]? = some (pc, .invokevirtual i, len, v0, 0, b, p, q)) (hM : ai_mt[b]? = some M1) (hh : h[ad]? = some (.inr (c, fs))) (hc : c = ai_mC M1) (hn : 0 = ai_mN M1) (hfl : (ai_fl [.ref ad]).length ≤ ai_mL M1) (hs : ai_sum t ≤ 8) (hm : Mt X M1 [.ref ad] h (Qv F)) (z : ∀ h1, F h1 → Rk X M (k + 1) ls t h1 P) : Rk X M k ls (.ref ad :: t) h P := by
  refine rk_call hr rfl (Nat.le_of_ble_eq_true rfl) hM (rk_arg (as := []) (by show (0 : Nat) ≠ 1; decide) hh hc hn) hfl hs hm ?_
  rintro o1 ⟨h1, rfl, hF⟩
  exact ad00 (z h1 hF)
theorem rk_cv0e {v : Int32} {pc len b p q i ad c : Nat} {v0 : Value} {M1 : ai_M} {fs : List Value} (hr : (ai_mR M)[k]? = some (pc, .invokevirtual i, len, v0, 0, b, p, q)) (hM : ai_mt[b]? = some M1) (hh : h[ad]? = some (.inr (c, fs))) (hc : c = ai_mC M1) (hn : 0 = ai_mN M1) (hfl : (ai_fl [.ref ad]).length ≤ ai_mL M1) (hs : ai_sum t ≤ 8) (hm : Mt X M1 [.ref ad] h (Qe v h)) (z : Rk X M (k + 1) ls (.int v :: t) h P) : Rk X M k ls (.ref ad :: t) h P :=
  rk_cv0i hr hM hh hc hn hfl hs hm (fun w h1 hF => by obtain ⟨rfl, rfl⟩ := hF; exact z)
theorem rk_cv1i {F : Int32 → ai_H → Prop} {pc len b p q i ad c : Nat} {v0 : Value} {M1 : ai_M} {x0 : Value} {fs : List Value} (hr : (ai_mR M)[k]? = some (pc, .invokevirtual i, len, v0, 0, b, p, q)) (hM : ai_mt[b]? = some M1) (hh : h[ad]? = some (.inr (c, fs))) (hc : c = ai_mC M1) (hn : 1 = ai_mN M1) (hfl : (ai_fl [.ref ad, x0]).length ≤ ai_mL M1) (hs : ai_sum t ≤ 8) (hm : Mt X M1 [.ref ad, x0] h (Qi F)) (z : ∀ w h1, F w h1 → Rk X M (k + 1) ls (.int w :: t) h1 P) : Rk X M k ls (x0 :: .ref ad :: t) h P := by
  refine rk_call hr rfl (Nat.le_of_ble_eq_true rfl) hM (rk_arg (as := [x0]) (by show (0 : Nat) ≠ 1; decide) hh hc hn) hfl hs hm ?_
  rintro o1 ⟨w, h1, rfl, hF⟩
  exact ad00 (z w h1 hF)
theorem rk_cv1l {F : Int64 → ai_H → Prop} {pc len b p q i ad c : Nat} {v0 : Value} {M1 : ai_M} {x0 : Value} {fs : List Value} (hr : (ai_mR M)[k]? = some (pc, .invokevirtual i, len, v0, 0, b, p, q)) (hM : ai_mt[b]? = some M1) (hh : h[ad]? = some (.inr (c, fs))) (hc : c = ai_mC M1) (hn : 1 = ai_mN M1) (hfl : (ai_fl [.ref ad, x0]).length ≤ ai_mL M1) (hs : ai_sum t ≤ 8) (hm : Mt X M1 [.ref ad, x0] h (Ql F)) (z : ∀ w h1, F w h1 → Rk X M (k + 1) ls (.long w :: t) h1 P) : Rk X M k ls (x0 :: .ref ad :: t) h P := by
  refine rk_call hr rfl (Nat.le_of_ble_eq_true rfl) hM (rk_arg (as := [x0]) (by show (0 : Nat) ≠ 1; decide) hh hc hn) hfl hs hm ?_
  rintro o1 ⟨w, h1, rfl, hF⟩
  exact ad00 (z w h1 hF)
theorem rk_cv1v {F : ai_H → Prop} {pc len b p q i ad c : Nat} {v0 : Value} {M1 : ai_M} {x0 : Value} {fs : List Value} (hr : (ai_mR M)[k]? = some (pc, .invokevirtual i, len, v0, 0, b, p, q)) (hM : ai_mt[b]? = some M1) (hh : h[ad]? = some (.inr (c, fs))) (hc : c = ai_mC M1) (hn : 1 = ai_mN M1) (hfl : (ai_fl [.ref ad, x0]).length ≤ ai_mL M1) (hs : ai_sum t ≤ 8) (hm : Mt X M1 [.ref ad, x0] h (Qv F)) (z : ∀ h1, F h1 → Rk X M (k + 1) ls t h1 P) : Rk X M k ls (x0 :: .ref ad :: t) h P := by
  refine rk_call hr rfl (Nat.le_of_ble_eq_true rfl) hM (rk_arg (as := [x0]) (by show (0 : Nat) ≠ 1; decide) hh hc hn) hfl hs hm ?_
  rintro o1 ⟨h1, rfl, hF⟩
  exact ad00 (z h1 hF)
theorem rk_cv1e {v : Int32} {pc len b p q i ad c : Nat} {v0 : Value} {M1 : ai_M} {x0 : Value} {fs : List Value} (hr : (ai_mR M)[k]? = some (pc, .invokevirtual i, len, v0, 0, b, p, q)) (hM : ai_mt[b]? = some M1) (hh : h[ad]? = some (.inr (c, fs))) (hc : c = ai_mC M1) (hn : 1 = ai_mN M1) (hfl : (ai_fl [.ref ad, x0]).length ≤ ai_mL M1) (hs : ai_sum t ≤ 8) (hm : Mt X M1 [.ref ad, x0] h (Qe v h)) (z : Rk X M (k + 1) ls (.int v :: t) h P) : Rk X M k ls (x0 :: .ref ad :: t) h P :=
  rk_cv1i hr hM hh hc hn hfl hs hm (fun w h1 hF => by obtain ⟨rfl, rfl⟩ := hF; exact z)
theorem rk_cv2i {F : Int32 → ai_H → Prop} {pc len b p q i ad c : Nat} {v0 : Value} {M1 : ai_M} {x0 x1 : Value} {fs : List Value} (hr : (ai_mR M)[k]? = some (pc, .invokevirtual i, len, v0, 0, b, p, q)) (hM : ai_mt[b]? = some M1) (hh : h[ad]? = some (.inr (c, fs))) (hc : c = ai_mC M1) (hn : 2 = ai_mN M1) (hfl : (ai_fl [.ref ad, x0, x1]).length ≤ ai_mL M1) (hs : ai_sum t ≤ 8) (hm : Mt X M1 [.ref ad, x0, x1] h (Qi F)) (z : ∀ w h1, F w h1 → Rk X M (k + 1) ls (.int w :: t) h1 P) : Rk X M k ls (x1 :: x0 :: .ref ad :: t) h P := by
  refine rk_call hr rfl (Nat.le_of_ble_eq_true rfl) hM (rk_arg (as := [x0, x1]) (by show (0 : Nat) ≠ 1; decide) hh hc hn) hfl hs hm ?_
  rintro o1 ⟨w, h1, rfl, hF⟩
  exact ad00 (z w h1 hF)
theorem rk_cv2l {F : Int64 → ai_H → Prop} {pc len b p q i ad c : Nat} {v0 : Value} {M1 : ai_M} {x0 x1 : Value} {fs : List Value} (hr : (ai_mR M)[k]? = some (pc, .invokevirtual i, len, v0, 0, b, p, q)) (hM : ai_mt[b]? = some M1) (hh : h[ad]? = some (.inr (c, fs))) (hc : c = ai_mC M1) (hn : 2 = ai_mN M1) (hfl : (ai_fl [.ref ad, x0, x1]).length ≤ ai_mL M1) (hs : ai_sum t ≤ 8) (hm : Mt X M1 [.ref ad, x0, x1] h (Ql F)) (z : ∀ w h1, F w h1 → Rk X M (k + 1) ls (.long w :: t) h1 P) : Rk X M k ls (x1 :: x0 :: .ref ad :: t) h P := by
  refine rk_call hr rfl (Nat.le_of_ble_eq_true rfl) hM (rk_arg (as := [x0, x1]) (by show (0 : Nat) ≠ 1; decide) hh hc hn) hfl hs hm ?_
  rintro o1 ⟨w, h1, rfl, hF⟩
  exact ad00 (z w h1 hF)
theorem rk_cv2v {F : ai_H → Prop} {pc len b p q i ad c : Nat} {v0 : Value} {M1 : ai_M} {x0 x1 : Value} {fs : List Value} (hr : (ai_mR M)[k]? = some (pc, .invokevirtual i, len, v0, 0, b, p, q)) (hM : ai_mt[b]? = some M1) (hh : h[ad]? = some (.inr (c, fs))) (hc : c = ai_mC M1) (hn : 2 = ai_mN M1) (hfl : (ai_fl [.ref ad, x0, x1]).length ≤ ai_mL M1) (hs : ai_sum t ≤ 8) (hm : Mt X M1 [.ref ad, x0, x1] h (Qv F)) (z : ∀ h1, F h1 → Rk X M (k + 1) ls t h1 P) : Rk X M k ls (x1 :: x0 :: .ref ad :: t) h P := by
  refine rk_call hr rfl (Nat.le_of_ble_eq_true rfl) hM (rk_arg (as := [x0, x1]) (by show (0 : Nat) ≠ 1; decide) hh hc hn) hfl hs hm ?_
  rintro o1 ⟨h1, rfl, hF⟩
  exact ad00 (z h1 hF)
theorem rk_cv2e {v : Int32} {pc len b p q i ad c : Nat} {v0 : Value} {M1 : ai_M} {x0 x1 : Value} {fs : List Value} (hr : (ai_mR M)[k]? = some (pc, .invokevirtual i, len, v0, 0, b, p, q)) (hM : ai_mt[b]? = some M1) (hh : h[ad]? = some (.inr (c, fs))) (hc : c = ai_mC M1) (hn : 2 = ai_mN M1) (hfl : (ai_fl [.ref ad, x0, x1]).length ≤ ai_mL M1) (hs : ai_sum t ≤ 8) (hm : Mt X M1 [.ref ad, x0, x1] h (Qe v h)) (z : Rk X M (k + 1) ls (.int v :: t) h P) : Rk X M k ls (x1 :: x0 :: .ref ad :: t) h P :=
  rk_cv2i hr hM hh hc hn hfl hs hm (fun w h1 hF => by obtain ⟨rfl, rfl⟩ := hF; exact z)
theorem rk_cv3i {F : Int32 → ai_H → Prop} {pc len b p q i ad c : Nat} {v0 : Value} {M1 : ai_M} {x0 x1 x2 : Value} {fs : List Value} (hr : (ai_mR M)[k]? = some (pc, .invokevirtual i, len, v0, 0, b, p, q)) (hM : ai_mt[b]? = some M1) (hh : h[ad]? = some (.inr (c, fs))) (hc : c = ai_mC M1) (hn : 3 = ai_mN M1) (hfl : (ai_fl [.ref ad, x0, x1, x2]).length ≤ ai_mL M1) (hs : ai_sum t ≤ 8) (hm : Mt X M1 [.ref ad, x0, x1, x2] h (Qi F)) (z : ∀ w h1, F w h1 → Rk X M (k + 1) ls (.int w :: t) h1 P) : Rk X M k ls (x2 :: x1 :: x0 :: .ref ad :: t) h P := by
  refine rk_call hr rfl (Nat.le_of_ble_eq_true rfl) hM (rk_arg (as := [x0, x1, x2]) (by show (0 : Nat) ≠ 1; decide) hh hc hn) hfl hs hm ?_
  rintro o1 ⟨w, h1, rfl, hF⟩
  exact ad00 (z w h1 hF)
theorem rk_cv3l {F : Int64 → ai_H → Prop} {pc len b p q i ad c : Nat} {v0 : Value} {M1 : ai_M} {x0 x1 x2 : Value} {fs : List Value} (hr : (ai_mR M)[k]? = some (pc, .invokevirtual i, len, v0, 0, b, p, q)) (hM : ai_mt[b]? = some M1) (hh : h[ad]? = some (.inr (c, fs))) (hc : c = ai_mC M1) (hn : 3 = ai_mN M1) (hfl : (ai_fl [.ref ad, x0, x1, x2]).length ≤ ai_mL M1) (hs : ai_sum t ≤ 8) (hm : Mt X M1 [.ref ad, x0, x1, x2] h (Ql F)) (z : ∀ w h1, F w h1 → Rk X M (k + 1) ls (.long w :: t) h1 P) : Rk X M k ls (x2 :: x1 :: x0 :: .ref ad :: t) h P := by
  refine rk_call hr rfl (Nat.le_of_ble_eq_true rfl) hM (rk_arg (as := [x0, x1, x2]) (by show (0 : Nat) ≠ 1; decide) hh hc hn) hfl hs hm ?_
  rintro o1 ⟨w, h1, rfl, hF⟩
  exact ad00 (z w h1 hF)
theorem rk_cv3v {F : ai_H → Prop} {pc len b p q i ad c : Nat} {v0 : Value} {M1 : ai_M} {x0 x1 x2 : Value} {fs : List Value} (hr : (ai_mR M)[k]? = some (pc, .invokevirtual i, len, v0, 0, b, p, q)) (hM : ai_mt[b]? = some M1) (hh : h[ad]? = some (.inr (c, fs))) (hc : c = ai_mC M1) (hn : 3 = ai_mN M1) (hfl : (ai_fl [.ref ad, x0, x1, x2]).length ≤ ai_mL M1) (hs : ai_sum t ≤ 8) (hm : Mt X M1 [.ref ad, x0, x1, x2] h (Qv F)) (z : ∀ h1, F h1 → Rk X M (k + 1) ls t h1 P) : Rk X M k ls (x2 :: x1 :: x0 :: .ref ad :: t) h P := by
  refine rk_call hr rfl (Nat.le_of_ble_eq_true rfl) hM (rk_arg (as := [x0, x1, x2]) (by show (0 : Nat) ≠ 1; decide) hh hc hn) hfl hs hm ?_
  rintro o1 ⟨h1, rfl, hF⟩
  exact ad00 (z h1 hF)
theorem rk_cv3e {v : Int32} {pc len b p q i ad c : Nat} {v0 : Value} {M1 : ai_M} {x0 x1 x2 : Value} {fs : List Value} (hr : (ai_mR M)[k]? = some (pc, .invokevirtual i, len, v0, 0, b, p, q)) (hM : ai_mt[b]? = some M1) (hh : h[ad]? = some (.inr (c, fs))) (hc : c = ai_mC M1) (hn : 3 = ai_mN M1) (hfl : (ai_fl [.ref ad, x0, x1, x2]).length ≤ ai_mL M1) (hs : ai_sum t ≤ 8) (hm : Mt X M1 [.ref ad, x0, x1, x2] h (Qe v h)) (z : Rk X M (k + 1) ls (.int v :: t) h P) : Rk X M k ls (x2 :: x1 :: x0 :: .ref ad :: t) h P :=
  rk_cv3i hr hM hh hc hn hfl hs hm (fun w h1 hF => by obtain ⟨rfl, rfl⟩ := hF; exact z)
theorem rk_cv4i {F : Int32 → ai_H → Prop} {pc len b p q i ad c : Nat} {v0 : Value} {M1 : ai_M} {x0 x1 x2 x3 : Value} {fs : List Value} (hr : (ai_mR M)[k]? = some (pc, .invokevirtual i, len, v0, 0, b, p, q)) (hM : ai_mt[b]? = some M1) (hh : h[ad]? = some (.inr (c, fs))) (hc : c = ai_mC M1) (hn : 4 = ai_mN M1) (hfl : (ai_fl [.ref ad, x0, x1, x2, x3]).length ≤ ai_mL M1) (hs : ai_sum t ≤ 8) (hm : Mt X M1 [.ref ad, x0, x1, x2, x3] h (Qi F)) (z : ∀ w h1, F w h1 → Rk X M (k + 1) ls (.int w :: t) h1 P) : Rk X M k ls (x3 :: x2 :: x1 :: x0 :: .ref ad :: t) h P := by
  refine rk_call hr rfl (Nat.le_of_ble_eq_true rfl) hM (rk_arg (as := [x0, x1, x2, x3]) (by show (0 : Nat) ≠ 1; decide) hh hc hn) hfl hs hm ?_
  rintro o1 ⟨w, h1, rfl, hF⟩
  exact ad00 (z w h1 hF)
theorem rk_cv4l {F : Int64 → ai_H → Prop} {pc len b p q i ad c : Nat} {v0 : Value} {M1 : ai_M} {x0 x1 x2 x3 : Value} {fs : List Value} (hr : (ai_mR M)[k]? = some (pc, .invokevirtual i, len, v0, 0, b, p, q)) (hM : ai_mt[b]? = some M1) (hh : h[ad]? = some (.inr (c, fs))) (hc : c = ai_mC M1) (hn : 4 = ai_mN M1) (hfl : (ai_fl [.ref ad, x0, x1, x2, x3]).length ≤ ai_mL M1) (hs : ai_sum t ≤ 8) (hm : Mt X M1 [.ref ad, x0, x1, x2, x3] h (Ql F)) (z : ∀ w h1, F w h1 → Rk X M (k + 1) ls (.long w :: t) h1 P) : Rk X M k ls (x3 :: x2 :: x1 :: x0 :: .ref ad :: t) h P := by
  refine rk_call hr rfl (Nat.le_of_ble_eq_true rfl) hM (rk_arg (as := [x0, x1, x2, x3]) (by show (0 : Nat) ≠ 1; decide) hh hc hn) hfl hs hm ?_
  rintro o1 ⟨w, h1, rfl, hF⟩
  exact ad00 (z w h1 hF)
theorem rk_cv4v {F : ai_H → Prop} {pc len b p q i ad c : Nat} {v0 : Value} {M1 : ai_M} {x0 x1 x2 x3 : Value} {fs : List Value} (hr : (ai_mR M)[k]? = some (pc, .invokevirtual i, len, v0, 0, b, p, q)) (hM : ai_mt[b]? = some M1) (hh : h[ad]? = some (.inr (c, fs))) (hc : c = ai_mC M1) (hn : 4 = ai_mN M1) (hfl : (ai_fl [.ref ad, x0, x1, x2, x3]).length ≤ ai_mL M1) (hs : ai_sum t ≤ 8) (hm : Mt X M1 [.ref ad, x0, x1, x2, x3] h (Qv F)) (z : ∀ h1, F h1 → Rk X M (k + 1) ls t h1 P) : Rk X M k ls (x3 :: x2 :: x1 :: x0 :: .ref ad :: t) h P := by
  refine rk_call hr rfl (Nat.le_of_ble_eq_true rfl) hM (rk_arg (as := [x0, x1, x2, x3]) (by show (0 : Nat) ≠ 1; decide) hh hc hn) hfl hs hm ?_
  rintro o1 ⟨h1, rfl, hF⟩
  exact ad00 (z h1 hF)
theorem rk_cv4e {v : Int32} {pc len b p q i ad c : Nat} {v0 : Value} {M1 : ai_M} {x0 x1 x2 x3 : Value} {fs : List Value} (hr : (ai_mR M)[k]? = some (pc, .invokevirtual i, len, v0, 0, b, p, q)) (hM : ai_mt[b]? = some M1) (hh : h[ad]? = some (.inr (c, fs))) (hc : c = ai_mC M1) (hn : 4 = ai_mN M1) (hfl : (ai_fl [.ref ad, x0, x1, x2, x3]).length ≤ ai_mL M1) (hs : ai_sum t ≤ 8) (hm : Mt X M1 [.ref ad, x0, x1, x2, x3] h (Qe v h)) (z : Rk X M (k + 1) ls (.int v :: t) h P) : Rk X M k ls (x3 :: x2 :: x1 :: x0 :: .ref ad :: t) h P :=
  rk_cv4i hr hM hh hc hn hfl hs hm (fun w h1 hF => by obtain ⟨rfl, rfl⟩ := hF; exact z)
theorem rk_cv5i {F : Int32 → ai_H → Prop} {pc len b p q i ad c : Nat} {v0 : Value} {M1 : ai_M} {x0 x1 x2 x3 x4 : Value} {fs : List Value} (hr : (ai_mR M)[k]? = some (pc, .invokevirtual i, len, v0, 0, b, p, q)) (hM : ai_mt[b]? = some M1) (hh : h[ad]? = some (.inr (c, fs))) (hc : c = ai_mC M1) (hn : 5 = ai_mN M1) (hfl : (ai_fl [.ref ad, x0, x1, x2, x3, x4]).length ≤ ai_mL M1) (hs : ai_sum t ≤ 8) (hm : Mt X M1 [.ref ad, x0, x1, x2, x3, x4] h (Qi F)) (z : ∀ w h1, F w h1 → Rk X M (k + 1) ls (.int w :: t) h1 P) : Rk X M k ls (x4 :: x3 :: x2 :: x1 :: x0 :: .ref ad :: t) h P := by
  refine rk_call hr rfl (Nat.le_of_ble_eq_true rfl) hM (rk_arg (as := [x0, x1, x2, x3, x4]) (by show (0 : Nat) ≠ 1; decide) hh hc hn) hfl hs hm ?_
  rintro o1 ⟨w, h1, rfl, hF⟩
  exact ad00 (z w h1 hF)
theorem rk_cv5l {F : Int64 → ai_H → Prop} {pc len b p q i ad c : Nat} {v0 : Value} {M1 : ai_M} {x0 x1 x2 x3 x4 : Value} {fs : List Value} (hr : (ai_mR M)[k]? = some (pc, .invokevirtual i, len, v0, 0, b, p, q)) (hM : ai_mt[b]? = some M1) (hh : h[ad]? = some (.inr (c, fs))) (hc : c = ai_mC M1) (hn : 5 = ai_mN M1) (hfl : (ai_fl [.ref ad, x0, x1, x2, x3, x4]).length ≤ ai_mL M1) (hs : ai_sum t ≤ 8) (hm : Mt X M1 [.ref ad, x0, x1, x2, x3, x4] h (Ql F)) (z : ∀ w h1, F w h1 → Rk X M (k + 1) ls (.long w :: t) h1 P) : Rk X M k ls (x4 :: x3 :: x2 :: x1 :: x0 :: .ref ad :: t) h P := by
  refine rk_call hr rfl (Nat.le_of_ble_eq_true rfl) hM (rk_arg (as := [x0, x1, x2, x3, x4]) (by show (0 : Nat) ≠ 1; decide) hh hc hn) hfl hs hm ?_
  rintro o1 ⟨w, h1, rfl, hF⟩
  exact ad00 (z w h1 hF)
theorem rk_cv5v {F : ai_H → Prop} {pc len b p q i ad c : Nat} {v0 : Value} {M1 : ai_M} {x0 x1 x2 x3 x4 : Value} {fs : List Value} (hr : (ai_mR M)[k]? = some (pc, .invokevirtual i, len, v0, 0, b, p, q)) (hM : ai_mt[b]? = some M1) (hh : h[ad]? = some (.inr (c, fs))) (hc : c = ai_mC M1) (hn : 5 = ai_mN M1) (hfl : (ai_fl [.ref ad, x0, x1, x2, x3, x4]).length ≤ ai_mL M1) (hs : ai_sum t ≤ 8) (hm : Mt X M1 [.ref ad, x0, x1, x2, x3, x4] h (Qv F)) (z : ∀ h1, F h1 → Rk X M (k + 1) ls t h1 P) : Rk X M k ls (x4 :: x3 :: x2 :: x1 :: x0 :: .ref ad :: t) h P := by
  refine rk_call hr rfl (Nat.le_of_ble_eq_true rfl) hM (rk_arg (as := [x0, x1, x2, x3, x4]) (by show (0 : Nat) ≠ 1; decide) hh hc hn) hfl hs hm ?_
  rintro o1 ⟨h1, rfl, hF⟩
  exact ad00 (z h1 hF)
theorem rk_cv5e {v : Int32} {pc len b p q i ad c : Nat} {v0 : Value} {M1 : ai_M} {x0 x1 x2 x3 x4 : Value} {fs : List Value} (hr : (ai_mR M)[k]? = some (pc, .invokevirtual i, len, v0, 0, b, p, q)) (hM : ai_mt[b]? = some M1) (hh : h[ad]? = some (.inr (c, fs))) (hc : c = ai_mC M1) (hn : 5 = ai_mN M1) (hfl : (ai_fl [.ref ad, x0, x1, x2, x3, x4]).length ≤ ai_mL M1) (hs : ai_sum t ≤ 8) (hm : Mt X M1 [.ref ad, x0, x1, x2, x3, x4] h (Qe v h)) (z : Rk X M (k + 1) ls (.int v :: t) h P) : Rk X M k ls (x4 :: x3 :: x2 :: x1 :: x0 :: .ref ad :: t) h P :=
  rk_cv5i hr hM hh hc hn hfl hs hm (fun w h1 hF => by obtain ⟨rfl, rfl⟩ := hF; exact z)
theorem rk_cs0i {F : Int32 → ai_H → Prop} {pc len b p q i : Nat} {v0 : Value} {M1 : ai_M} (hr : (ai_mR M)[k]? = some (pc, .invokestatic i, len, v0, 1, b, p, q)) (hM : ai_mt[b]? = some M1) (hn : 0 = ai_mN M1) (hfl : (ai_fl []).length ≤ ai_mL M1) (hs : ai_sum t ≤ 8) (hm : Mt X M1 [] h (Qi F)) (z : ∀ w h1, F w h1 → Rk X M (k + 1) ls (.int w :: t) h1 P) : Rk X M k ls (t) h P := by
  refine rk_call hr rfl (Nat.le_of_ble_eq_true rfl) hM (rk_args (as := []) hn) hfl hs hm ?_
  rintro o1 ⟨w, h1, rfl, hF⟩
  exact ad00 (z w h1 hF)
theorem rk_cs0l {F : Int64 → ai_H → Prop} {pc len b p q i : Nat} {v0 : Value} {M1 : ai_M} (hr : (ai_mR M)[k]? = some (pc, .invokestatic i, len, v0, 1, b, p, q)) (hM : ai_mt[b]? = some M1) (hn : 0 = ai_mN M1) (hfl : (ai_fl []).length ≤ ai_mL M1) (hs : ai_sum t ≤ 8) (hm : Mt X M1 [] h (Ql F)) (z : ∀ w h1, F w h1 → Rk X M (k + 1) ls (.long w :: t) h1 P) : Rk X M k ls (t) h P := by
  refine rk_call hr rfl (Nat.le_of_ble_eq_true rfl) hM (rk_args (as := []) hn) hfl hs hm ?_
  rintro o1 ⟨w, h1, rfl, hF⟩
  exact ad00 (z w h1 hF)
theorem rk_cs0v {F : ai_H → Prop} {pc len b p q i : Nat} {v0 : Value} {M1 : ai_M} (hr : (ai_mR M)[k]? = some (pc, .invokestatic i, len, v0, 1, b, p, q)) (hM : ai_mt[b]? = some M1) (hn : 0 = ai_mN M1) (hfl : (ai_fl []).length ≤ ai_mL M1) (hs : ai_sum t ≤ 8) (hm : Mt X M1 [] h (Qv F)) (z : ∀ h1, F h1 → Rk X M (k + 1) ls t h1 P) : Rk X M k ls (t) h P := by
  refine rk_call hr rfl (Nat.le_of_ble_eq_true rfl) hM (rk_args (as := []) hn) hfl hs hm ?_
  rintro o1 ⟨h1, rfl, hF⟩
  exact ad00 (z h1 hF)
theorem rk_cs0e {v : Int32} {pc len b p q i : Nat} {v0 : Value} {M1 : ai_M} (hr : (ai_mR M)[k]? = some (pc, .invokestatic i, len, v0, 1, b, p, q)) (hM : ai_mt[b]? = some M1) (hn : 0 = ai_mN M1) (hfl : (ai_fl []).length ≤ ai_mL M1) (hs : ai_sum t ≤ 8) (hm : Mt X M1 [] h (Qe v h)) (z : Rk X M (k + 1) ls (.int v :: t) h P) : Rk X M k ls (t) h P :=
  rk_cs0i hr hM hn hfl hs hm (fun w h1 hF => by obtain ⟨rfl, rfl⟩ := hF; exact z)
theorem rk_cs1i {F : Int32 → ai_H → Prop} {pc len b p q i : Nat} {v0 : Value} {M1 : ai_M} {x0 : Value} (hr : (ai_mR M)[k]? = some (pc, .invokestatic i, len, v0, 1, b, p, q)) (hM : ai_mt[b]? = some M1) (hn : 1 = ai_mN M1) (hfl : (ai_fl [x0]).length ≤ ai_mL M1) (hs : ai_sum t ≤ 8) (hm : Mt X M1 [x0] h (Qi F)) (z : ∀ w h1, F w h1 → Rk X M (k + 1) ls (.int w :: t) h1 P) : Rk X M k ls (x0 :: t) h P := by
  refine rk_call hr rfl (Nat.le_of_ble_eq_true rfl) hM (rk_args (as := [x0]) hn) hfl hs hm ?_
  rintro o1 ⟨w, h1, rfl, hF⟩
  exact ad00 (z w h1 hF)
theorem rk_cs1l {F : Int64 → ai_H → Prop} {pc len b p q i : Nat} {v0 : Value} {M1 : ai_M} {x0 : Value} (hr : (ai_mR M)[k]? = some (pc, .invokestatic i, len, v0, 1, b, p, q)) (hM : ai_mt[b]? = some M1) (hn : 1 = ai_mN M1) (hfl : (ai_fl [x0]).length ≤ ai_mL M1) (hs : ai_sum t ≤ 8) (hm : Mt X M1 [x0] h (Ql F)) (z : ∀ w h1, F w h1 → Rk X M (k + 1) ls (.long w :: t) h1 P) : Rk X M k ls (x0 :: t) h P := by
  refine rk_call hr rfl (Nat.le_of_ble_eq_true rfl) hM (rk_args (as := [x0]) hn) hfl hs hm ?_
  rintro o1 ⟨w, h1, rfl, hF⟩
  exact ad00 (z w h1 hF)
theorem rk_cs1v {F : ai_H → Prop} {pc len b p q i : Nat} {v0 : Value} {M1 : ai_M} {x0 : Value} (hr : (ai_mR M)[k]? = some (pc, .invokestatic i, len, v0, 1, b, p, q)) (hM : ai_mt[b]? = some M1) (hn : 1 = ai_mN M1) (hfl : (ai_fl [x0]).length ≤ ai_mL M1) (hs : ai_sum t ≤ 8) (hm : Mt X M1 [x0] h (Qv F)) (z : ∀ h1, F h1 → Rk X M (k + 1) ls t h1 P) : Rk X M k ls (x0 :: t) h P := by
  refine rk_call hr rfl (Nat.le_of_ble_eq_true rfl) hM (rk_args (as := [x0]) hn) hfl hs hm ?_
  rintro o1 ⟨h1, rfl, hF⟩
  exact ad00 (z h1 hF)
theorem rk_cs1e {v : Int32} {pc len b p q i : Nat} {v0 : Value} {M1 : ai_M} {x0 : Value} (hr : (ai_mR M)[k]? = some (pc, .invokestatic i, len, v0, 1, b, p, q)) (hM : ai_mt[b]? = some M1) (hn : 1 = ai_mN M1) (hfl : (ai_fl [x0]).length ≤ ai_mL M1) (hs : ai_sum t ≤ 8) (hm : Mt X M1 [x0] h (Qe v h)) (z : Rk X M (k + 1) ls (.int v :: t) h P) : Rk X M k ls (x0 :: t) h P :=
  rk_cs1i hr hM hn hfl hs hm (fun w h1 hF => by obtain ⟨rfl, rfl⟩ := hF; exact z)
theorem rk_cs2i {F : Int32 → ai_H → Prop} {pc len b p q i : Nat} {v0 : Value} {M1 : ai_M} {x0 x1 : Value} (hr : (ai_mR M)[k]? = some (pc, .invokestatic i, len, v0, 1, b, p, q)) (hM : ai_mt[b]? = some M1) (hn : 2 = ai_mN M1) (hfl : (ai_fl [x0, x1]).length ≤ ai_mL M1) (hs : ai_sum t ≤ 8) (hm : Mt X M1 [x0, x1] h (Qi F)) (z : ∀ w h1, F w h1 → Rk X M (k + 1) ls (.int w :: t) h1 P) : Rk X M k ls (x1 :: x0 :: t) h P := by
  refine rk_call hr rfl (Nat.le_of_ble_eq_true rfl) hM (rk_args (as := [x0, x1]) hn) hfl hs hm ?_
  rintro o1 ⟨w, h1, rfl, hF⟩
  exact ad00 (z w h1 hF)
theorem rk_cs2l {F : Int64 → ai_H → Prop} {pc len b p q i : Nat} {v0 : Value} {M1 : ai_M} {x0 x1 : Value} (hr : (ai_mR M)[k]? = some (pc, .invokestatic i, len, v0, 1, b, p, q)) (hM : ai_mt[b]? = some M1) (hn : 2 = ai_mN M1) (hfl : (ai_fl [x0, x1]).length ≤ ai_mL M1) (hs : ai_sum t ≤ 8) (hm : Mt X M1 [x0, x1] h (Ql F)) (z : ∀ w h1, F w h1 → Rk X M (k + 1) ls (.long w :: t) h1 P) : Rk X M k ls (x1 :: x0 :: t) h P := by
  refine rk_call hr rfl (Nat.le_of_ble_eq_true rfl) hM (rk_args (as := [x0, x1]) hn) hfl hs hm ?_
  rintro o1 ⟨w, h1, rfl, hF⟩
  exact ad00 (z w h1 hF)
theorem rk_cs2v {F : ai_H → Prop} {pc len b p q i : Nat} {v0 : Value} {M1 : ai_M} {x0 x1 : Value} (hr : (ai_mR M)[k]? = some (pc, .invokestatic i, len, v0, 1, b, p, q)) (hM : ai_mt[b]? = some M1) (hn : 2 = ai_mN M1) (hfl : (ai_fl [x0, x1]).length ≤ ai_mL M1) (hs : ai_sum t ≤ 8) (hm : Mt X M1 [x0, x1] h (Qv F)) (z : ∀ h1, F h1 → Rk X M (k + 1) ls t h1 P) : Rk X M k ls (x1 :: x0 :: t) h P := by
  refine rk_call hr rfl (Nat.le_of_ble_eq_true rfl) hM (rk_args (as := [x0, x1]) hn) hfl hs hm ?_
  rintro o1 ⟨h1, rfl, hF⟩
  exact ad00 (z h1 hF)
theorem rk_cs2e {v : Int32} {pc len b p q i : Nat} {v0 : Value} {M1 : ai_M} {x0 x1 : Value} (hr : (ai_mR M)[k]? = some (pc, .invokestatic i, len, v0, 1, b, p, q)) (hM : ai_mt[b]? = some M1) (hn : 2 = ai_mN M1) (hfl : (ai_fl [x0, x1]).length ≤ ai_mL M1) (hs : ai_sum t ≤ 8) (hm : Mt X M1 [x0, x1] h (Qe v h)) (z : Rk X M (k + 1) ls (.int v :: t) h P) : Rk X M k ls (x1 :: x0 :: t) h P :=
  rk_cs2i hr hM hn hfl hs hm (fun w h1 hF => by obtain ⟨rfl, rfl⟩ := hF; exact z)
theorem rk_cs3i {F : Int32 → ai_H → Prop} {pc len b p q i : Nat} {v0 : Value} {M1 : ai_M} {x0 x1 x2 : Value} (hr : (ai_mR M)[k]? = some (pc, .invokestatic i, len, v0, 1, b, p, q)) (hM : ai_mt[b]? = some M1) (hn : 3 = ai_mN M1) (hfl : (ai_fl [x0, x1, x2]).length ≤ ai_mL M1) (hs : ai_sum t ≤ 8) (hm : Mt X M1 [x0, x1, x2] h (Qi F)) (z : ∀ w h1, F w h1 → Rk X M (k + 1) ls (.int w :: t) h1 P) : Rk X M k ls (x2 :: x1 :: x0 :: t) h P := by
  refine rk_call hr rfl (Nat.le_of_ble_eq_true rfl) hM (rk_args (as := [x0, x1, x2]) hn) hfl hs hm ?_
  rintro o1 ⟨w, h1, rfl, hF⟩
  exact ad00 (z w h1 hF)
theorem rk_cs3l {F : Int64 → ai_H → Prop} {pc len b p q i : Nat} {v0 : Value} {M1 : ai_M} {x0 x1 x2 : Value} (hr : (ai_mR M)[k]? = some (pc, .invokestatic i, len, v0, 1, b, p, q)) (hM : ai_mt[b]? = some M1) (hn : 3 = ai_mN M1) (hfl : (ai_fl [x0, x1, x2]).length ≤ ai_mL M1) (hs : ai_sum t ≤ 8) (hm : Mt X M1 [x0, x1, x2] h (Ql F)) (z : ∀ w h1, F w h1 → Rk X M (k + 1) ls (.long w :: t) h1 P) : Rk X M k ls (x2 :: x1 :: x0 :: t) h P := by
  refine rk_call hr rfl (Nat.le_of_ble_eq_true rfl) hM (rk_args (as := [x0, x1, x2]) hn) hfl hs hm ?_
  rintro o1 ⟨w, h1, rfl, hF⟩
  exact ad00 (z w h1 hF)
theorem rk_cs3v {F : ai_H → Prop} {pc len b p q i : Nat} {v0 : Value} {M1 : ai_M} {x0 x1 x2 : Value} (hr : (ai_mR M)[k]? = some (pc, .invokestatic i, len, v0, 1, b, p, q)) (hM : ai_mt[b]? = some M1) (hn : 3 = ai_mN M1) (hfl : (ai_fl [x0, x1, x2]).length ≤ ai_mL M1) (hs : ai_sum t ≤ 8) (hm : Mt X M1 [x0, x1, x2] h (Qv F)) (z : ∀ h1, F h1 → Rk X M (k + 1) ls t h1 P) : Rk X M k ls (x2 :: x1 :: x0 :: t) h P := by
  refine rk_call hr rfl (Nat.le_of_ble_eq_true rfl) hM (rk_args (as := [x0, x1, x2]) hn) hfl hs hm ?_
  rintro o1 ⟨h1, rfl, hF⟩
  exact ad00 (z h1 hF)
theorem rk_cs3e {v : Int32} {pc len b p q i : Nat} {v0 : Value} {M1 : ai_M} {x0 x1 x2 : Value} (hr : (ai_mR M)[k]? = some (pc, .invokestatic i, len, v0, 1, b, p, q)) (hM : ai_mt[b]? = some M1) (hn : 3 = ai_mN M1) (hfl : (ai_fl [x0, x1, x2]).length ≤ ai_mL M1) (hs : ai_sum t ≤ 8) (hm : Mt X M1 [x0, x1, x2] h (Qe v h)) (z : Rk X M (k + 1) ls (.int v :: t) h P) : Rk X M k ls (x2 :: x1 :: x0 :: t) h P :=
  rk_cs3i hr hM hn hfl hs hm (fun w h1 hF => by obtain ⟨rfl, rfl⟩ := hF; exact z)
theorem rk_cs4i {F : Int32 → ai_H → Prop} {pc len b p q i : Nat} {v0 : Value} {M1 : ai_M} {x0 x1 x2 x3 : Value} (hr : (ai_mR M)[k]? = some (pc, .invokestatic i, len, v0, 1, b, p, q)) (hM : ai_mt[b]? = some M1) (hn : 4 = ai_mN M1) (hfl : (ai_fl [x0, x1, x2, x3]).length ≤ ai_mL M1) (hs : ai_sum t ≤ 8) (hm : Mt X M1 [x0, x1, x2, x3] h (Qi F)) (z : ∀ w h1, F w h1 → Rk X M (k + 1) ls (.int w :: t) h1 P) : Rk X M k ls (x3 :: x2 :: x1 :: x0 :: t) h P := by
  refine rk_call hr rfl (Nat.le_of_ble_eq_true rfl) hM (rk_args (as := [x0, x1, x2, x3]) hn) hfl hs hm ?_
  rintro o1 ⟨w, h1, rfl, hF⟩
  exact ad00 (z w h1 hF)
theorem rk_cs4l {F : Int64 → ai_H → Prop} {pc len b p q i : Nat} {v0 : Value} {M1 : ai_M} {x0 x1 x2 x3 : Value} (hr : (ai_mR M)[k]? = some (pc, .invokestatic i, len, v0, 1, b, p, q)) (hM : ai_mt[b]? = some M1) (hn : 4 = ai_mN M1) (hfl : (ai_fl [x0, x1, x2, x3]).length ≤ ai_mL M1) (hs : ai_sum t ≤ 8) (hm : Mt X M1 [x0, x1, x2, x3] h (Ql F)) (z : ∀ w h1, F w h1 → Rk X M (k + 1) ls (.long w :: t) h1 P) : Rk X M k ls (x3 :: x2 :: x1 :: x0 :: t) h P := by
  refine rk_call hr rfl (Nat.le_of_ble_eq_true rfl) hM (rk_args (as := [x0, x1, x2, x3]) hn) hfl hs hm ?_
  rintro o1 ⟨w, h1, rfl, hF⟩
  exact ad00 (z w h1 hF)
theorem rk_cs4v {F : ai_H → Prop} {pc len b p q i : Nat} {v0 : Value} {M1 : ai_M} {x0 x1 x2 x3 : Value} (hr : (ai_mR M)[k]? = some (pc, .invokestatic i, len, v0, 1, b, p, q)) (hM : ai_mt[b]? = some M1) (hn : 4 = ai_mN M1) (hfl : (ai_fl [x0, x1, x2, x3]).length ≤ ai_mL M1) (hs : ai_sum t ≤ 8) (hm : Mt X M1 [x0, x1, x2, x3] h (Qv F)) (z : ∀ h1, F h1 → Rk X M (k + 1) ls t h1 P) : Rk X M k ls (x3 :: x2 :: x1 :: x0 :: t) h P := by
  refine rk_call hr rfl (Nat.le_of_ble_eq_true rfl) hM (rk_args (as := [x0, x1, x2, x3]) hn) hfl hs hm ?_
  rintro o1 ⟨h1, rfl, hF⟩
  exact ad00 (z h1 hF)
theorem rk_cs4e {v : Int32} {pc len b p q i : Nat} {v0 : Value} {M1 : ai_M} {x0 x1 x2 x3 : Value} (hr : (ai_mR M)[k]? = some (pc, .invokestatic i, len, v0, 1, b, p, q)) (hM : ai_mt[b]? = some M1) (hn : 4 = ai_mN M1) (hfl : (ai_fl [x0, x1, x2, x3]).length ≤ ai_mL M1) (hs : ai_sum t ≤ 8) (hm : Mt X M1 [x0, x1, x2, x3] h (Qe v h)) (z : Rk X M (k + 1) ls (.int v :: t) h P) : Rk X M k ls (x3 :: x2 :: x1 :: x0 :: t) h P :=
  rk_cs4i hr hM hn hfl hs hm (fun w h1 hF => by obtain ⟨rfl, rfl⟩ := hF; exact z)
theorem rk_cs5i {F : Int32 → ai_H → Prop} {pc len b p q i : Nat} {v0 : Value} {M1 : ai_M} {x0 x1 x2 x3 x4 : Value} (hr : (ai_mR M)[k]? = some (pc, .invokestatic i, len, v0, 1, b, p, q)) (hM : ai_mt[b]? = some M1) (hn : 5 = ai_mN M1) (hfl : (ai_fl [x0, x1, x2, x3, x4]).length ≤ ai_mL M1) (hs : ai_sum t ≤ 8) (hm : Mt X M1 [x0, x1, x2, x3, x4] h (Qi F)) (z : ∀ w h1, F w h1 → Rk X M (k + 1) ls (.int w :: t) h1 P) : Rk X M k ls (x4 :: x3 :: x2 :: x1 :: x0 :: t) h P := by
  refine rk_call hr rfl (Nat.le_of_ble_eq_true rfl) hM (rk_args (as := [x0, x1, x2, x3, x4]) hn) hfl hs hm ?_
  rintro o1 ⟨w, h1, rfl, hF⟩
  exact ad00 (z w h1 hF)
theorem rk_cs5l {F : Int64 → ai_H → Prop} {pc len b p q i : Nat} {v0 : Value} {M1 : ai_M} {x0 x1 x2 x3 x4 : Value} (hr : (ai_mR M)[k]? = some (pc, .invokestatic i, len, v0, 1, b, p, q)) (hM : ai_mt[b]? = some M1) (hn : 5 = ai_mN M1) (hfl : (ai_fl [x0, x1, x2, x3, x4]).length ≤ ai_mL M1) (hs : ai_sum t ≤ 8) (hm : Mt X M1 [x0, x1, x2, x3, x4] h (Ql F)) (z : ∀ w h1, F w h1 → Rk X M (k + 1) ls (.long w :: t) h1 P) : Rk X M k ls (x4 :: x3 :: x2 :: x1 :: x0 :: t) h P := by
  refine rk_call hr rfl (Nat.le_of_ble_eq_true rfl) hM (rk_args (as := [x0, x1, x2, x3, x4]) hn) hfl hs hm ?_
  rintro o1 ⟨w, h1, rfl, hF⟩
  exact ad00 (z w h1 hF)
theorem rk_cs5v {F : ai_H → Prop} {pc len b p q i : Nat} {v0 : Value} {M1 : ai_M} {x0 x1 x2 x3 x4 : Value} (hr : (ai_mR M)[k]? = some (pc, .invokestatic i, len, v0, 1, b, p, q)) (hM : ai_mt[b]? = some M1) (hn : 5 = ai_mN M1) (hfl : (ai_fl [x0, x1, x2, x3, x4]).length ≤ ai_mL M1) (hs : ai_sum t ≤ 8) (hm : Mt X M1 [x0, x1, x2, x3, x4] h (Qv F)) (z : ∀ h1, F h1 → Rk X M (k + 1) ls t h1 P) : Rk X M k ls (x4 :: x3 :: x2 :: x1 :: x0 :: t) h P := by
  refine rk_call hr rfl (Nat.le_of_ble_eq_true rfl) hM (rk_args (as := [x0, x1, x2, x3, x4]) hn) hfl hs hm ?_
  rintro o1 ⟨h1, rfl, hF⟩
  exact ad00 (z h1 hF)
theorem rk_cs5e {v : Int32} {pc len b p q i : Nat} {v0 : Value} {M1 : ai_M} {x0 x1 x2 x3 x4 : Value} (hr : (ai_mR M)[k]? = some (pc, .invokestatic i, len, v0, 1, b, p, q)) (hM : ai_mt[b]? = some M1) (hn : 5 = ai_mN M1) (hfl : (ai_fl [x0, x1, x2, x3, x4]).length ≤ ai_mL M1) (hs : ai_sum t ≤ 8) (hm : Mt X M1 [x0, x1, x2, x3, x4] h (Qe v h)) (z : Rk X M (k + 1) ls (.int v :: t) h P) : Rk X M k ls (x4 :: x3 :: x2 :: x1 :: x0 :: t) h P :=
  rk_cs5i hr hM hn hfl hs hm (fun w h1 hF => by obtain ⟨rfl, rfl⟩ := hF; exact z)
end AICALLS
/-! numbers -/
def bI (p : Prop) [Decidable p] : Int32 := if p then 1 else 0
theorem bI_t {p : Prop} [Decidable p] (h : p) : bI p = 1 := if_pos h
theorem bI_f {p : Prop} [Decidable p] (h : ¬ p) : bI p = 0 := if_neg h
theorem bI_0 {p : Prop} [Decidable p] : bI p = 0 ↔ ¬ p := by
  by_cases h : p
  · rw [bI_t h]; exact ⟨fun e => absurd e (by decide), fun e => absurd h e⟩
  · rw [bI_f h]; exact ⟨fun _ => h, fun _ => rfl⟩
theorem bI_rok {p : Prop} [Decidable p] : ai_rok (some .boolean) (bI p) = true := by
  by_cases h : p
  · rw [bI_t h]; rfl
  · rw [bI_f h]; rfl
theorem n0_eq {a : Nat} (h : a < 2 ^ 31) : nI a = 0 ↔ a = 0 := by rw [← nI_0, nI_eq h (by decide)]
theorem n0_lt {a : Nat} (h : a < 2 ^ 31) : nI a < 0 ↔ False := ⟨fun z => nI_pos h z, fun z => z.elim⟩
theorem n0_ge {a : Nat} (h : a < 2 ^ 31) : 0 ≤ nI a ↔ True := ⟨fun _ => trivial, fun _ => nI_pos' h⟩
theorem n0_le {a : Nat} (h : a < 2 ^ 31) : nI a ≤ 0 ↔ a = 0 := by rw [← nI_0, nI_leI h (by decide)]; omega
theorem n0_gt {a : Nat} (h : a < 2 ^ 31) : 0 < nI a ↔ 0 < a := by rw [← nI_0, nI_ltI (by decide) h]
theorem nm_eq {a : Nat} (h : a < 2 ^ 31) : ¬ nI a = -1 := fun z => nI_pos h (by rw [z]; decide)
theorem n_dec {a : Nat} (h : 0 < a) : nI a + Int32.ofInt (-1) = nI (a - 1) := by
  obtain ⟨b, rfl⟩ : ∃ b, a = b + 1 := ⟨a - 1, by omega⟩
  exact pk_m1 b
theorem n_inc (a : Nat) : nI a + Int32.ofInt 1 = nI (a + 1) := nI_1 a

