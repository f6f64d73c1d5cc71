/-! PURE RULES: what the interpreter does, an instruction a row; k is the row's place in the method -/
section AIRULES
variable {X : ai_X}
theorem ai_mono1 : ∀ (n : Nat) (M : ai_M) (s : ai_S) (o : ai_O), ai_run X n M s = some o → ai_run X (n + 1) M s = some o := by
  intro n
  induction n with
  | zero => intro M s o h; simp [ai_run] at h
  | succ n ih =>
    intro M s o hr
    obtain ⟨rs, ls, st, h⟩ := s
    cases rs with
    | nil => simp [ai_run] at hr
    | cons r rs =>
    have ihm : ∀ (M : ai_M) (s : ai_S) (c d : Nat) (o : ai_O), (ai_run X n M s).map (ai_add c d) = some o → (ai_run X (n + 1) M s).map (ai_add c d) = some o := by
      intro M s c d o h
      obtain ⟨o1, h1, rfl⟩ := Option.map_eq_some_iff.mp h
      rw [ih _ _ _ h1]; rfl
    unfold ai_run at hr ⊢
    split at hr
    · rename_i hk
      try simp only [hk]
      split at hr
      · rename_i s1 hs1
        try simp only [hs1]
        exact ih _ _ _ hr
      · cases hr
    · rename_i hk
      try simp only [hk]
      exact hr
    · rename_i hk
      try simp only [hk]
      exact hr
    · rename_i hk
      try simp only [hk]
      exact hr
    · rename_i hk
      try simp only [hk]
      split at hr
      · rename_i fs hfs
        try simp only [hfs]
        exact ihm _ _ _ _ _ hr
      · cases hr
    · rename_i hk
      try simp only [hk]
      split at hr
      · rename_i k t f hf
        try simp only [hf]
        split at hr
        · cases hr
        · rename_i hz
          rw [if_neg hz]
          exact ihm _ _ _ _ _ hr
      · cases hr
    · rename_i hk
      try simp only [hk]
      split at hr
      · rename_i k t
        split at hr
        · cases hr
        · rename_i hz
          rw [if_neg hz]
          exact ihm _ _ _ _ _ hr
      · cases hr
    · rename_i hk
      try simp only [hk]
      split at hr
      · rename_i h4
        rw [if_pos h4]
        split at hr
        · rename_i a t
          split at hr
          · rename_i hz
            rw [if_pos hz]
            exact ih _ _ _ hr
          · cases hr
        · cases hr
      · rename_i h4
        rw [if_neg h4]
        split at hr
        · rename_i h5
          rw [if_pos h5]
          split at hr
          · rename_i t h1 hcp
            try simp only [hcp]
            split at hr
            · rename_i hz
              rw [if_pos hz]
              exact ih _ _ _ hr
            · cases hr
          · cases hr
        · rename_i h5
          rw [if_neg h5]
          split at hr
          · rename_i h6
            rw [if_pos h6]
            split at hr
            · split at hr
              · rename_i hz
                rw [if_pos hz]
                exact ih _ _ _ hr
              · cases hr
            · cases hr
          rename_i h6
          rw [if_neg h6]
          split at hr
          · rename_i h7
            rw [if_pos h7]
            split at hr
            · split at hr
              · rename_i hz
                rw [if_pos hz]
                exact ih _ _ _ hr
              · cases hr
            · cases hr
          rename_i h7
          rw [if_neg h7]
          split at hr
          · rename_i h8
            rw [if_pos h8]
            split at hr
            · split at hr
              · rename_i hz
                rw [if_pos hz]
                exact ih _ _ _ hr
              · cases hr
            · cases hr
          rename_i h8
          rw [if_neg h8]
          split at hr
          · rename_i h9
            rw [if_pos h9]
            split at hr
            · split at hr
              · rename_i hz
                rw [if_pos hz]
                exact ih _ _ _ hr
              · cases hr
            · cases hr
          rename_i h9
          rw [if_neg h9]
          split at hr
          · rename_i h6
            rw [if_pos h6]
            split at hr
            · rename_i M1 hM1
              try simp only [hM1]
              split at hr
              · rename_i av t hav
                try simp only [hav]
                split at hr
                · rename_i hz
                  rw [if_pos hz]
                  split at hr
                  · rename_i o1 ho1
                    try simp only [ih _ _ _ ho1]
                    exact ihm _ _ _ _ _ hr
                  · cases hr
                · cases hr
              · cases hr
            · cases hr
          · cases hr
    · cases hr
theorem ai_mono {n k : Nat} {M : ai_M} {s : ai_S} {o : ai_O} (h : ai_run X n M s = some o) : ai_run X (n + k) M s = some o := by
  induction k with
  | zero => exact h
  | succ k ih => exact ai_mono1 _ _ _ _ ih
/-- the interpreter comes to an end, with P -/
def Rn (X : ai_X) (M : ai_M) (s : ai_S) (P : ai_O → Prop) : Prop := ∃ n o, ai_run X n M s = some o ∧ P o
/-- from the row k on the method comes to its end, with P -/
def Rk (X : ai_X) (M : ai_M) (k : Nat) (ls : ai_L) (st : List Value) (h : ai_H) (P : ai_O → Prop) : Prop := Rn X M ((ai_mR M).drop k, ls, st, h) P
/-- the method called with the arguments av -/
def Mt (X : ai_X) (M : ai_M) (av : List Value) (h : ai_H) (P : ai_O → Prop) : Prop := Rk X M 0 (ai_loc (ai_mL M) av) [] h P
variable {M : ai_M} {k : Nat} {ls : ai_L} {st : List Value} {h : ai_H} {P : ai_O → Prop}
theorem Rk.mono {Q : ai_O → Prop} (hPQ : ∀ o, P o → Q o) (z : Rk X M k ls st h P) : Rk X M k ls st h Q := by
  obtain ⟨n, o, a, b⟩ := z
  exact ⟨n, o, a, hPQ o b⟩
theorem rk_drop {K : List ai_R} {k : Nat} {r : ai_R} (hr : K[k]? = some r) : K.drop k = r :: K.drop (k + 1) := by
  obtain ⟨hl, e⟩ := List.getElem?_eq_some_iff.mp hr
  rw [List.drop_eq_getElem_cons hl, e]
theorem rk_one {r : ai_R} {s1 : ai_S} (hr : (ai_mR M)[k]? = some r) (hk : ai_kd r.2.1 = 0) (hs : ai_stp X M r ((ai_mR M).drop (k + 1)) ls st h = some s1) (z : Rn X M s1 P) : Rk X M k ls st h P := by
  obtain ⟨n, o, hn, hP⟩ := z
  refine ⟨n + 1, o, ?_, hP⟩
  rw [rk_drop hr]
  unfold ai_run
  simp only [hk, hs]
  exact hn
theorem rk_tg {pc a : Nat} {off : Int} (ht : ((ai_mR M)[a]?).map (fun r => (r.1 : Int)) = some ((pc : Int) + off)) : ai_tg (ai_mR M) pc off a = some ((ai_mR M).drop a) := by
  obtain ⟨r, hr, he⟩ := Option.map_eq_some_iff.mp ht
  rw [ai_tg, rk_drop hr]
  simp only
  rw [if_pos he.symm]

theorem rk_iconst {pc len a b p q : Nat} {v0 : Value} {n : Int} {v : Int32}  (hr : (ai_mR M)[k]? = some (pc, .iconst n, len, v0, a, b, p, q)) (hv : Int32.ofInt n = v) (z : Rk X M (k + 1) ls (.int v :: st) (h) P) : Rk X M k ls (st) h P :=
  rk_one hr rfl (by rw [← hv]; rfl) z
theorem rk_bipush {pc len a b p q : Nat} {v0 : Value} {n : Int} {v : Int32}  (hr : (ai_mR M)[k]? = some (pc, .bipush n, len, v0, a, b, p, q)) (hv : (Int8.ofInt n).toInt32 = v) (z : Rk X M (k + 1) ls (.int v :: st) (h) P) : Rk X M k ls (st) h P :=
  rk_one hr rfl (by rw [← hv]; rfl) z
theorem rk_sipush {pc len a b p q : Nat} {v0 : Value} {n : Int} {v : Int32}  (hr : (ai_mR M)[k]? = some (pc, .sipush n, len, v0, a, b, p, q)) (hv : (Int16.ofInt n).toInt32 = v) (z : Rk X M (k + 1) ls (.int v :: st) (h) P) : Rk X M k ls (st) h P :=
  rk_one hr rfl (by rw [← hv]; rfl) z
theorem rk_lconst {pc len a b p q : Nat} {v0 : Value} {n : Fin 2} {v : Int64}  (hr : (ai_mR M)[k]? = some (pc, .lconst n, len, v0, a, b, p, q)) (hv : Int64.ofNat (n : Nat) = v) (z : Rk X M (k + 1) ls (.long v :: st) (h) P) : Rk X M k ls (st) h P :=
  rk_one hr rfl (by rw [← hv]; rfl) z
theorem rk_ldc {pc len a b p q n : Nat} {v : Int32} (hr : (ai_mR M)[k]? = some (pc, .ldc n, len, .int v, a, b, p, q)) (z : Rk X M (k + 1) ls (.int v :: st) h P) : Rk X M k ls st h P :=
  rk_one hr rfl rfl z
theorem rk_ldcw {pc len a b p q n : Nat} {v : Int32} (hr : (ai_mR M)[k]? = some (pc, .ldc_w n, len, .int v, a, b, p, q)) (z : Rk X M (k + 1) ls (.int v :: st) h P) : Rk X M k ls st h P :=
  rk_one hr rfl rfl z
theorem rk_ldc2 {pc len a b p q n : Nat} {v : Int64} (hr : (ai_mR M)[k]? = some (pc, .ldc2_w n, len, .long v, a, b, p, q)) (z : Rk X M (k + 1) ls (.long v :: st) h P) : Rk X M k ls st h P :=
  rk_one hr rfl rfl z
theorem rk_iload_n {pc len a b p q : Nat} {v0 : Value} {i : Fin 4} {v : Int32}  (hr : (ai_mR M)[k]? = some (pc, .iload_n i, len, v0, a, b, p, q)) (hl : ls[(i : Nat)]? = some (some (.int v))) (z : Rk X M (k + 1) ls (.int v :: st) (h) P) : Rk X M k ls (st) h P :=
  rk_one hr rfl (by simp only [ai_stp, hl]) z
theorem rk_iload {pc len a b p q : Nat} {v0 : Value} {i : Nat} {v : Int32}  (hr : (ai_mR M)[k]? = some (pc, .iload i, len, v0, a, b, p, q)) (hl : ls[i]? = some (some (.int v))) (z : Rk X M (k + 1) ls (.int v :: st) (h) P) : Rk X M k ls (st) h P :=
  rk_one hr rfl (by simp only [ai_stp, hl]) z
theorem rk_lload_n {pc len a b p q : Nat} {v0 : Value} {i : Fin 4} {v : Int64}  (hr : (ai_mR M)[k]? = some (pc, .lload_n i, len, v0, a, b, p, q)) (hl : ls[(i : Nat)]? = some (some (.long v))) (z : Rk X M (k + 1) ls (.long v :: st) (h) P) : Rk X M k ls (st) h P :=
  rk_one hr rfl (by simp only [ai_stp, hl]) z
theorem rk_lload {pc len a b p q : Nat} {v0 : Value} {i : Nat} {v : Int64}  (hr : (ai_mR M)[k]? = some (pc, .lload i, len, v0, a, b, p, q)) (hl : ls[i]? = some (some (.long v))) (z : Rk X M (k + 1) ls (.long v :: st) (h) P) : Rk X M k ls (st) h P :=
  rk_one hr rfl (by simp only [ai_stp, hl]) z
theorem rk_aload_n {pc len a b p q : Nat} {v0 : Value} {i : Fin 4} {v : Nat}  (hr : (ai_mR M)[k]? = some (pc, .aload_n i, len, v0, a, b, p, q)) (hl : ls[(i : Nat)]? = some (some (.ref v))) (z : Rk X M (k + 1) ls (.ref v :: st) (h) P) : Rk X M k ls (st) h P :=
  rk_one hr rfl (by simp only [ai_stp, hl]) z
theorem rk_aload {pc len a b p q : Nat} {v0 : Value} {i : Nat} {v : Nat}  (hr : (ai_mR M)[k]? = some (pc, .aload i, len, v0, a, b, p, q)) (hl : ls[i]? = some (some (.ref v))) (z : Rk X M (k + 1) ls (.ref v :: st) (h) P) : Rk X M k ls (st) h P :=
  rk_one hr rfl (by simp only [ai_stp, hl]) z
theorem rk_fload_n {pc len a b p q : Nat} {v0 : Value} {i : Fin 4} {v : UInt32}  (hr : (ai_mR M)[k]? = some (pc, .aload_n i, len, v0, a, b, p, q)) (hl : ls[(i : Nat)]? = some (some (.float v))) (z : Rk X M (k + 1) ls (.float v :: st) (h) P) : Rk X M k ls (st) h P :=
  rk_one hr rfl (by simp only [ai_stp, hl]) z
theorem rk_istore_n {pc len a b p q : Nat} {v0 : Value} {i : Fin 4} {v : Int32} {ls1 : ai_L}  (hr : (ai_mR M)[k]? = some (pc, .istore_n i, len, v0, a, b, p, q)) (hi : (i : Nat) < ls.length) (hs : ai_st false (i : Nat) (.int v) 0 ls = ls1) (z : Rk X M (k + 1) ls1 (st) (h) P) : Rk X M k ls (.int v :: st) h P :=
  rk_one hr rfl (by subst hs; simp only [ai_stp]; rw [if_pos hi]) z
theorem rk_istore {pc len a b p q : Nat} {v0 : Value} {i : Nat} {v : Int32} {ls1 : ai_L}  (hr : (ai_mR M)[k]? = some (pc, .istore i, len, v0, a, b, p, q)) (hi : i < ls.length) (hs : ai_st false i (.int v) 0 ls = ls1) (z : Rk X M (k + 1) ls1 (st) (h) P) : Rk X M k ls (.int v :: st) h P :=
  rk_one hr rfl (by subst hs; simp only [ai_stp]; rw [if_pos hi]) z
theorem rk_lstore_n {pc len a b p q : Nat} {v0 : Value} {i : Fin 4} {v : Int64} {ls1 : ai_L}  (hr : (ai_mR M)[k]? = some (pc, .lstore_n i, len, v0, a, b, p, q)) (hi : (i : Nat) + 1 < ls.length) (hs : ai_st true (i : Nat) (.long v) 0 ls = ls1) (z : Rk X M (k + 1) ls1 (st) (h) P) : Rk X M k ls (.long v :: st) h P :=
  rk_one hr rfl (by subst hs; simp only [ai_stp]; rw [if_pos hi]) z
theorem rk_lstore {pc len a b p q : Nat} {v0 : Value} {i : Nat} {v : Int64} {ls1 : ai_L}  (hr : (ai_mR M)[k]? = some (pc, .lstore i, len, v0, a, b, p, q)) (hi : i + 1 < ls.length) (hs : ai_st true i (.long v) 0 ls = ls1) (z : Rk X M (k + 1) ls1 (st) (h) P) : Rk X M k ls (.long v :: st) h P :=
  rk_one hr rfl (by subst hs; simp only [ai_stp]; rw [if_pos hi]) z
theorem rk_astore_n {pc len a b p q : Nat} {v0 : Value} {i : Fin 4} {v : Nat} {ls1 : ai_L}  (hr : (ai_mR M)[k]? = some (pc, .astore_n i, len, v0, a, b, p, q)) (hi : (i : Nat) < ls.length) (hs : ai_st false (i : Nat) (.ref v) 0 ls = ls1) (z : Rk X M (k + 1) ls1 (st) (h) P) : Rk X M k ls (.ref v :: st) h P :=
  rk_one hr rfl (by subst hs; simp only [ai_stp]; rw [if_pos hi]) z
theorem rk_astore {pc len a b p q : Nat} {v0 : Value} {i : Nat} {v : Nat} {ls1 : ai_L}  (hr : (ai_mR M)[k]? = some (pc, .astore i, len, v0, a, b, p, q)) (hi : i < ls.length) (hs : ai_st false i (.ref v) 0 ls = ls1) (z : Rk X M (k + 1) ls1 (st) (h) P) : Rk X M k ls (.ref v :: st) h P :=
  rk_one hr rfl (by subst hs; simp only [ai_stp]; rw [if_pos hi]) z
theorem rk_iinc {pc len a b p q : Nat} {v0 : Value} {i : Nat} {n : Int} {v w : Int32} {ls1 : ai_L}  (hr : (ai_mR M)[k]? = some (pc, .iinc i n, len, v0, a, b, p, q)) (hl : ls[i]? = some (some (.int v))) (hw : v + Int32.ofInt n = w) (hs : ai_st false i (.int w) 0 ls = ls1) (z : Rk X M (k + 1) ls1 (st) (h) P) : Rk X M k ls (st) h P :=
  rk_one hr rfl (by subst hs; subst hw; simp only [ai_stp, hl]) z
theorem rk_iadd {pc len a b p q : Nat} {v0 : Value} {x y v : Int32}  (hr : (ai_mR M)[k]? = some (pc, .iadd, len, v0, a, b, p, q)) (hv : x + y = v) (z : Rk X M (k + 1) ls (.int v :: st) (h) P) : Rk X M k ls (.int y :: .int x :: st) h P :=
  rk_one hr rfl (by subst hv; rfl) z
theorem rk_isub {pc len a b p q : Nat} {v0 : Value} {x y v : Int32}  (hr : (ai_mR M)[k]? = some (pc, .isub, len, v0, a, b, p, q)) (hv : x - y = v) (z : Rk X M (k + 1) ls (.int v :: st) (h) P) : Rk X M k ls (.int y :: .int x :: st) h P :=
  rk_one hr rfl (by subst hv; rfl) z
theorem rk_imul {pc len a b p q : Nat} {v0 : Value} {x y v : Int32}  (hr : (ai_mR M)[k]? = some (pc, .imul, len, v0, a, b, p, q)) (hv : x * y = v) (z : Rk X M (k + 1) ls (.int v :: st) (h) P) : Rk X M k ls (.int y :: .int x :: st) h P :=
  rk_one hr rfl (by subst hv; rfl) z
theorem rk_iand {pc len a b p q : Nat} {v0 : Value} {x y v : Int32}  (hr : (ai_mR M)[k]? = some (pc, .iand, len, v0, a, b, p, q)) (hv : x &&& y = v) (z : Rk X M (k + 1) ls (.int v :: st) (h) P) : Rk X M k ls (.int y :: .int x :: st) h P :=
  rk_one hr rfl (by subst hv; rfl) z
theorem rk_ior {pc len a b p q : Nat} {v0 : Value} {x y v : Int32}  (hr : (ai_mR M)[k]? = some (pc, .ior, len, v0, a, b, p, q)) (hv : x ||| y = v) (z : Rk X M (k + 1) ls (.int v :: st) (h) P) : Rk X M k ls (.int y :: .int x :: st) h P :=
  rk_one hr rfl (by subst hv; rfl) z
theorem rk_ixor {pc len a b p q : Nat} {v0 : Value} {x y v : Int32}  (hr : (ai_mR M)[k]? = some (pc, .ixor, len, v0, a, b, p, q)) (hv : x ^^^ y = v) (z : Rk X M (k + 1) ls (.int v :: st) (h) P) : Rk X M k ls (.int y :: .int x :: st) h P :=
  rk_one hr rfl (by subst hv; rfl) z
theorem rk_ishl {pc len a b p q : Nat} {v0 : Value} {x y v : Int32}  (hr : (ai_mR M)[k]? = some (pc, .ishl, len, v0, a, b, p, q)) (hv : x <<< (y &&& 31) = v) (z : Rk X M (k + 1) ls (.int v :: st) (h) P) : Rk X M k ls (.int y :: .int x :: st) h P :=
  rk_one hr rfl (by subst hv; rfl) z
theorem rk_ishr {pc len a b p q : Nat} {v0 : Value} {x y v : Int32}  (hr : (ai_mR M)[k]? = some (pc, .ishr, len, v0, a, b, p, q)) (hv : x >>> (y &&& 31) = v) (z : Rk X M (k + 1) ls (.int v :: st) (h) P) : Rk X M k ls (.int y :: .int x :: st) h P :=
  rk_one hr rfl (by subst hv; rfl) z
theorem rk_iushr {pc len a b p q : Nat} {v0 : Value} {x y v : Int32}  (hr : (ai_mR M)[k]? = some (pc, .iushr, len, v0, a, b, p, q)) (hv : (x.toUInt32 >>> (y.toUInt32 &&& Int32.toUInt32 31)).toInt32 = v) (z : Rk X M (k + 1) ls (.int v :: st) (h) P) : Rk X M k ls (.int y :: .int x :: st) h P :=
  rk_one hr rfl (by subst hv; rfl) z
theorem rk_idiv {pc len a b p q : Nat} {v0 : Value} {x y v : Int32}  (hr : (ai_mR M)[k]? = some (pc, .idiv, len, v0, a, b, p, q)) (h0 : ¬ y = 0) (hv : x / y = v) (z : Rk X M (k + 1) ls (.int v :: st) (h) P) : Rk X M k ls (.int y :: .int x :: st) h P :=
  rk_one hr rfl (by subst hv; simp only [ai_stp]; rw [if_neg h0]) z
theorem rk_irem {pc len a b p q : Nat} {v0 : Value} {x y v : Int32}  (hr : (ai_mR M)[k]? = some (pc, .irem, len, v0, a, b, p, q)) (h0 : ¬ y = 0) (hv : x - x / y * y = v) (z : Rk X M (k + 1) ls (.int v :: st) (h) P) : Rk X M k ls (.int y :: .int x :: st) h P :=
  rk_one hr rfl (by subst hv; simp only [ai_stp]; rw [if_neg h0]) z
theorem rk_ladd {pc len a b p q : Nat} {v0 : Value} {x y v : Int64}  (hr : (ai_mR M)[k]? = some (pc, .ladd, len, v0, a, b, p, q)) (hv : x + y = v) (z : Rk X M (k + 1) ls (.long v :: st) (h) P) : Rk X M k ls (.long y :: .long x :: st) h P :=
  rk_one hr rfl (by subst hv; rfl) z
theorem rk_lmul {pc len a b p q : Nat} {v0 : Value} {x y v : Int64}  (hr : (ai_mR M)[k]? = some (pc, .lmul, len, v0, a, b, p, q)) (hv : x * y = v) (z : Rk X M (k + 1) ls (.long v :: st) (h) P) : Rk X M k ls (.long y :: .long x :: st) h P :=
  rk_one hr rfl (by subst hv; rfl) z
theorem rk_land {pc len a b p q : Nat} {v0 : Value} {x y v : Int64}  (hr : (ai_mR M)[k]? = some (pc, .land, len, v0, a, b, p, q)) (hv : x &&& y = v) (z : Rk X M (k + 1) ls (.long v :: st) (h) P) : Rk X M k ls (.long y :: .long x :: st) h P :=
  rk_one hr rfl (by subst hv; rfl) z
theorem rk_lor {pc len a b p q : Nat} {v0 : Value} {x y v : Int64}  (hr : (ai_mR M)[k]? = some (pc, .lor, len, v0, a, b, p, q)) (hv : x ||| y = v) (z : Rk X M (k + 1) ls (.long v :: st) (h) P) : Rk X M k ls (.long y :: .long x :: st) h P :=
  rk_one hr rfl (by subst hv; rfl) z
theorem rk_ldiv {pc len a b p q : Nat} {v0 : Value} {x y v : Int64}  (hr : (ai_mR M)[k]? = some (pc, .ldiv, len, v0, a, b, p, q)) (h0 : ¬ y = 0) (hv : x / y = v) (z : Rk X M (k + 1) ls (.long v :: st) (h) P) : Rk X M k ls (.long y :: .long x :: st) h P :=
  rk_one hr rfl (by subst hv; simp only [ai_stp]; rw [if_neg h0]) z
theorem rk_lrem {pc len a b p q : Nat} {v0 : Value} {x y v : Int64}  (hr : (ai_mR M)[k]? = some (pc, .lrem, len, v0, a, b, p, q)) (h0 : ¬ y = 0) (hv : x - x / y * y = v) (z : Rk X M (k + 1) ls (.long v :: st) (h) P) : Rk X M k ls (.long y :: .long x :: st) h P :=
  rk_one hr rfl (by subst hv; simp only [ai_stp]; rw [if_neg h0]) z
theorem rk_lshl {pc len a b p q : Nat} {v0 : Value} {x v : Int64} {y : Int32}  (hr : (ai_mR M)[k]? = some (pc, .lshl, len, v0, a, b, p, q)) (hv : x <<< (y.toInt64 &&& 63) = v) (z : Rk X M (k + 1) ls (.long v :: st) (h) P) : Rk X M k ls (.int y :: .long x :: st) h P :=
  rk_one hr rfl (by subst hv; rfl) z
theorem rk_lushr {pc len a b p q : Nat} {v0 : Value} {x v : Int64} {y : Int32}  (hr : (ai_mR M)[k]? = some (pc, .lushr, len, v0, a, b, p, q)) (hv : (x.toUInt64 >>> (y.toInt64.toUInt64 &&& Int64.toUInt64 63)).toInt64 = v) (z : Rk X M (k + 1) ls (.long v :: st) (h) P) : Rk X M k ls (.int y :: .long x :: st) h P :=
  rk_one hr rfl (by subst hv; rfl) z
theorem rk_lcmp {pc len a b p q : Nat} {v0 : Value} {x y : Int64} {v : Int32}  (hr : (ai_mR M)[k]? = some (pc, .lcmp, len, v0, a, b, p, q)) (hv : lg_cmp x y = v) (z : Rk X M (k + 1) ls (.int v :: st) (h) P) : Rk X M k ls (.long y :: .long x :: st) h P :=
  rk_one hr rfl (by subst hv; rfl) z
theorem rk_i2l {pc len a b p q : Nat} {v0 : Value} {x : Int32} {v : Int64}  (hr : (ai_mR M)[k]? = some (pc, .i2l, len, v0, a, b, p, q)) (hv : x.toInt64 = v) (z : Rk X M (k + 1) ls (.long v :: st) (h) P) : Rk X M k ls (.int x :: st) h P :=
  rk_one hr rfl (by subst hv; rfl) z
theorem rk_l2i {pc len a b p q : Nat} {v0 : Value} {x : Int64} {v : Int32}  (hr : (ai_mR M)[k]? = some (pc, .l2i, len, v0, a, b, p, q)) (hv : x.toInt32 = v) (z : Rk X M (k + 1) ls (.int v :: st) (h) P) : Rk X M k ls (.long x :: st) h P :=
  rk_one hr rfl (by subst hv; rfl) z
theorem rk_i2b {pc len a b p q : Nat} {v0 : Value} {x v : Int32}  (hr : (ai_mR M)[k]? = some (pc, .i2b, len, v0, a, b, p, q)) (hv : x.toInt8.toInt32 = v) (z : Rk X M (k + 1) ls (.int v :: st) (h) P) : Rk X M k ls (.int x :: st) h P :=
  rk_one hr rfl (by subst hv; rfl) z
theorem rk_i2s {pc len a b p q : Nat} {v0 : Value} {x v : Int32}  (hr : (ai_mR M)[k]? = some (pc, .i2s, len, v0, a, b, p, q)) (hv : x.toInt16.toInt32 = v) (z : Rk X M (k + 1) ls (.int v :: st) (h) P) : Rk X M k ls (.int x :: st) h P :=
  rk_one hr rfl (by subst hv; rfl) z
theorem rk_dup_i {pc len a b p q : Nat} {v0 : Value} {x : Int32}  (hr : (ai_mR M)[k]? = some (pc, .dup, len, v0, a, b, p, q)) (z : Rk X M (k + 1) ls (.int x :: .int x :: st) (h) P) : Rk X M k ls (.int x :: st) h P :=
  rk_one hr rfl (rfl) z
theorem rk_dup_a {pc len a b p q : Nat} {v0 : Value} {x : Nat}  (hr : (ai_mR M)[k]? = some (pc, .dup, len, v0, a, b, p, q)) (z : Rk X M (k + 1) ls (.ref x :: .ref x :: st) (h) P) : Rk X M k ls (.ref x :: st) h P :=
  rk_one hr rfl (rfl) z
theorem rk_dup2 {pc len a b p q : Nat} {v0 : Value} {y : Int32} {x : Nat}  (hr : (ai_mR M)[k]? = some (pc, .dup2, len, v0, a, b, p, q)) (z : Rk X M (k + 1) ls (.int y :: .ref x :: .int y :: .ref x :: st) (h) P) : Rk X M k ls (.int y :: .ref x :: st) h P :=
  rk_one hr rfl (rfl) z
theorem rk_pop {pc len a b p q : Nat} {v0 : Value} {x : Int32}  (hr : (ai_mR M)[k]? = some (pc, .pop, len, v0, a, b, p, q)) (z : Rk X M (k + 1) ls (st) (h) P) : Rk X M k ls (.int x :: st) h P :=
  rk_one hr rfl (rfl) z
theorem rk_pop2 {pc len a b p q : Nat} {v0 : Value} {x : Int64}  (hr : (ai_mR M)[k]? = some (pc, .pop2, len, v0, a, b, p, q)) (z : Rk X M (k + 1) ls (st) (h) P) : Rk X M k ls (.long x :: st) h P :=
  rk_one hr rfl (rfl) z
theorem rk_goto {pc len a b p q : Nat} {v0 : Value} {off : Int} (hr : (ai_mR M)[k]? = some (pc, .goto off, len, v0, a, b, p, q)) (ht : ((ai_mR M)[a]?).map (fun r => (r.1 : Int)) = some ((pc : Int) + off)) (z : Rk X M a ls st h P) : Rk X M k ls st h P :=
  rk_one hr rfl (by simp only [ai_stp, rk_tg ht]) z
theorem rk_icmp_eq {pc len a b p q : Nat} {v0 : Value} {off : Int} {x y : Int32} (hr : (ai_mR M)[k]? = some (pc, .if_icmp .eq off, len, v0, a, b, p, q)) (ht : ((ai_mR M)[a]?).map (fun r => (r.1 : Int)) = some ((pc : Int) + off)) (zt : x = y → Rk X M a ls st h P) (zf : ¬ (x = y) → Rk X M (k + 1) ls st h P) : Rk X M k ls (.int y :: .int x :: st) h P := by
  by_cases hc : x = y
  · exact rk_one hr rfl (by simp only [ai_stp, ai_br, rk_tg ht]; rw [if_pos hc]) (zt hc)
  · exact rk_one hr rfl (by simp only [ai_stp, ai_br, rk_tg ht]; rw [if_neg hc]) (zf hc)
theorem rk_icmp_ne {pc len a b p q : Nat} {v0 : Value} {off : Int} {x y : Int32} (hr : (ai_mR M)[k]? = some (pc, .if_icmp .ne off, len, v0, a, b, p, q)) (ht : ((ai_mR M)[a]?).map (fun r => (r.1 : Int)) = some ((pc : Int) + off)) (zt : ¬ x = y → Rk X M a ls st h P) (zf : ¬ (¬ x = y) → Rk X M (k + 1) ls st h P) : Rk X M k ls (.int y :: .int x :: st) h P := by
  by_cases hc : ¬ x = y
  · exact rk_one hr rfl (by simp only [ai_stp, ai_br, rk_tg ht]; rw [if_pos hc]) (zt hc)
  · exact rk_one hr rfl (by simp only [ai_stp, ai_br, rk_tg ht]; rw [if_neg hc]) (zf hc)
theorem rk_icmp_lt {pc len a b p q : Nat} {v0 : Value} {off : Int} {x y : Int32} (hr : (ai_mR M)[k]? = some (pc, .if_icmp .lt off, len, v0, a, b, p, q)) (ht : ((ai_mR M)[a]?).map (fun r => (r.1 : Int)) = some ((pc : Int) + off)) (zt : x < y → Rk X M a ls st h P) (zf : ¬ (x < y) → Rk X M (k + 1) ls st h P) : Rk X M k ls (.int y :: .int x :: st) h P := by
  by_cases hc : x < y
  · exact rk_one hr rfl (by simp only [ai_stp, ai_br, rk_tg ht]; rw [if_pos hc]) (zt hc)
  · exact rk_one hr rfl (by simp only [ai_stp, ai_br, rk_tg ht]; rw [if_neg hc]) (zf hc)
theorem rk_icmp_ge {pc len a b p q : Nat} {v0 : Value} {off : Int} {x y : Int32} (hr : (ai_mR M)[k]? = some (pc, .if_icmp .ge off, len, v0, a, b, p, q)) (ht : ((ai_mR M)[a]?).map (fun r => (r.1 : Int)) = some ((pc : Int) + off)) (zt : y ≤ x → Rk X M a ls st h P) (zf : ¬ (y ≤ x) → Rk X M (k + 1) ls st h P) : Rk X M k ls (.int y :: .int x :: st) h P := by
  by_cases hc : y ≤ x
  · exact rk_one hr rfl (by simp only [ai_stp, ai_br, rk_tg ht]; rw [if_pos hc]) (zt hc)
  · exact rk_one hr rfl (by simp only [ai_stp, ai_br, rk_tg ht]; rw [if_neg hc]) (zf hc)
theorem rk_icmp_gt {pc len a b p q : Nat} {v0 : Value} {off : Int} {x y : Int32} (hr : (ai_mR M)[k]? = some (pc, .if_icmp .gt off, len, v0, a, b, p, q)) (ht : ((ai_mR M)[a]?).map (fun r => (r.1 : Int)) = some ((pc : Int) + off)) (zt : y < x → Rk X M a ls st h P) (zf : ¬ (y < x) → Rk X M (k + 1) ls st h P) : Rk X M k ls (.int y :: .int x :: st) h P := by
  by_cases hc : y < x
  · exact rk_one hr rfl (by simp only [ai_stp, ai_br, rk_tg ht]; rw [if_pos hc]) (zt hc)
  · exact rk_one hr rfl (by simp only [ai_stp, ai_br, rk_tg ht]; rw [if_neg hc]) (zf hc)
theorem rk_icmp_le {pc len a b p q : Nat} {v0 : Value} {off : Int} {x y : Int32} (hr : (ai_mR M)[k]? = some (pc, .if_icmp .le off, len, v0, a, b, p, q)) (ht : ((ai_mR M)[a]?).map (fun r => (r.1 : Int)) = some ((pc : Int) + off)) (zt : x ≤ y → Rk X M a ls st h P) (zf : ¬ (x ≤ y) → Rk X M (k + 1) ls st h P) : Rk X M k ls (.int y :: .int x :: st) h P := by
  by_cases hc : x ≤ y
  · exact rk_one hr rfl (by simp only [ai_stp, ai_br, rk_tg ht]; rw [if_pos hc]) (zt hc)
  · exact rk_one hr rfl (by simp only [ai_stp, ai_br, rk_tg ht]; rw [if_neg hc]) (zf hc)
theorem rk_if_eq {pc len a b p q : Nat} {v0 : Value} {off : Int} {x : Int32} (hr : (ai_mR M)[k]? = some (pc, .ifCond .eq off, len, v0, a, b, p, q)) (ht : ((ai_mR M)[a]?).map (fun r => (r.1 : Int)) = some ((pc : Int) + off)) (zt : x = 0 → Rk X M a ls st h P) (zf : ¬ (x = 0) → Rk X M (k + 1) ls st h P) : Rk X M k ls (.int x :: st) h P := by
  by_cases hc : x = 0
  · exact rk_one hr rfl (by simp only [ai_stp, ai_br, rk_tg ht]; rw [if_pos hc]) (zt hc)
  · exact rk_one hr rfl (by simp only [ai_stp, ai_br, rk_tg ht]; rw [if_neg hc]) (zf hc)
theorem rk_if_ne {pc len a b p q : Nat} {v0 : Value} {off : Int} {x : Int32} (hr : (ai_mR M)[k]? = some (pc, .ifCond .ne off, len, v0, a, b, p, q)) (ht : ((ai_mR M)[a]?).map (fun r => (r.1 : Int)) = some ((pc : Int) + off)) (zt : ¬ x = 0 → Rk X M a ls st h P) (zf : ¬ (¬ x = 0) → Rk X M (k + 1) ls st h P) : Rk X M k ls (.int x :: st) h P := by
  by_cases hc : ¬ x = 0
  · exact rk_one hr rfl (by simp only [ai_stp, ai_br, rk_tg ht]; rw [if_pos hc]) (zt hc)
  · exact rk_one hr rfl (by simp only [ai_stp, ai_br, rk_tg ht]; rw [if_neg hc]) (zf hc)
theorem rk_if_lt {pc len a b p q : Nat} {v0 : Value} {off : Int} {x : Int32} (hr : (ai_mR M)[k]? = some (pc, .ifCond .lt off, len, v0, a, b, p, q)) (ht : ((ai_mR M)[a]?).map (fun r => (r.1 : Int)) = some ((pc : Int) + off)) (zt : x < 0 → Rk X M a ls st h P) (zf : ¬ (x < 0) → Rk X M (k + 1) ls st h P) : Rk X M k ls (.int x :: st) h P := by
  by_cases hc : x < 0
  · exact rk_one hr rfl (by simp only [ai_stp, ai_br, rk_tg ht]; rw [if_pos hc]) (zt hc)
  · exact rk_one hr rfl (by simp only [ai_stp, ai_br, rk_tg ht]; rw [if_neg hc]) (zf hc)
theorem rk_if_ge {pc len a b p q : Nat} {v0 : Value} {off : Int} {x : Int32} (hr : (ai_mR M)[k]? = some (pc, .ifCond .ge off, len, v0, a, b, p, q)) (ht : ((ai_mR M)[a]?).map (fun r => (r.1 : Int)) = some ((pc : Int) + off)) (zt : 0 ≤ x → Rk X M a ls st h P) (zf : ¬ (0 ≤ x) → Rk X M (k + 1) ls st h P) : Rk X M k ls (.int x :: st) h P := by
  by_cases hc : 0 ≤ x
  · exact rk_one hr rfl (by simp only [ai_stp, ai_br, rk_tg ht]; rw [if_pos hc]) (zt hc)
  · exact rk_one hr rfl (by simp only [ai_stp, ai_br, rk_tg ht]; rw [if_neg hc]) (zf hc)
theorem rk_if_gt {pc len a b p q : Nat} {v0 : Value} {off : Int} {x : Int32} (hr : (ai_mR M)[k]? = some (pc, .ifCond .gt off, len, v0, a, b, p, q)) (ht : ((ai_mR M)[a]?).map (fun r => (r.1 : Int)) = some ((pc : Int) + off)) (zt : 0 < x → Rk X M a ls st h P) (zf : ¬ (0 < x) → Rk X M (k + 1) ls st h P) : Rk X M k ls (.int x :: st) h P := by
  by_cases hc : 0 < x
  · exact rk_one hr rfl (by simp only [ai_stp, ai_br, rk_tg ht]; rw [if_pos hc]) (zt hc)
  · exact rk_one hr rfl (by simp only [ai_stp, ai_br, rk_tg ht]; rw [if_neg hc]) (zf hc)
theorem rk_if_le {pc len a b p q : Nat} {v0 : Value} {off : Int} {x : Int32} (hr : (ai_mR M)[k]? = some (pc, .ifCond .le off, len, v0, a, b, p, q)) (ht : ((ai_mR M)[a]?).map (fun r => (r.1 : Int)) = some ((pc : Int) + off)) (zt : x ≤ 0 → Rk X M a ls st h P) (zf : ¬ (x ≤ 0) → Rk X M (k + 1) ls st h P) : Rk X M k ls (.int x :: st) h P := by
  by_cases hc : x ≤ 0
  · exact rk_one hr rfl (by simp only [ai_stp, ai_br, rk_tg ht]; rw [if_pos hc]) (zt hc)
  · exact rk_one hr rfl (by simp only [ai_stp, ai_br, rk_tg ht]; rw [if_neg hc]) (zf hc)
theorem rk_ifnull_r {pc len a b p q : Nat} {v0 : Value} {off : Int} {x : Nat} (hr : (ai_mR M)[k]? = some (pc, .ifnull off, len, v0, a, b, p, q)) (z : Rk X M (k + 1) ls st h P) : Rk X M k ls (.ref x :: st) h P :=
  rk_one hr rfl rfl z
theorem rk_ifnull_n {pc len a b p q : Nat} {v0 : Value} {off : Int} (hr : (ai_mR M)[k]? = some (pc, .ifnull off, len, v0, a, b, p, q)) (ht : ((ai_mR M)[a]?).map (fun r => (r.1 : Int)) = some ((pc : Int) + off)) (z : Rk X M a ls st h P) : Rk X M k ls (.null :: st) h P :=
  rk_one hr rfl (by simp only [ai_stp, rk_tg ht]) z
theorem rk_ifnn_n {pc len a b p q : Nat} {v0 : Value} {off : Int} (hr : (ai_mR M)[k]? = some (pc, .ifnonnull off, len, v0, a, b, p, q)) (z : Rk X M (k + 1) ls st h P) : Rk X M k ls (.null :: st) h P :=
  rk_one hr rfl rfl z
theorem rk_ifnn_r {pc len a b p q : Nat} {v0 : Value} {off : Int} {x : Nat} (hr : (ai_mR M)[k]? = some (pc, .ifnonnull off, len, v0, a, b, p, q)) (ht : ((ai_mR M)[a]?).map (fun r => (r.1 : Int)) = some ((pc : Int) + off)) (z : Rk X M a ls st h P) : Rk X M k ls (.ref x :: st) h P :=
  rk_one hr rfl (by simp only [ai_stp, rk_tg ht]) z
theorem rk_tf {pc j : Nat} {off : Int} (hj : (ai_mR M).dropWhile (fun r => !decide ((pc : Int) + off = (r.1 : Int))) = (ai_mR M).drop j) (ht : ((ai_mR M)[j]?).map (fun r => (r.1 : Int)) = some ((pc : Int) + off)) : ai_tf (ai_mR M) pc off = some ((ai_mR M).drop j) := by
  obtain ⟨r, hr, he⟩ := Option.map_eq_some_iff.mp ht
  rw [ai_tf, hj, rk_drop hr]
  simp only
  rw [if_pos he.symm]
theorem rk_sw_out {pc len a b p q : Nat} {v0 : Value} {d lo hi : Int} {offs : Array Int} {x : Int32} {j : Nat} (hr : (ai_mR M)[k]? = some (pc, .tableswitch d lo hi offs, len, v0, a, b, p, q)) (hx : x.toInt < lo ∨ hi < x.toInt) (hj : (ai_mR M).dropWhile (fun r => !decide ((pc : Int) + d = (r.1 : Int))) = (ai_mR M).drop j) (ht : ((ai_mR M)[j]?).map (fun r => (r.1 : Int)) = some ((pc : Int) + d)) (z : Rk X M j ls st h P) : Rk X M k ls (.int x :: st) h P :=
  rk_one hr rfl (by simp only [ai_stp]; rw [if_pos hx, rk_tf hj ht]) z
theorem rk_sw_in {pc len a b p q : Nat} {v0 : Value} {d lo hi off : Int} {offs : Array Int} {x : Int32} {j : Nat} (hr : (ai_mR M)[k]? = some (pc, .tableswitch d lo hi offs, len, v0, a, b, p, q)) (hx : ¬ (x.toInt < lo ∨ hi < x.toInt)) (ho : offs[(x.toInt - lo).toNat]? = some off) (hj : (ai_mR M).dropWhile (fun r => !decide ((pc : Int) + off = (r.1 : Int))) = (ai_mR M).drop j) (ht : ((ai_mR M)[j]?).map (fun r => (r.1 : Int)) = some ((pc : Int) + off)) (z : Rk X M j ls st h P) : Rk X M k ls (.int x :: st) h P :=
  rk_one hr rfl (by simp only [ai_stp]; rw [if_neg hx]; simp only [ho, rk_tf hj ht]) z
theorem rk_get {pc len c f p q i ad : Nat} {v0 v : Value} {fs : List Value} (hr : (ai_mR M)[k]? = some (pc, .getfield i, len, v0, c, f, p, q)) (hh : h[ad]? = some (.inr (c, fs))) (hf : fs[f]? = some v) (z : Rk X M (k + 1) ls (v :: st) h P) : Rk X M k ls (.ref ad :: st) h P :=
  rk_one hr rfl (by simp only [ai_stp, hh]; rw [if_pos trivial]; simp only [hf]) z
theorem rk_put {pc len c f p q i ad : Nat} {v0 v : Value} {fs fs1 : List Value} {ty : FieldType} (hr : (ai_mR M)[k]? = some (pc, .putfield i, len, v0, c, f, p, q)) (hh : h[ad]? = some (.inr (c, fs))) (hl : f < fs.length) (hty : ai_fty c f = some ty) (hfit : ai_fit ty v = true) (hfin : ai_ffin c f = false ∨ ((ai_mY M).name = "<init>" ∧ c = ai_mC M)) (hs : fs.set f v = fs1) (z : Rk X M (k + 1) ls st (h.set ad (.inr (c, fs1))) P) : Rk X M k ls (v :: .ref ad :: st) h P := by
  subst hs
  refine rk_one hr rfl ?_ z
  simp only [ai_stp, hh]
  rw [if_pos ⟨trivial, hl⟩]
  simp only [hty]
  rw [if_pos ⟨hfit, hfin⟩]
theorem rk_alen {pc len a b p q : Nat} {v0 : Value} {ad t : Nat} {x : vp_A} {w : Int32} (hr : (ai_mR M)[k]? = some (pc, .arraylength, len, v0, a, b, p, q)) (hh : h[ad]? = some (.inl (t, x))) (ht : t < 6) (hw : Int32.ofNat x.1 = w) (z : Rk X M (k + 1) ls (.int w :: st) h P) : Rk X M k ls (.ref ad :: st) h P :=
  rk_one hr rfl (by subst hw; simp only [ai_stp, hh]; rw [if_pos ht]) z
theorem rk_iald {pc len a b p q : Nat} {v0 : Value} {ad n j : Nat} {f : Nat → Int32} {i : Int32} (hr : (ai_mR M)[k]? = some (pc, .iaload, len, v0, a, b, p, q)) (hh : h[ad]? = some (.inl (0, n, .inl f))) (hi : i = nI j) (hj : j < n) (hn : n < 2 ^ 31) (z : Rk X M (k + 1) ls (.int (f j) :: st) h P) : Rk X M k ls (.int i :: .ref ad :: st) h P := by
  subst hi
  have hc : (nI j).toNatClampNeg = j := nI_clamp (by omega)
  refine rk_one hr rfl ?_ z
  simp only [ai_stp, hh]
  rw [if_neg (nI_in hj hn), hc]
theorem rk_lald {pc len a b p q : Nat} {v0 : Value} {ad n j : Nat} {f : Nat → Int64} {i : Int32} (hr : (ai_mR M)[k]? = some (pc, .laload, len, v0, a, b, p, q)) (hh : h[ad]? = some (.inl (1, n, .inr (.inl f)))) (hi : i = nI j) (hj : j < n) (hn : n < 2 ^ 31) (z : Rk X M (k + 1) ls (.long (f j) :: st) h P) : Rk X M k ls (.int i :: .ref ad :: st) h P := by
  subst hi
  have hc : (nI j).toNatClampNeg = j := nI_clamp (by omega)
  refine rk_one hr rfl ?_ z
  simp only [ai_stp, hh]
  rw [if_neg (nI_in hj hn), hc]
theorem rk_zald {pc len a b p q : Nat} {v0 : Value} {ad n j : Nat} {f : Nat → Int32} {i : Int32} (hr : (ai_mR M)[k]? = some (pc, .baload, len, v0, a, b, p, q)) (hh : h[ad]? = some (.inl (2, n, .inl f))) (hi : i = nI j) (hj : j < n) (hn : n < 2 ^ 31) (z : Rk X M (k + 1) ls (.int (f j) :: st) h P) : Rk X M k ls (.int i :: .ref ad :: st) h P := by
  subst hi
  have hc : (nI j).toNatClampNeg = j := nI_clamp (by omega)
  refine rk_one hr rfl ?_ z
  simp only [ai_stp, hh]
  rw [if_neg (nI_in hj hn), hc]
theorem rk_iast {pc len a b p q : Nat} {v0 : Value} {ad n j : Nat} {f : Nat → Int32} {i : Int32} {x : Int32} (hr : (ai_mR M)[k]? = some (pc, .iastore, len, v0, a, b, p, q)) (hh : h[ad]? = some (.inl (0, n, .inl f))) (hi : i = nI j) (hj : j < n) (hn : n < 2 ^ 31) (z : Rk X M (k + 1) ls st (h.set ad (.inl (0, n, .inl (upd f j x)))) P) : Rk X M k ls (.int x :: .int i :: .ref ad :: st) h P := by
  subst hi
  have hc : (nI j).toNatClampNeg = j := nI_clamp (by omega)
  refine rk_one hr rfl ?_ z
  simp only [ai_stp, hh]
  rw [if_neg (nI_in hj hn), hc]
theorem rk_last {pc len a b p q : Nat} {v0 : Value} {ad n j : Nat} {f : Nat → Int64} {i : Int32} {x : Int64} (hr : (ai_mR M)[k]? = some (pc, .lastore, len, v0, a, b, p, q)) (hh : h[ad]? = some (.inl (1, n, .inr (.inl f)))) (hi : i = nI j) (hj : j < n) (hn : n < 2 ^ 31) (z : Rk X M (k + 1) ls st (h.set ad (.inl (1, n, .inr (.inl (vp_updL f j x))))) P) : Rk X M k ls (.long x :: .int i :: .ref ad :: st) h P := by
  subst hi
  have hc : (nI j).toNatClampNeg = j := nI_clamp (by omega)
  refine rk_one hr rfl ?_ z
  simp only [ai_stp, hh]
  rw [if_neg (nI_in hj hn), hc]
theorem rk_zast {pc len a b p q : Nat} {v0 : Value} {ad n j : Nat} {f : Nat → Int32} {i : Int32} {x : Int32} (hr : (ai_mR M)[k]? = some (pc, .bastore, len, v0, a, b, p, q)) (hh : h[ad]? = some (.inl (2, n, .inl f))) (hi : i = nI j) (hj : j < n) (hn : n < 2 ^ 31) (z : Rk X M (k + 1) ls st (h.set ad (.inl (2, n, .inl (upd f j (vp_nar .boolean x))))) P) : Rk X M k ls (.int x :: .int i :: .ref ad :: st) h P := by
  subst hi
  have hc : (nI j).toNatClampNeg = j := nI_clamp (by omega)
  refine rk_one hr rfl ?_ z
  simp only [ai_stp, hh]
  rw [if_neg (nI_in hj hn), hc]
theorem rk_aald {pc len a b p q : Nat} {v0 : Value} {ad n j t : Nat} {f : Nat → Option Nat} {i : Int32} {w : Value} (hr : (ai_mR M)[k]? = some (pc, .aaload, len, v0, a, b, p, q)) (hh : h[ad]? = some (.inl (t, n, .inr (.inr (.inr (.inr f)))))) (ht : 3 ≤ t ∧ t < 6) (hi : i = nI j) (hj : j < n) (hn : n < 2 ^ 31) (hw : va_rf (f j) = w) (z : Rk X M (k + 1) ls (w :: st) h P) : Rk X M k ls (.int i :: .ref ad :: st) h P := by
  subst hi
  subst hw
  have hc : (nI j).toNatClampNeg = j := nI_clamp (by omega)
  refine rk_one hr rfl ?_ z
  simp only [ai_stp, hh]
  rw [if_neg, hc]
  intro w
  rcases w with w | w | w | w
  · exact nI_in hj hn (Or.inl w)
  · exact nI_in hj hn (Or.inr w)
  · omega
  · omega
theorem rk_aast {pc len a b p q : Nat} {v0 : Value} {ad n j t v c : Nat} {f : Nat → Option Nat} {fs : List Value} {i : Int32} {C : String} {qc : vw_C} (hr : (ai_mR M)[k]? = some (pc, .aastore, len, v0, a, b, p, q)) (hh : h[ad]? = some (.inl (t, n, .inr (.inr (.inr (.inr f)))))) (hv : h[v]? = some (.inr (c, fs))) (ht : ai_ty[t]? = some (.object C)) (hc : ai_cl[c]? = some qc) (hC : C = qc.1) (hi : i = nI j) (hj : j < n) (hn : n < 2 ^ 31) (z : Rk X M (k + 1) ls st (h.set ad (.inl (t, n, .inr (.inr (.inr (.inr (va_up f j (some v)))))))) P) : Rk X M k ls (.ref v :: .int i :: .ref ad :: st) h P := by
  subst hi
  have hcl : (nI j).toNatClampNeg = j := nI_clamp (by omega)
  refine rk_one hr rfl ?_ z
  simp only [ai_stp, hh, hv]
  rw [if_neg (nI_in hj hn)]
  simp only [ht, hc]
  rw [if_pos hC, hcl]
theorem rk_slen {pc len a b p q : Nat} {v0 : Value} (hr : (ai_mR M)[k]? = some (pc, .arraylength, len, v0, a, b, p, q)) (h12 : ai_mC M = 12) (z : Rk X M (k + 1) ls (.int (Int32.ofNat X.1) :: st) h P) : Rk X M k ls (.float 99 :: st) h P :=
  rk_one hr rfl (by simp only [ai_stp]; rw [if_pos ⟨trivial, h12⟩]) z
theorem rk_sald {pc len a b p q : Nat} {v0 : Value} {j : Nat} {i : Int32} (hr : (ai_mR M)[k]? = some (pc, .iaload, len, v0, a, b, p, q)) (h12 : ai_mC M = 12) (hi : i = nI j) (hj : j < X.1) (hn : X.1 < 2 ^ 31) (z : Rk X M (k + 1) ls (.int (X.2 j) :: st) h P) : Rk X M k ls (.int i :: .float 99 :: st) h P := by
  subst hi
  have hc : (nI j).toNatClampNeg = j := nI_clamp (by omega)
  refine rk_one hr rfl ?_ z
  simp only [ai_stp]
  rw [if_neg, hc]
  intro w
  rcases w with w | w | w | w
  · exact nI_in hj hn (Or.inl w)
  · exact nI_in hj hn (Or.inr w)
  · exact w rfl
  · exact w h12
theorem rk_ireturn {pc len a b p q : Nat} {v0 : Value} {v : Int32} (hr : (ai_mR M)[k]? = some (pc, .ireturn, len, v0, a, b, p, q)) (ht : ai_rok (ai_mT M) v = true) (z : P (some (.int v), h, 0, 0)) : Rk X M k ls [.int v] h P :=
  ⟨1, _, by rw [rk_drop hr]; unfold ai_run; simp only [ai_kd]; rw [if_pos ht], z⟩
theorem rk_lreturn {pc len a b p q : Nat} {v0 : Value} {v : Int64} (hr : (ai_mR M)[k]? = some (pc, .lreturn, len, v0, a, b, p, q)) (ht : ai_mT M = some .long) (z : P (some (.long v), h, 0, 0)) : Rk X M k ls [.long v] h P :=
  ⟨1, _, by rw [rk_drop hr]; unfold ai_run; simp only [ai_kd]; rw [if_pos ht], z⟩
theorem rk_return {pc len a b p q : Nat} {v0 : Value} (hr : (ai_mR M)[k]? = some (pc, .return_, len, v0, a, b, p, q)) (ht : ai_mT M = none) (z : P (none, h, 0, 0)) : Rk X M k ls [] h P :=
  ⟨1, _, by rw [rk_drop hr]; unfold ai_run; simp only [ai_kd]; rw [if_pos ht], z⟩
theorem rk_map {n : Nat} {M1 : ai_M} {s : ai_S} {c d : Nat} {o1 : ai_O} (hn : ai_run X n M1 s = some o1) : (ai_run X n M1 s).map (ai_add c d) = some (ai_add c d o1) := by rw [hn]; rfl
theorem rk_new {pc len c b p q i : Nat} {v0 : Value} {fs : List Value} (hr : (ai_mR M)[k]? = some (pc, .new i, len, v0, c, b, p, q)) (hf : ai_df[c]? = some fs) (z : Rk X M (k + 1) ls (.ref h.length :: st) (h ++ [.inr (c, fs)]) (fun o => P (ai_add 1 fs.length o))) : Rk X M k ls st h P := by
  obtain ⟨n, o, hn, hP⟩ := z
  refine ⟨n + 1, _, ?_, hP⟩
  rw [rk_drop hr]
  unfold ai_run
  simp only [ai_kd, hf]
  exact rk_map hn
theorem rk_newa {pc len a b p q t N : Nat} {v0 : Value} {ty : ArrayType} {kk : Int32} {f : (Nat → Int32) ⊕ (Nat → Int64) ⊕ (Nat → UInt32) ⊕ (Nat → UInt64) ⊕ (Nat → Option Nat)} (hr : (ai_mR M)[k]? = some (pc, .newarray ty, len, v0, a, b, p, q)) (ht : ai_at ty = t) (hf : ai_arr0 t = some f) (hk : kk = nI N) (hN : N ≤ 65536) (z : Rk X M (k + 1) ls (.ref h.length :: st) (h ++ [.inl (t, N, f)]) (fun o => P (ai_add 1 N o))) : Rk X M k ls (.int kk :: st) h P := by
  subst ht
  subst hk
  have hc : (nI N).toNatClampNeg = N := nI_clamp (by omega)
  obtain ⟨n, o, hn, hP⟩ := z
  refine ⟨n + 1, _, ?_, hP⟩
  rw [rk_drop hr]
  unfold ai_run
  simp only [ai_kd, ai_nt, hf]
  rw [if_neg, hc]
  · exact rk_map hn
  · rw [hc]
    rintro (w | w)
    · exact nI_pos (by omega) w
    · omega
theorem rk_anewa {pc len a b p q N i : Nat} {v0 : Value} {kk : Int32} (hr : (ai_mR M)[k]? = some (pc, .anewarray i, len, v0, a, b, p, q)) (ha : 3 ≤ a) (hk : kk = nI N) (hN : N ≤ 65536) (z : Rk X M (k + 1) ls (.ref h.length :: st) (h ++ [.inl (a, N, .inr (.inr (.inr (.inr (fun _ => none)))))]) (fun o => P (ai_add 1 N o))) : Rk X M k ls (.int kk :: st) h P := by
  subst hk
  have hc : (nI N).toNatClampNeg = N := nI_clamp (by omega)
  obtain ⟨n, o, hn, hP⟩ := z
  refine ⟨n + 1, _, ?_, hP⟩
  rw [rk_drop hr]
  unfold ai_run
  simp only [ai_kd]
  rw [if_neg, hc]
  · exact rk_map hn
  · rw [hc]
    rintro (w | w | w)
    · exact nI_pos (by omega) w
    · omega
    · omega
theorem rk_obj {pc len b p q i ad : Nat} {v0 : Value} (hr : (ai_mR M)[k]? = some (pc, .invokespecial i, len, v0, 4, b, p, q)) (hs : ai_sum st ≤ 8) (z : Rk X M (k + 1) ls st h P) : Rk X M k ls (.ref ad :: st) h P := by
  obtain ⟨n, o, hn, hP⟩ := z
  refine ⟨n + 1, o, ?_, hP⟩
  rw [rk_drop hr]
  unfold ai_run
  simp only [ai_kd]
  rw [if_pos trivial, if_pos hs]
  exact hn
theorem rk_copy {pc len b p q i : Nat} {v0 : Value} {t : List Value} {h1 : ai_H} (hr : (ai_mR M)[k]? = some (pc, .invokestatic i, len, v0, 5, b, p, q)) (hc : ai_cpy st h = some (t, h1)) (hs : ai_sum t ≤ 8) (z : Rk X M (k + 1) ls t h1 P) : Rk X M k ls st h P := by
  obtain ⟨n, o, hn, hP⟩ := z
  refine ⟨n + 1, o, ?_, hP⟩
  rw [rk_drop hr]
  unfold ai_run
  simp only [ai_kd]
  rw [if_neg (by decide), if_pos trivial]
  simp only [hc]
  rw [if_pos hs]
  exact hn
theorem rk_slen2 {pc len b p q i : Nat} {v0 : Value} {kk : UInt32} {t : List Value} (hr : (ai_mR M)[k]? = some (pc, .invokevirtual i, len, v0, 6, b, p, q)) (hk : kk.toNat < 11) (hs : ai_sum t ≤ 8) (z : Rk X M (k + 1) ls (.int (nI (ai_sl.getD kk.toNat 0)) :: t) h P) : Rk X M k ls (.float kk :: t) h P := by
  obtain ⟨n, o, hn, hP⟩ := z
  refine ⟨n + 1, o, ?_, hP⟩
  rw [rk_drop hr]
  unfold ai_run
  simp only [ai_kd]
  rw [if_neg (by decide), if_neg (by decide), if_pos trivial, if_pos ⟨hs, hk⟩]
  exact hn
theorem rk_schr {pc len b p q i : Nat} {v0 : Value} {kk : UInt32} {t : List Value} {x : Int32} {j : Nat} (hr : (ai_mR M)[k]? = some (pc, .invokevirtual i, len, v0, 7, b, p, q)) (hk : kk.toNat < 11) (hs : ai_sum t ≤ 8) (hx : x = nI j) (hj : j < ai_sl.getD kk.toNat 0) (hj2 : ai_sl.getD kk.toNat 0 < 2 ^ 31) (z : Rk X M (k + 1) ls (.int (ai_sc kk.toNat j) :: t) h P) : Rk X M k ls (.int x :: .float kk :: t) h P := by
  subst hx
  have hc : (nI j).toNatClampNeg = j := nI_clamp (by omega)
  obtain ⟨n, o, hn, hP⟩ := z
  refine ⟨n + 1, o, ?_, hP⟩
  rw [rk_drop hr]
  unfold ai_run
  simp only [ai_kd]
  rw [if_neg (by decide), if_neg (by decide), if_neg (by decide), if_pos trivial, if_pos ⟨hs, hk, nI_in hj hj2⟩, hc]
  exact hn
theorem rk_max {pc len b p q i : Nat} {v0 : Value} {t : List Value} {x y w : Int32} (hr : (ai_mR M)[k]? = some (pc, .invokestatic i, len, v0, 8, b, p, q)) (hs : ai_sum t ≤ 8) (hw : (if x < y then y else x) = w) (z : Rk X M (k + 1) ls (.int w :: t) h P) : Rk X M k ls (.int y :: .int x :: t) h P := by
  subst hw
  obtain ⟨n, o, hn, hP⟩ := z
  refine ⟨n + 1, o, ?_, hP⟩
  rw [rk_drop hr]
  unfold ai_run
  simp only [ai_kd]
  rw [if_neg (by decide), if_neg (by decide), if_neg (by decide), if_neg (by decide), if_pos trivial, if_pos hs]
  exact hn
theorem rk_min {pc len b p q i : Nat} {v0 : Value} {t : List Value} {x y w : Int32} (hr : (ai_mR M)[k]? = some (pc, .invokestatic i, len, v0, 9, b, p, q)) (hs : ai_sum t ≤ 8) (hw : (if y < x then y else x) = w) (z : Rk X M (k + 1) ls (.int w :: t) h P) : Rk X M k ls (.int y :: .int x :: t) h P := by
  subst hw
  obtain ⟨n, o, hn, hP⟩ := z
  refine ⟨n + 1, o, ?_, hP⟩
  rw [rk_drop hr]
  unfold ai_run
  simp only [ai_kd]
  rw [if_neg (by decide), if_neg (by decide), if_neg (by decide), if_neg (by decide), if_neg (by decide), if_pos trivial, if_pos hs]
  exact hn
theorem rk_ldcs {pc len a b p q n : Nat} {v : UInt32} (hr : (ai_mR M)[k]? = some (pc, .ldc n, len, .float v, a, b, p, q)) (hv : v.toNat < 11) (z : Rk X M (k + 1) ls (.float v :: st) h P) : Rk X M k ls st h P :=
  rk_one hr rfl (by simp only [ai_stp]; rw [if_pos hv]) z
theorem rk_call {r : ai_R} {M1 : ai_M} {av t : List Value} {P1 : ai_O → Prop} (hr : (ai_mR M)[k]? = some r) (hk : ai_kd r.2.1 = 7) (ha : r.2.2.2.2.1 < 4) (hM : ai_mt[r.2.2.2.2.2.1]? = some M1) (hav : ai_arg h r.2.2.2.2.1 M1 st = some (av, t)) (hfl : (ai_fl av).length ≤ ai_mL M1) (hs : ai_sum t ≤ 8) (hm : Mt X M1 av h P1) (z : ∀ o1 : ai_O, P1 o1 → Rk X M (k + 1) ls (o1.1.toList ++ t) o1.2.1 (fun o => P (ai_add o1.2.2.1 o1.2.2.2 o))) : Rk X M k ls st h P := by
  obtain ⟨n1, o1, hn1, hP1⟩ := hm
  obtain ⟨n, o, hn, hP⟩ := z o1 hP1
  have e1 := ai_mono (k := n1) hn
  have e2 := ai_mono (k := n) hn1
  rw [Nat.add_comm] at e2
  refine ⟨n + n1 + 1, _, ?_, hP⟩
  rw [rk_drop hr]
  unfold ai_run
  simp only [hk]
  rw [if_neg (by omega), if_neg (by omega), if_neg (by omega), if_neg (by omega), if_neg (by omega), if_neg (by omega), if_pos ha]
  simp only [hM, hav]
  rw [if_pos ⟨hfl, hs⟩]
  have e3 : ai_run X (n + n1) M1 (ai_mR M1, ai_loc (ai_mL M1) av, [], h) = some o1 := e2
  simp only [e3]
  exact rk_map e1
theorem ai_add00 (o : ai_O) : ai_add 0 0 o = o := by
  obtain ⟨a, b, c, d⟩ := o
  simp [ai_add]
theorem rk_arg {k : Nat} {M1 : ai_M} {as t fs : List Value} {ad c : Nat} (hk : k ≠ 1) (hh : h[ad]? = some (.inr (c, fs))) (hc : c = ai_mC M1) (hn : as.length = ai_mN M1) : ai_arg h k M1 (as.reverse ++ .ref ad :: t) = some (.ref ad :: as, t) := by
  have h1 : (as.reverse ++ .ref ad :: t).drop (ai_mN M1) = .ref ad :: t := by rw [← hn, ← List.length_reverse (as := as)]; exact List.drop_left
  have h2 : (as.reverse ++ .ref ad :: t).take (ai_mN M1) = as.reverse := by rw [← hn, ← List.length_reverse (as := as)]; exact List.take_left
  simp only [ai_arg, h1, h2, hh, List.reverse_reverse]
  rw [if_neg hk, if_pos hc]
theorem rk_args {M1 : ai_M} {as t : List Value} (hn : as.length = ai_mN M1) : ai_arg h 1 M1 (as.reverse ++ t) = some (as, t) := by
  have h1 : (as.reverse ++ t).drop (ai_mN M1) = t := by rw [← hn, ← List.length_reverse (as := as)]; exact List.drop_left
  have h2 : (as.reverse ++ t).take (ai_mN M1) = as.reverse := by rw [← hn, ← List.length_reverse (as := as)]; exact List.take_left
  simp only [ai_arg, h1, h2, List.reverse_reverse]
  rw [if_pos trivial, if_pos]
  rw [← hn]; simp
/-- what a method that makes no cell leaves: its answer and its heap -/
def Qi (F : Int32 → ai_H → Prop) : ai_O → Prop := fun o => ∃ w h1, o = (some (.int w), h1, 0, 0) ∧ F w h1
def Ql (F : Int64 → ai_H → Prop) : ai_O → Prop := fun o => ∃ w h1, o = (some (.long w), h1, 0, 0) ∧ F w h1
def Qv (F : ai_H → Prop) : ai_O → Prop := fun o => ∃ h1, o = (none, h1, 0, 0) ∧ F h1
/-- an answer alone -/
def Qe (v : Int32) (h : ai_H) : ai_O → Prop := Qi (fun w h1 => w = v ∧ h1 = h)
theorem Qe_mk {v : Int32} {h : ai_H} : Qe v h (some (.int v), h, 0, 0) := ⟨v, h, rfl, rfl, rfl⟩
theorem Qe_of {v w : Int32} {h : ai_H} (e : w = v) : Qe v h (some (.int w), h, 0, 0) := ⟨w, h, rfl, e, rfl⟩

end AIRULES
