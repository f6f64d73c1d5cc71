/-! SOUNDNESS, the ground: values, locals and cells of the interpreter as the machine has them -/
def ai_cv (sa : Nat → Nat) (base : Nat) : Value → Value
  | .ref i => .ref (base + i)
  | .float k => .ref (sa k.toNat)
  | v => v
theorem ai_cv_cat (sa : Nat → Nat) (base : Nat) (v : Value) : (ai_cv sa base v).category = v.category := by cases v <;> rfl
theorem ai_is2_cat (v : Value) : ai_is2 (some v) = true ↔ v.category = 2 := by cases v <;> simp [ai_is2, Value.category]
def ai_lp (f : Value → Value) : Nat → ai_L → List (Nat × Value)
  | _, [] => []
  | i, none :: t => ai_lp f (i + 1) t
  | i, some v :: t => (i, f v) :: ai_lp f (i + 1) t
theorem ai_lp_mem {f : Value → Value} : ∀ {ls : ai_L} {i j : Nat} {w : Value}, (j, w) ∈ ai_lp f i ls ↔ ∃ (k : Nat) (v : Value), j = i + k ∧ ls[k]? = some (some v) ∧ w = f v := by
  intro ls
  induction ls with
  | nil => intro i j w; simp [ai_lp]
  | cons x t ih =>
    intro i j w
    have key : ((j, w) ∈ ai_lp f (i + 1) t) ↔ ∃ (k : Nat) (v : Value), j = i + (k + 1) ∧ (x :: t)[k + 1]? = some (some v) ∧ w = f v := by
      rw [ih]
      constructor
      · rintro ⟨k, v, h1, h2, h3⟩; exact ⟨k, v, by omega, by simpa using h2, h3⟩
      · rintro ⟨k, v, h1, h2, h3⟩; exact ⟨k, v, by omega, by simpa using h2, h3⟩
    cases x with
    | none =>
      show (j, w) ∈ ai_lp f (i + 1) t ↔ _
      rw [key]
      constructor
      · rintro ⟨k, v, h⟩; exact ⟨k + 1, v, h⟩
      · rintro ⟨k, v, h1, h2, h3⟩
        cases k with
        | zero => simp at h2
        | succ k => exact ⟨k, v, h1, h2, h3⟩
    | some y =>
      show (j, w) ∈ (i, f y) :: ai_lp f (i + 1) t ↔ _
      rw [List.mem_cons, key]
      constructor
      · rintro (h | ⟨k, v, h⟩)
        · cases h; exact ⟨0, y, by simp, by simp, rfl⟩
        · exact ⟨k + 1, v, h⟩
      · rintro ⟨k, v, h1, h2, h3⟩
        cases k with
        | zero =>
          have hv : y = v := by simpa using h2
          subst hv
          left
          rw [h3, h1]; rfl
        | succ k => exact Or.inr ⟨k, v, h1, h2, h3⟩
theorem ai_st_get {two : Bool} {i : Nat} {v : Value} : ∀ {ls : ai_L} {j k : Nat}, (ai_st two i v j ls)[k]? = (ls[k]?).map (fun x => if j + k = i then some v else if two = true ∧ j + k = i + 1 then none else if j + k + 1 = i ∧ ai_is2 x = true then none else x) := by
  intro ls
  induction ls with
  | nil => intro j k; simp [ai_st]
  | cons x t ih =>
    intro j k
    cases k with
    | zero => simp [ai_st]
    | succ k =>
      simp only [ai_st, List.getElem?_cons_succ, ih]
      rw [show j + 1 + k = j + (k + 1) by omega]
theorem ai_st_len {two : Bool} {i : Nat} {v : Value} : ∀ {ls : ai_L} {j : Nat}, (ai_st two i v j ls).length = ls.length := by
  intro ls
  induction ls with
  | nil => intro j; rfl
  | cons x t ih => intro j; simp [ai_st, ih]
/-- the machine's locals hold what the interpreter's do -/
def ai_LV (sa : Nat → Nat) (base n : Nat) (ls : ai_L) (lc : Array Slot) : Prop := ls.length = n ∧ lv_has lc n (ai_lp (ai_cv sa base) 0 ls)
theorem ai_LV.at {sa : Nat → Nat} {base n : Nat} {ls : ai_L} {lc : Array Slot} (h : ai_LV sa base n ls lc) {k : Nat} {v : Value} (hk : ls[k]? = some (some v)) : lc[k]? = some (.val (ai_cv sa base v)) :=
  h.2.2.2 (k, ai_cv sa base v) (ai_lp_mem.mpr ⟨k, v, by simp, hk, rfl⟩)
theorem ai_LV.st1 {sa : Nat → Nat} {base n i : Nat} {ls : ai_L} {lc lc' : Array Slot} {v : Value} (h : ai_LV sa base n ls lc) (h' : lv_has lc' n ((i, ai_cv sa base v) :: (ai_lp (ai_cv sa base) 0 ls).filter (fun q => !(q.1 == i) && !(q.1 + 1 == i && q.2.category == 2)))) : ai_LV sa base n (ai_st false i v 0 ls) lc' := by
  refine ⟨by rw [ai_st_len]; exact h.1, h'.1, h'.2.1, ?_⟩
  rintro ⟨j, w⟩ hq
  obtain ⟨k, u, hj, hk, hw⟩ := ai_lp_mem.mp hq
  rw [ai_st_get] at hk
  rw [Nat.zero_add] at hj
  subst hj
  obtain ⟨x, hx, hx2⟩ := Option.map_eq_some_iff.mp hk
  simp only [Nat.zero_add, Bool.false_eq_true, false_and, if_false] at hx2
  by_cases a : j = i
  · subst a
    rw [if_pos rfl] at hx2
    cases hx2
    exact h'.2.2 _ (by rw [hw]; exact List.mem_cons_self)
  · rw [if_neg a] at hx2
    by_cases b : j + 1 = i ∧ ai_is2 x = true
    · rw [if_pos b] at hx2; cases hx2
    · rw [if_neg b] at hx2
      subst hx2
      refine h'.2.2 _ (List.mem_cons_of_mem _ (List.mem_filter.mpr ⟨ai_lp_mem.mpr ⟨j, u, by simp, hx, hw⟩, ?_⟩))
      rw [ai_is2_cat] at b
      simp only [Bool.and_eq_true, Bool.not_eq_true', beq_eq_false_iff_ne, ne_eq, Bool.and_eq_false_iff]
      refine ⟨a, ?_⟩
      by_cases c : j + 1 = i
      · right; rw [hw, ai_cv_cat]; exact fun z => b ⟨c, z⟩
      · left; exact c
theorem ai_LV.st2 {sa : Nat → Nat} {base n i : Nat} {ls : ai_L} {lc lc' : Array Slot} {v : Value} (h : ai_LV sa base n ls lc) (h' : lv_has lc' n ((i, ai_cv sa base v) :: (ai_lp (ai_cv sa base) 0 ls).filter (fun q => !(q.1 == i) && (!(q.1 == i + 1) && !(q.1 + 1 == i && q.2.category == 2))))) : ai_LV sa base n (ai_st true i v 0 ls) lc' := by
  refine ⟨by rw [ai_st_len]; exact h.1, h'.1, h'.2.1, ?_⟩
  rintro ⟨j, w⟩ hq
  obtain ⟨k, u, hj, hk, hw⟩ := ai_lp_mem.mp hq
  rw [ai_st_get] at hk
  rw [Nat.zero_add] at hj
  subst hj
  obtain ⟨x, hx, hx2⟩ := Option.map_eq_some_iff.mp hk
  simp only [Nat.zero_add, true_and] at hx2
  by_cases a : j = i
  · subst a
    rw [if_pos rfl] at hx2
    cases hx2
    exact h'.2.2 _ (by rw [hw]; exact List.mem_cons_self)
  · rw [if_neg a] at hx2
    by_cases a2 : j = i + 1
    · rw [if_pos a2] at hx2; cases hx2
    rw [if_neg a2] at hx2
    by_cases b : j + 1 = i ∧ ai_is2 x = true
    · rw [if_pos b] at hx2; cases hx2
    · rw [if_neg b] at hx2
      subst hx2
      refine h'.2.2 _ (List.mem_cons_of_mem _ (List.mem_filter.mpr ⟨ai_lp_mem.mpr ⟨j, u, by simp, hx, hw⟩, ?_⟩))
      rw [ai_is2_cat] at b
      simp only [Bool.and_eq_true, Bool.not_eq_true', beq_eq_false_iff_ne, ne_eq, Bool.and_eq_false_iff]
      refine ⟨a, a2, ?_⟩
      by_cases c : j + 1 = i
      · right; rw [hw, ai_cv_cat]; exact fun z => b ⟨c, z⟩
      · left; exact c
/-- the locals at a method's entry -/
theorem ai_fl_len (f : Value → Value) (hf : ∀ v, (f v).category = v.category) (vs : List Value) : (lg_sl (vs.map f)).length = (ai_fl vs).length := by
  induction vs with
  | nil => rfl
  | cons v t ih =>
    simp only [lg_sl, List.map_cons, List.flatMap_cons, hf, ai_fl] at ih ⊢
    by_cases c : v.category = 2
    · simp [c, ih]
    · simp [c, ih]
theorem ai_lp_none (f : Value → Value) (n : Nat) : ∀ i, ai_lp f i (List.replicate n none) = [] := by
  induction n with
  | zero => intro i; rfl
  | succ n ih => intro i; simp [List.replicate_succ, ai_lp, ih]
theorem ai_lp_fl (f : Value → Value) (hf : ∀ v, (f v).category = v.category) (n : Nat) (vs : List Value) : ∀ i, ai_lp f i (ai_fl vs ++ List.replicate n none) = lv_args i (vs.map f) := by
  induction vs with
  | nil => intro i; simp [ai_fl, ai_lp_none, lv_args]
  | cons v t ih =>
    intro i
    simp only [ai_fl, List.map_cons, lv_args, hf]
    by_cases c : v.category = 2
    · simp [c, ai_lp, ih]
    · simp [c, ai_lp, ih]
theorem ai_LV.entry {sa : Nat → Nat} {base n : Nat} {vs : List Value} (h : (ai_fl vs).length ≤ n) : ai_LV sa base n (ai_loc n vs) (lg_sl (vs.map (ai_cv sa base)) ++ List.replicate (n - (lg_sl (vs.map (ai_cv sa base))).length) Slot.unset).toArray := by
  refine ⟨by simp [ai_loc]; omega, ?_⟩
  rw [ai_loc, ai_lp_fl _ (ai_cv_cat sa base)]
  exact lv_entry _ (by rw [ai_fl_len _ (ai_cv_cat sa base)]; exact h)
/-! cells -/
def ai_cE (cas : Nat → ClassId) (f : Value → Value) (base : Nat) : ai_C → va_E
  | .inl (t, n, .inr (.inr (.inr (.inr g)))) => .inl (cas t, n, .inr (.inr (.inr (.inr (fun k => (g k).map (fun a => base + a))))))
  | .inl (t, n, .inl g) => .inl (cas t, n, .inl g)
  | .inl (t, n, .inr (.inl g)) => .inl (cas t, n, .inr (.inl g))
  | .inl (t, n, .inr (.inr (.inl g))) => .inl (cas t, n, .inr (.inr (.inl g)))
  | .inl (t, n, .inr (.inr (.inr (.inl g)))) => .inl (cas t, n, .inr (.inr (.inr (.inl g))))
  | .inr (c, fs) => .inr (c, fs.map f)
def ai_W (cas : Nat → ClassId) (f : Value → Value) (base : Nat) : Nat → ai_H → va_W
  | _, [] => []
  | i, c :: t => (base + i, ai_cE cas f base c) :: ai_W cas f base (i + 1) t
theorem ai_W_get {cas : Nat → ClassId} {f : Value → Value} {base : Nat} : ∀ {h : ai_H} {i k : Nat}, (ai_W cas f base i h)[k]? = (h[k]?).map (fun c => (base + (i + k), ai_cE cas f base c)) := by
  intro h
  induction h with
  | nil => intro i k; simp [ai_W]
  | cons c t ih =>
    intro i k
    cases k with
    | zero => simp [ai_W]
    | succ k => simp only [ai_W, List.getElem?_cons_succ, ih]; rw [show i + 1 + k = i + (k + 1) by omega]
theorem ai_W_len {cas : Nat → ClassId} {f : Value → Value} {base : Nat} : ∀ {h : ai_H} {i : Nat}, (ai_W cas f base i h).length = h.length := by
  intro h
  induction h with
  | nil => intro i; rfl
  | cons c t ih => intro i; simp [ai_W, ih]
theorem ai_W_set {cas : Nat → ClassId} {f : Value → Value} {base : Nat} {c : ai_C} : ∀ {h : ai_H} {i k : Nat}, ai_W cas f base i (h.set k c) = (ai_W cas f base i h).set k (base + (i + k), ai_cE cas f base c) := by
  intro h
  induction h with
  | nil => intro i k; simp [ai_W]
  | cons d t ih =>
    intro i k
    cases k with
    | zero => simp [ai_W]
    | succ k => simp only [ai_W, List.set_cons_succ, ih]; rw [show i + 1 + k = i + (k + 1) by omega]
theorem ai_W_app {cas : Nat → ClassId} {f : Value → Value} {base : Nat} {c : ai_C} : ∀ {h : ai_H} {i : Nat}, ai_W cas f base i (h ++ [c]) = ai_W cas f base i h ++ [(base + (i + h.length), ai_cE cas f base c)] := by
  intro h
  induction h with
  | nil => intro i; simp [ai_W]
  | cons d t ih =>
    intro i
    simp only [ai_W, List.cons_append, ih, List.length_cons]
    rw [show i + 1 + t.length = i + (t.length + 1) by omega]
/-- the machine's heap holds the interpreter's cells from 'base' on, and below it what was there at the start -/
def ai_Rp (D : va_G) (cas : Nat → ClassId) (sa : Nat → Nat) (base : Nat) (Hb : Heap) (h : ai_H) (H : Heap) : Prop :=
  H.size = base + h.length ∧ va_P D ai_cl (ai_W cas (ai_cv sa base) base 0 h) H ∧ (∀ q : Nat, q < base → H[q]? = Hb[q]?) ∧ Hb.size = base
def ai_A (base : Nat) : Nat → Prop := fun q => base ≤ q
theorem ai_D {cas : Nat → ClassId} {f : Value → Value} {base : Nat} {h : ai_H} : va_D (ai_A base) (ai_W cas f base 0 h) := by
  refine ⟨fun i j p q hp hq e => ?_, fun k q hq => ?_⟩
  · rw [ai_W_get] at hp hq
    obtain ⟨x, -, rfl⟩ := Option.map_eq_some_iff.mp hp
    obtain ⟨y, -, rfl⟩ := Option.map_eq_some_iff.mp hq
    simp only at e
    omega
  · rw [ai_W_get] at hq
    obtain ⟨x, -, rfl⟩ := Option.map_eq_some_iff.mp hq
    exact Nat.le_add_right _ _
theorem ai_Rp.S {D : va_G} {cas : Nat → ClassId} {sa : Nat → Nat} {base : Nat} {Hb : Heap} {h : ai_H} {H : Heap} {locs : List Loc} (r : ai_Rp D cas sa base Hb h H) (hl : ∀ q ∈ locs, base ≤ q.base) : va_S (ai_A base) Hb H locs :=
  ⟨by rw [r.2.2.2, r.1]; omega, fun q h1 h2 => r.2.2.1 q (Nat.not_le.mp h2), hl⟩
theorem ai_Rp.of {D : va_G} {cas : Nat → ClassId} {sa : Nat → Nat} {base : Nat} {Hb : Heap} {h : ai_H} {H : Heap} {locs : List Loc} (hP : va_P D ai_cl (ai_W cas (ai_cv sa base) base 0 h) H) (hS : va_S (ai_A base) Hb H locs) (hb : Hb.size = base) (hne : h ≠ []) (hup : H.size ≤ base + h.length) : ai_Rp D cas sa base Hb h H := by
  refine ⟨?_, hP, fun q hq => hS.2.1 q (by omega) (Nat.not_le.mpr hq), hb⟩
  have hl : 0 < h.length := List.length_pos_iff.mpr hne
  obtain ⟨c, hc⟩ : ∃ c, h[h.length - 1]? = some c := ⟨_, List.getElem?_eq_getElem (by omega)⟩
  have hk := (hP (h.length - 1) _ (by rw [ai_W_get, hc]; rfl)).lt
  simp only at hk
  omega
section AIW
variable {p : Program} {l : Launch} {e : Env} {R : Room} {s : State} {m : MethodId} {args : Array Value} {below : List Frame} {meth : Method} {c : Code} {H : Heap} {locs : List Loc} {cells slots : Nat} {Q : State → Prop}
/-- the heap is no larger than what has been counted -/
theorem ai_szW {g : JFrame} (k : H.size ≤ s.heap.size + cells → W p l e R s m args below meth c H locs cells slots Q g) : W p l e R s m args below meth c H locs cells slots Q g :=
  fun T hT X => k (by rw [← hT]; exact X.heapSize) T hT X
end AIW
