/-! the tables hold -/
def ai_gw : List Cond := lw_tbl.filter goodWord
theorem ai_tb_in : ∀ l ∈ ai_tb, ∀ w ∈ l, w ∈ lw_tbl := by
  have hp : ∀ {ys : List (MethodName × Nat)}, (∀ y ∈ ys, y ∈ lw_privs) → ∀ w ∈ k2_sels ys, w ∈ lw_tbl := by
    intro ys hy w hw
    obtain ⟨y, h1, rfl⟩ := List.mem_map.mp hw
    exact List.mem_append_left _ (List.mem_map.mpr ⟨y, hy y h1, rfl⟩)
  have ht : ∀ {l : List Cond}, (∀ w ∈ l, w ∈ tables_1) → ∀ w ∈ l, w ∈ lw_tbl := fun h w hw => List.mem_append_right _ (h w hw)
  intro l hl
  simp only [ai_tb, List.mem_cons, List.not_mem_nil, or_false] at hl
  rcases hl with rfl | rfl | rfl | rfl | rfl | rfl | rfl | rfl | rfl | rfl | rfl | rfl | rfl | rfl | rfl
  · exact hp fun y hy => by simp only [lw_privs, List.mem_append]; simp [hy]
  · exact hp fun y hy => by simp only [lw_privs, List.mem_append]; simp [hy]
  · exact hp fun y hy => by simp only [lw_privs, List.mem_append]; simp [hy]
  · exact hp fun y hy => by simp only [lw_privs, List.mem_append]; simp [hy]
  · exact hp fun y hy => by simp only [lw_privs, List.mem_append]; simp [hy]
  · exact hp fun y hy => by simp only [lw_privs, List.mem_append]; simp [hy]
  · exact hp fun y hy => by simp only [lw_privs, List.mem_append]; simp [hy]
  · exact ht fun y hy => by simp only [tables_1, List.mem_append]; simp [hy]
  · exact ht fun y hy => by simp only [tables_1, List.mem_append]; simp [hy]
  · exact ht fun y hy => by simp only [tables_1, List.mem_append]; simp [hy]
  · exact ht fun y hy => by simp only [tables_1, List.mem_append]; simp [hy]
  · exact ht fun y hy => by simp only [tables_1, List.mem_append]; simp [hy]
  · exact ht fun y hy => by simp only [tables_1, List.mem_append]; simp [hy]
  · exact ht fun y hy => by simp only [tables_1, List.mem_append]; simp [hy]
  · exact ht fun y hy => by simp only [tables_1, List.mem_append]; simp [hy]
theorem ai_gw_of {p : Nat} {w : Cond} (h : ai_w p w = true) : w ∈ ai_gw := by
  simp only [ai_w, Bool.and_eq_true, decide_eq_true_eq] at h
  refine List.mem_filter.mpr ⟨?_, h.2⟩
  cases hl : ai_tb[p / 1000]? with
  | none => rw [List.getD_eq_getElem?_getD, hl] at h; simp at h
  | some l =>
    rw [List.getD_eq_getElem?_getD, hl] at h
    exact ai_tb_in l (List.mem_of_getElem? hl) w (List.mem_of_getElem? h.1)
theorem ai_gw_good {w : Cond} (h : w ∈ ai_gw) : (w.onTables && w.keeps) = true ∨ ∃ ty, w = .arrayClass ty := good_of_word (List.mem_filter.mp h).2
/-- a class's own words -/
def ai_cok (c : Nat) (q : vw_C) : Bool :=
  (List.range q.2.2).all (fun k => ai_w ((ai_lay.getD c []).getD k 0) (u_lay q.1 q.2.1 k) && decide ((parseFieldDescriptor (q.2.1 k).2.2.1).isSome = true) && (List.range q.2.2).all (fun j => decide (k = j ∨ (q.2.1 k).2.1 ≠ (q.2.1 j).2.1)))
   && (ai_w (ai_inp.getD c 0) (.instantiable q.1 q.2.2) && (ai_w (ai_ip.getD c 0) (.initialized q.1) && (decide ((ai_df.getD c []).length = q.2.2) && (decide (ai_cn[c]? = some q.1) && (List.range q.2.2).all (fun k => decide (((parseFieldDescriptor (q.2.1 k).2.2.1).map defaultValue) = some (vp_V (ai_df.getD c []) k)))))))
def ai_rk (M : ai_M) : Bool := (ai_mR M).all (ai_row M) && (ai_cont (ai_mR M))
def ai_mk (M : ai_M) : Bool := (decide (ai_mC M = 12) || ai_mok M) && ai_rk M
def ai_ca : Nat → List vw_C → Bool
  | _, [] => true
  | c, q :: t => ai_cok c q && ai_ca (c + 1) t
theorem ai_ca_ok : ∀ {l : List vw_C} {i c : Nat} {q : vw_C}, ai_ca i l = true → l[c]? = some q → ai_cok (i + c) q = true := by
  intro l
  induction l with
  | nil => intro i c q h hq; simp at hq
  | cons x t ih =>
    intro i c q h hq
    simp only [ai_ca, Bool.and_eq_true] at h
    cases c with
    | zero => simp only [List.getElem?_cons_zero, Option.some.injEq] at hq; subst hq; exact h.1
    | succ c =>
      have := ih h.2 (by simpa using hq)
      rw [show i + (c + 1) = i + 1 + c by omega]
      exact this
set_option maxRecDepth 100000 in
theorem ai_ca_all : ai_ca 0 ai_cl = true := by decide +kernel
theorem ai_ok_c : ∀ c : Nat, ∀ q : vw_C, ai_cl[c]? = some q → ai_cok c q = true := fun c q h => by have := ai_ca_ok ai_ca_all h; rwa [Nat.zero_add] at this
theorem ai_ok_ap : ai_w (ai_ap.getD 0 0) (.arrayClass .int) = true ∧ ai_w (ai_ap.getD 1 0) (.arrayClass .long) = true ∧ ai_w (ai_ap.getD 2 0) (.arrayClass .boolean) = true := by decide +kernel
theorem ai_law12 : ∀ M ∈ ai_mt, ai_mC M = 12 → ai_mK M = 9 := by
  have h : ai_mt.all (fun M => decide (ai_mC M = 12 → ai_mK M = 9)) = true := by decide +kernel
  intro M hM h12
  have := List.all_eq_true.mp h M hM
  exact (of_decide_eq_true this) h12
