/-! the tables hold -/
def ai_gw : List Cond := lw_tbl.filter goodWord
theorem ai_gw_of {p : Nat} {w : Cond} (h : ai_w p w = true) : w ∈ ai_gw := by
  simp only [ai_w, Bool.and_eq_true, decide_eq_true_eq] at h
  exact List.mem_filter.mpr ⟨List.mem_of_getElem? h.1, h.2⟩
theorem ai_gw_good {w : Cond} (h : w ∈ ai_gw) : (w.onTables && w.keeps) = true ∨ ∃ ty, w = .arrayClass ty := good_of_word (List.mem_filter.mp h).2
/-- a class's own words -/
def ai_cok (c : Nat) (q : vw_C) : Bool :=
  (List.range q.2.2).all (fun k => ai_w ((ai_lay.getD c []).getD k 0) (u_lay q.1 q.2.1 k) && decide ((parseFieldDescriptor (q.2.1 k).2.2.1).isSome = true) && (List.range q.2.2).all (fun j => decide (k = j ∨ (q.2.1 k).2.1 ≠ (q.2.1 j).2.1)))
   && (ai_w (ai_inp.getD c 0) (.instantiable q.1 q.2.2) && (ai_w (ai_ip.getD c 0) (.initialized q.1) && (decide ((ai_df.getD c []).length = q.2.2) && (decide (ai_cn[c]? = some q.1) && (List.range q.2.2).all (fun k => decide (((parseFieldDescriptor (q.2.1 k).2.2.1).map defaultValue) = some (vp_V (ai_df.getD c []) k)))))))
def ai_rk (M : ai_M) : Bool := (ai_mR M).all (ai_row M) && (ai_cont (ai_mR M))
theorem ai_ok_c : ∀ c : Nat, ∀ q : vw_C, ai_cl[c]? = some q → ai_cok c q = true := sorry
theorem ai_ok_m : ∀ M ∈ ai_mt, (ai_mC M = 12 ∨ ai_mok M = true) ∧ ai_rk M = true := sorry
theorem ai_ok_ap : ai_w (ai_ap.getD 0 0) (.arrayClass .int) = true ∧ ai_w (ai_ap.getD 1 0) (.arrayClass .long) = true ∧ ai_w (ai_ap.getD 2 0) (.arrayClass .boolean) = true := by decide +kernel
theorem ai_law12 : ∀ M ∈ ai_mt, ai_mC M = 12 → ai_mK M = 9 := by
  have h : ai_mt.all (fun M => decide (ai_mC M = 12 → ai_mK M = 9)) = true := by decide +kernel
  intro M hM h12
  have := List.all_eq_true.mp h M hM
  exact (of_decide_eq_true this) h12
