theorem ai_ok_m : ∀ M ∈ ai_mt, (ai_mC M = 12 ∨ ai_mok M = true) ∧ ai_rk M = true := sorry
