/-! SOUNDNESS of one step -/
def ai_tys (cas : Nat → ClassId) : List (ClassId × FieldType) := (List.range 6).map (fun k => (cas k, ai_ty.getD k .int))
theorem ai_tys_at {cas : Nat → ClassId} {k : Nat} {ty : FieldType} (h : ai_ty[k]? = some ty) : (ai_tys cas)[k]? = some (cas k, ty) := by
  have hl : k < 6 := (List.getElem?_eq_some_iff.mp h).1
  simp only [ai_tys, List.getElem?_map, List.getElem?_range hl, Option.map_some, List.getD_eq_getElem?_getD, h, Option.getD_some]
/-- what else is known of the tables: words that a callee's list may not hold -/
def ai_E (sa : Nat → Nat) (base : Nat) (Hb : Heap) (U : State) : Prop := (∀ p ∈ ai_nst, ∀ (a : String) (i : Nat) (y : MethodName) (b : String), lw_tbl[p]? = some (.methodLinkNest a i y b) → va_Nw (.methodLinkNest a i y b) U) ∧ (∀ (k : Nat) (C : String), ai_ty[k]? = some (.object C) → va_AO C U) ∧ (∀ (k : Nat) (q : String × Nat × String), ai_so[k]? = some q → vk_R q.1 q.2.1 q.2.2 (sa k) U) ∧ vk_S 11 ai_sl ai_sb sa (fun k => sa (200 + k)) (ai_A base) U Hb ∧ va_Z "java/lang/String" "COMPACT_STRINGS" "Z" (.int 1) (ai_A base) U Hb ∧ va_Zq "jdk/internal/util/Preconditions" "SIOOBE_FORMATTER" "Ljava/util/function/BiFunction;" (ai_A base) U Hb
theorem ai_E.warm {sa : Nat → Nat} {base : Nat} {Hb : Heap} {s U : State} (hW : s.WarmedH U.vm) (h : ai_E sa base Hb s) : ai_E sa base Hb U := ⟨fun p hp a i y b hw => (h.1 p hp a i y b hw).warmM hW, fun k C hk => (h.2.1 k C hk).moved hW.alike, fun k q hk => (h.2.2.1 k q hk).warm hW, h.2.2.2.1.moved hW.alike, h.2.2.2.2.1.moved hW.alike, h.2.2.2.2.2.moved hW.alike⟩
theorem ai_E.same {sa : Nat → Nat} {base : Nat} {Hb : Heap} {s U : State} (hv : U.vm = s.vm) (h : ai_E sa base Hb s) : ai_E sa base Hb U := ⟨fun p hp a i y b hw => (h.1 p hp a i y b hw).same rfl hv.symm, fun k C hk => (h.2.1 k C hk).moved (hv ▸ Vm.Alike.refl s.vm), fun k q hk => (h.2.2.1 k q hk).same hv, h.2.2.2.1.moved (hv ▸ Vm.Alike.refl s.vm), h.2.2.2.2.1.moved (hv ▸ Vm.Alike.refl s.vm), h.2.2.2.2.2.moved (hv ▸ Vm.Alike.refl s.vm)⟩
def ai_Cx (D : va_G) (cas : Nat → ClassId) (sa : Nat → Nat) (base : Nat) (Hb : Heap) (X : ai_X) (M : ai_M) (p : Program) (R : Room) (s : State) (m : MethodId) (args : Array Value) (meth : Method) (c : Code) : Prop :=
  p.tables.exec = Jvm.exec ∧ c.code = ai_mB M ∧ c.maxLocals = ai_mL M ∧ s.vm.findClass (ai_own M) = some m.cls ∧ (∀ w ∈ ai_gw, w.before args s = true) ∧ va_K D ai_cl (ai_tys cas) s ∧ (ai_mC M = 12 ∨ meth.name = (ai_mY M).name) ∧ ai_mF M ≤ R.frames ∧ ai_mO M ≤ R.locals ∧ ai_E sa base Hb s ∧ (ai_mC M = 12 → va_X (sa 99) X.1 X.2 s Hb ∧ sa 99 < base) ∧ ∀ q : Nat, q < base → s.heap[q]? = Hb[q]?
def ai_pc : List ai_R → Nat
  | [] => 0
  | r :: _ => r.1
theorem ai_seq {K : List ai_R} (hc : ai_cont K = true) {r : ai_R} {rs : List ai_R} (h : (r :: rs) <:+ K) (hne : rs ≠ []) : ai_pc rs = r.1 + r.2.2.1 := by
  obtain ⟨t, rfl⟩ := h
  cases rs with
  | nil => exact absurd rfl hne
  | cons r1 u =>
    show r1.1 = _
    induction t with
    | nil =>
      simp only [List.nil_append, ai_cont, Bool.and_eq_true, beq_iff_eq] at hc
      exact hc.1
    | cons x t ih =>
      cases t with
      | nil =>
        simp only [List.cons_append, List.nil_append, ai_cont, Bool.and_eq_true, beq_iff_eq] at hc
        exact hc.2.1
      | cons y t =>
        apply ih
        simp only [List.cons_append, ai_cont, Bool.and_eq_true] at hc ⊢
        exact hc.2
theorem ai_tg_ok {K : List ai_R} {pc a : Nat} {off : Int} {rt : List ai_R} (h : ai_tg K pc off a = some rt) : rt <:+ K ∧ (pc : Int) + off = (ai_pc rt : Int) := by
  unfold ai_tg at h
  split at h
  · rename_i r rs hd
    split at h
    · rename_i he
      cases h
      exact ⟨hd ▸ List.drop_suffix _ _, he⟩
    · cases h
  · cases h
theorem ai_tf_ok {K : List ai_R} {pc : Nat} {off : Int} {rt : List ai_R} (h : ai_tf K pc off = some rt) : rt <:+ K ∧ (pc : Int) + off = (ai_pc rt : Int) := by
  unfold ai_tf at h
  split at h
  · rename_i r rs hd
    split at h
    · rename_i he
      cases h
      exact ⟨hd ▸ List.dropWhile_suffix _, he⟩
    · cases h
  · cases h
theorem ai_W_at {cas : Nat → ClassId} {f : Value → Value} {base a : Nat} {h : ai_H} {c : ai_C} (hh : h[a]? = some c) : (ai_W cas f base 0 h)[a]? = some (base + a, ai_cE cas f base c) := by
  rw [ai_W_get, hh]
  simp
theorem ai_fit_ok {sa : Nat → Nat} {base : Nat} {ty : FieldType} {v : Value} (h : ai_fit ty v = true) : narrow ty (ai_cv sa base v) = ai_cv sa base v ∧ fits ty (ai_cv sa base v) = true := by
  cases ty <;> cases v <;> first | (exact ⟨rfl, rfl⟩) | (simp [ai_fit] at h)
theorem ai_va_up {f : Nat → Option Nat} {i base v : Nat} : (fun k => (va_up f i (some v) k).map (fun a => base + a)) = va_up (fun k => (f k).map (fun a => base + a)) i (some (base + v)) := by
  funext k
  by_cases h : k = i <;> simp [va_up, h]
theorem ai_rf_cv {sa : Nat → Nat} {base : Nat} (r : Option Nat) : va_rf (r.map (fun a => base + a)) = ai_cv sa base (va_rf r) := by cases r <;> rfl
theorem ai_cls {c : Nat} {q : vw_C} (h : ai_cl[c]? = some q) : (∀ w ∈ u_ws q.1 q.2.1 q.2.2, w ∈ ai_gw) ∧ (∀ k, k < q.2.2 → parseFieldDescriptor (q.2.1 k).2.2.1 = some ((parseFieldDescriptor (q.2.1 k).2.2.1).getD .int)) ∧ (∀ a, a < q.2.2 → ∀ b, b < q.2.2 → a ≠ b → (q.2.1 a).2.1 ≠ (q.2.1 b).2.1) ∧ Cond.instantiable q.1 q.2.2 ∈ ai_gw ∧ Cond.initialized q.1 ∈ ai_gw ∧ (ai_df.getD c []).length = q.2.2 ∧ ai_cn[c]? = some q.1 ∧ (∀ k, k < q.2.2 → defaultValue ((parseFieldDescriptor (q.2.1 k).2.2.1).getD .int) = vp_V (ai_df.getD c []) k) := by
  have hk := ai_ok_c c q h
  simp only [ai_cok, Bool.and_eq_true, List.all_eq_true, decide_eq_true_eq, List.mem_range] at hk
  obtain ⟨h1, h2, h3, h4, h5, h6⟩ := hk
  refine ⟨fun w hw => ?_, fun k hk => ?_, fun a ha b hb hab => ?_, ai_gw_of h2, ai_gw_of h3, h4, h5, fun k hk => ?_⟩
  · simp only [u_ws, List.mem_map, List.mem_range] at hw
    obtain ⟨k, hk, rfl⟩ := hw
    exact ai_gw_of (h1 k hk).1.1
  · obtain ⟨ty, hty⟩ := Option.isSome_iff_exists.mp (h1 k hk).1.2
    rw [hty]; rfl
  · rcases (h1 a ha).2 b hb with e | e
    · exact absurd e hab
    · exact e
  · have hx := h6 k hk
    obtain ⟨ty, hty⟩ := Option.isSome_iff_exists.mp (h1 k hk).1.2
    rw [hty] at hx ⊢
    exact Option.some.inj hx

section AISTP
variable {D : va_G} {cas : Nat → ClassId} {sa : Nat → Nat} {base : Nat} {Hb : Heap} {X : ai_X} {M : ai_M}
variable {p : Program} {l : Launch} {e : Env} {R : Room} {s : State} {m : MethodId} {args : Array Value} {below : List Frame} {meth : Method} {c : Code} {H : Heap} {locs : List Loc} {cells slots : Nat} {Q : State → Prop}
set_option maxHeartbeats 8000000 in
set_option maxRecDepth 20000 in
theorem ai_stp_ok (C : ai_Cx D cas sa base Hb X M p R s m args meth c) (hcont : ai_cont (ai_mR M) = true) {r : ai_R} {rs : List ai_R} (hrow : ai_row M r = true) (hsuf : (r :: rs) <:+ ai_mR M) {ls ls' : ai_L} {st st' : List Value} {h h' : ai_H} {rs' : List ai_R}
    (hstp : ai_stp X M r rs ls st h = some (rs', ls', st', h')) (hne : rs' ≠ []) {lc : Array Slot} (hLV : ai_LV sa base (ai_mL M) ls lc) (hR : ai_Rp D cas sa base Hb h H) (hlocs : ∀ q ∈ locs, base ≤ q.base) (hcnt : s.heap.size + cells = base + h.length)
    (kk : ∀ (lc' : Array Slot) (H' : Heap) (locs' : List Loc), rs' <:+ ai_mR M → ai_LV sa base (ai_mL M) ls' lc' → ai_Rp D cas sa base Hb h' H' → (∀ q ∈ locs', base ≤ q.base) → h'.length = h.length → W p l e R s m args below meth c H' locs' cells slots Q (F0 m (ai_pc rs') lc' (st'.map (ai_cv sa base)))) :
    W p l e R s m args below meth c H locs cells slots Q (F0 m r.1 lc (st.map (ai_cv sa base))) := by
  obtain ⟨hx, hb, hml, hown, hts, hK, hnm, hfr, hlo, hE, hX, hLo⟩ := C
  have hsq := ai_seq hcont hsuf
  have hs' : rs <:+ ai_mR M := (List.suffix_cons _ _).trans hsuf
  have hP := hR.2.1
  have hD : va_D (ai_A base) (ai_W cas (ai_cv sa base) base 0 h) := ai_D
  have hS := hR.S hlocs
  have hHb := hR.2.2.2
  have hLl := hLV.1
  obtain ⟨pc, ins, len, val, ra, rb, rp, rq⟩ := r
  simp only [ai_row, Bool.and_eq_true, decide_eq_true_eq] at hrow
  obtain ⟨hdg, hlen, hlnk⟩ := hrow
  simp only at hdg hlen hlnk hsq ⊢
  unfold ai_stp at hstp
  simp only at hstp
  split at hstp
  · obtain rfl : len = 1 := by simpa [ai_len] using hlen
    simp only [Option.some.injEq, Prod.mk.injEq] at hstp; obtain ⟨rfl, rfl, rfl, rfl⟩ := hstp
    have kq := fun lc1 H1 locs1 a b c d => hsq hne ▸ kk lc1 H1 locs1 hs' a b c d
    exact lv_iconst hx hb hdg rfl (kq lc H locs hLV hR hlocs rfl)
  · obtain rfl : len = 2 := by simpa [ai_len] using hlen
    simp only [Option.some.injEq, Prod.mk.injEq] at hstp; obtain ⟨rfl, rfl, rfl, rfl⟩ := hstp
    have kq := fun lc1 H1 locs1 a b c d => hsq hne ▸ kk lc1 H1 locs1 hs' a b c d
    exact lv_bipush hx hb hdg rfl (kq lc H locs hLV hR hlocs rfl)
  · obtain rfl : len = 3 := by simpa [ai_len] using hlen
    simp only [Option.some.injEq, Prod.mk.injEq] at hstp; obtain ⟨rfl, rfl, rfl, rfl⟩ := hstp
    have kq := fun lc1 H1 locs1 a b c d => hsq hne ▸ kk lc1 H1 locs1 hs' a b c d
    exact lv_sipush hx hb hdg rfl (kq lc H locs hLV hR hlocs rfl)
  · obtain rfl : len = 1 := by simpa [ai_len] using hlen
    simp only [Option.some.injEq, Prod.mk.injEq] at hstp; obtain ⟨rfl, rfl, rfl, rfl⟩ := hstp
    have kq := fun lc1 H1 locs1 a b c d => hsq hne ▸ kk lc1 H1 locs1 hs' a b c d
    exact lv_lconst hx hb hdg rfl (kq lc H locs hLV hR hlocs rfl)
  · obtain rfl : len = 2 := by simpa [ai_len] using hlen
    split at hstp
    · rename_i v
      simp only [Option.some.injEq, Prod.mk.injEq] at hstp; obtain ⟨rfl, rfl, rfl, rfl⟩ := hstp
      have kq := fun lc1 H1 locs1 a b c d => hsq hne ▸ kk lc1 H1 locs1 hs' a b c d
      exact lv_ldc hx hb hown (hts _ (ai_gw_of (by simpa [ai_lnk] using hlnk))) hdg (kq lc H locs hLV hR hlocs rfl)
    · rename_i v
      split at hstp
      · simp only [Option.some.injEq, Prod.mk.injEq] at hstp; obtain ⟨rfl, rfl, rfl, rfl⟩ := hstp
        have kq := fun lc1 H1 locs1 a b c d => hsq hne ▸ kk lc1 H1 locs1 hs' a b c d
        simp only [ai_lnk] at hlnk
        split at hlnk
        · rename_i q hq
          simp only [decide_eq_true_eq] at hlnk
          have hz := hE.2.2.1 _ q hq
          rw [hlnk.1, hlnk.2] at hz
          exact va_ldcS hx hb hown hz hdg (kq lc H locs hLV hR hlocs rfl)
        · cases hlnk
      · cases hstp
    · cases hstp
  · obtain rfl : len = 3 := by simpa [ai_len] using hlen
    split at hstp
    · rename_i v
      simp only [Option.some.injEq, Prod.mk.injEq] at hstp; obtain ⟨rfl, rfl, rfl, rfl⟩ := hstp
      have kq := fun lc1 H1 locs1 a b c d => hsq hne ▸ kk lc1 H1 locs1 hs' a b c d
      exact lv_ldcw hx hb hown (hts _ (ai_gw_of (by simpa [ai_lnk] using hlnk))) hdg (kq lc H locs hLV hR hlocs rfl)
    · cases hstp
  · obtain rfl : len = 3 := by simpa [ai_len] using hlen
    split at hstp
    · rename_i v
      simp only [Option.some.injEq, Prod.mk.injEq] at hstp; obtain ⟨rfl, rfl, rfl, rfl⟩ := hstp
      have kq := fun lc1 H1 locs1 a b c d => hsq hne ▸ kk lc1 H1 locs1 hs' a b c d
      exact lv_ldc2 hx hb hown (hts _ (ai_gw_of (by simpa [ai_lnk] using hlnk))) hdg (kq lc H locs hLV hR hlocs rfl)
    · cases hstp
  · obtain rfl : len = 1 := by simpa [ai_len] using hlen
    split at hstp
    · rename_i v hv
      simp only [Option.some.injEq, Prod.mk.injEq] at hstp; obtain ⟨rfl, rfl, rfl, rfl⟩ := hstp
      have kq := fun lc1 H1 locs1 a b c d => hsq hne ▸ kk lc1 H1 locs1 hs' a b c d
      exact lv_iload_n hx hb hdg rfl (hLV.at hv) (kq lc H locs hLV hR hlocs rfl)
    · cases hstp
  · obtain rfl : len = 2 := by simpa [ai_len] using hlen
    split at hstp
    · rename_i v hv
      simp only [Option.some.injEq, Prod.mk.injEq] at hstp; obtain ⟨rfl, rfl, rfl, rfl⟩ := hstp
      have kq := fun lc1 H1 locs1 a b c d => hsq hne ▸ kk lc1 H1 locs1 hs' a b c d
      exact lv_iload hx hb hdg (hLV.at hv) (kq lc H locs hLV hR hlocs rfl)
    · cases hstp
  · obtain rfl : len = 1 := by simpa [ai_len] using hlen
    split at hstp
    · rename_i v hv
      simp only [Option.some.injEq, Prod.mk.injEq] at hstp; obtain ⟨rfl, rfl, rfl, rfl⟩ := hstp
      have kq := fun lc1 H1 locs1 a b c d => hsq hne ▸ kk lc1 H1 locs1 hs' a b c d
      exact lv_lload_n hx hb hdg rfl (hLV.at hv) (kq lc H locs hLV hR hlocs rfl)
    · cases hstp
  · obtain rfl : len = 2 := by simpa [ai_len] using hlen
    split at hstp
    · rename_i v hv
      simp only [Option.some.injEq, Prod.mk.injEq] at hstp; obtain ⟨rfl, rfl, rfl, rfl⟩ := hstp
      have kq := fun lc1 H1 locs1 a b c d => hsq hne ▸ kk lc1 H1 locs1 hs' a b c d
      exact lv_lload hx hb hdg (hLV.at hv) (kq lc H locs hLV hR hlocs rfl)
    · cases hstp
  · obtain rfl : len = 1 := by simpa [ai_len] using hlen
    split at hstp
    · rename_i v hv
      simp only [Option.some.injEq, Prod.mk.injEq] at hstp; obtain ⟨rfl, rfl, rfl, rfl⟩ := hstp
      have kq := fun lc1 H1 locs1 a b c d => hsq hne ▸ kk lc1 H1 locs1 hs' a b c d
      exact lv_aload_n hx hb hdg rfl (hLV.at hv) (kq lc H locs hLV hR hlocs rfl)
    · rename_i v hv
      simp only [Option.some.injEq, Prod.mk.injEq] at hstp; obtain ⟨rfl, rfl, rfl, rfl⟩ := hstp
      have kq := fun lc1 H1 locs1 a b c d => hsq hne ▸ kk lc1 H1 locs1 hs' a b c d
      exact lv_aload_n hx hb hdg rfl (hLV.at hv) (kq lc H locs hLV hR hlocs rfl)
    · cases hstp
  · obtain rfl : len = 2 := by simpa [ai_len] using hlen
    split at hstp
    · rename_i v hv
      simp only [Option.some.injEq, Prod.mk.injEq] at hstp; obtain ⟨rfl, rfl, rfl, rfl⟩ := hstp
      have kq := fun lc1 H1 locs1 a b c d => hsq hne ▸ kk lc1 H1 locs1 hs' a b c d
      exact lv_aload hx hb hdg (hLV.at hv) (kq lc H locs hLV hR hlocs rfl)
    · rename_i v hv
      simp only [Option.some.injEq, Prod.mk.injEq] at hstp; obtain ⟨rfl, rfl, rfl, rfl⟩ := hstp
      have kq := fun lc1 H1 locs1 a b c d => hsq hne ▸ kk lc1 H1 locs1 hs' a b c d
      exact lv_aload hx hb hdg (hLV.at hv) (kq lc H locs hLV hR hlocs rfl)
    · cases hstp
  · obtain rfl : len = 1 := by simpa [ai_len] using hlen
    split at hstp
    · split at hstp
      · rename_i hi
        simp only [Option.some.injEq, Prod.mk.injEq] at hstp; obtain ⟨rfl, rfl, rfl, rfl⟩ := hstp
        have kq := fun lc1 H1 locs1 a b c d => hsq hne ▸ kk lc1 H1 locs1 hs' a b c d
        exact lv_istore_n hx hb hdg rfl hLV.2 (by rw [← hLl]; exact hi) rfl (fun lc1 h1 => kq lc1 H locs (hLV.st1 h1) hR hlocs rfl)
      · cases hstp
    · cases hstp
  · obtain rfl : len = 2 := by simpa [ai_len] using hlen
    split at hstp
    · split at hstp
      · rename_i hi
        simp only [Option.some.injEq, Prod.mk.injEq] at hstp; obtain ⟨rfl, rfl, rfl, rfl⟩ := hstp
        have kq := fun lc1 H1 locs1 a b c d => hsq hne ▸ kk lc1 H1 locs1 hs' a b c d
        exact lv_istore hx hb hdg hLV.2 (by rw [← hLl]; exact hi) rfl (fun lc1 h1 => kq lc1 H locs (hLV.st1 h1) hR hlocs rfl)
      · cases hstp
    · cases hstp
  · obtain rfl : len = 1 := by simpa [ai_len] using hlen
    split at hstp
    · split at hstp
      · rename_i hi
        simp only [Option.some.injEq, Prod.mk.injEq] at hstp; obtain ⟨rfl, rfl, rfl, rfl⟩ := hstp
        have kq := fun lc1 H1 locs1 a b c d => hsq hne ▸ kk lc1 H1 locs1 hs' a b c d
        exact lv_lstore_n hx hb hdg rfl hLV.2 (by rw [← hLl]; exact hi) rfl (fun lc1 h1 => kq lc1 H locs (hLV.st2 h1) hR hlocs rfl)
      · cases hstp
    · cases hstp
  · obtain rfl : len = 2 := by simpa [ai_len] using hlen
    split at hstp
    · split at hstp
      · rename_i hi
        simp only [Option.some.injEq, Prod.mk.injEq] at hstp; obtain ⟨rfl, rfl, rfl, rfl⟩ := hstp
        have kq := fun lc1 H1 locs1 a b c d => hsq hne ▸ kk lc1 H1 locs1 hs' a b c d
        exact lv_lstore hx hb hdg hLV.2 (by rw [← hLl]; exact hi) rfl (fun lc1 h1 => kq lc1 H locs (hLV.st2 h1) hR hlocs rfl)
      · cases hstp
    · cases hstp
  · obtain rfl : len = 1 := by simpa [ai_len] using hlen
    split at hstp
    · split at hstp
      · rename_i hi
        simp only [Option.some.injEq, Prod.mk.injEq] at hstp; obtain ⟨rfl, rfl, rfl, rfl⟩ := hstp
        have kq := fun lc1 H1 locs1 a b c d => hsq hne ▸ kk lc1 H1 locs1 hs' a b c d
        exact lv_astore_n hx hb hdg rfl hLV.2 (by rw [← hLl]; exact hi) rfl (fun lc1 h1 => kq lc1 H locs (hLV.st1 h1) hR hlocs rfl)
      · cases hstp
    · cases hstp
  · obtain rfl : len = 2 := by simpa [ai_len] using hlen
    split at hstp
    · split at hstp
      · rename_i hi
        simp only [Option.some.injEq, Prod.mk.injEq] at hstp; obtain ⟨rfl, rfl, rfl, rfl⟩ := hstp
        have kq := fun lc1 H1 locs1 a b c d => hsq hne ▸ kk lc1 H1 locs1 hs' a b c d
        exact lv_astore hx hb hdg hLV.2 (by rw [← hLl]; exact hi) rfl (fun lc1 h1 => kq lc1 H locs (hLV.st1 h1) hR hlocs rfl)
      · cases hstp
    · cases hstp
  · obtain rfl : len = 3 := by simpa [ai_len] using hlen
    split at hstp
    · rename_i v hv
      simp only [Option.some.injEq, Prod.mk.injEq] at hstp; obtain ⟨rfl, rfl, rfl, rfl⟩ := hstp
      have kq := fun lc1 H1 locs1 a b c d => hsq hne ▸ kk lc1 H1 locs1 hs' a b c d
      obtain ⟨k, hk⟩ := List.getElem?_of_mem (ai_lp_mem (f := ai_cv sa base) (i := 0).mpr ⟨_, _, (Nat.zero_add _).symm, hv, rfl⟩)
      exact lv_iinc hx hb hdg hLV.2 hk rfl (by rw [← hLl]; exact (List.getElem?_eq_some_iff.mp hv).1) rfl (fun lc1 h1 => kq lc1 H locs (hLV.st1 h1) hR hlocs rfl)
    · cases hstp
  · obtain rfl : len = 1 := by simpa [ai_len] using hlen
    split at hstp
    · simp only [Option.some.injEq, Prod.mk.injEq] at hstp; obtain ⟨rfl, rfl, rfl, rfl⟩ := hstp
      have kq := fun lc1 H1 locs1 a b c d => hsq hne ▸ kk lc1 H1 locs1 hs' a b c d
      exact lv_iadd hx hb hdg (kq lc H locs hLV hR hlocs rfl)
    · cases hstp
  · obtain rfl : len = 1 := by simpa [ai_len] using hlen
    split at hstp
    · simp only [Option.some.injEq, Prod.mk.injEq] at hstp; obtain ⟨rfl, rfl, rfl, rfl⟩ := hstp
      have kq := fun lc1 H1 locs1 a b c d => hsq hne ▸ kk lc1 H1 locs1 hs' a b c d
      exact lv_isub hx hb hdg (kq lc H locs hLV hR hlocs rfl)
    · cases hstp
  · obtain rfl : len = 1 := by simpa [ai_len] using hlen
    split at hstp
    · simp only [Option.some.injEq, Prod.mk.injEq] at hstp; obtain ⟨rfl, rfl, rfl, rfl⟩ := hstp
      have kq := fun lc1 H1 locs1 a b c d => hsq hne ▸ kk lc1 H1 locs1 hs' a b c d
      exact lv_imul hx hb hdg (kq lc H locs hLV hR hlocs rfl)
    · cases hstp
  · obtain rfl : len = 1 := by simpa [ai_len] using hlen
    split at hstp
    · simp only [Option.some.injEq, Prod.mk.injEq] at hstp; obtain ⟨rfl, rfl, rfl, rfl⟩ := hstp
      have kq := fun lc1 H1 locs1 a b c d => hsq hne ▸ kk lc1 H1 locs1 hs' a b c d
      exact lv_iand hx hb hdg (kq lc H locs hLV hR hlocs rfl)
    · cases hstp
  · obtain rfl : len = 1 := by simpa [ai_len] using hlen
    split at hstp
    · simp only [Option.some.injEq, Prod.mk.injEq] at hstp; obtain ⟨rfl, rfl, rfl, rfl⟩ := hstp
      have kq := fun lc1 H1 locs1 a b c d => hsq hne ▸ kk lc1 H1 locs1 hs' a b c d
      exact lv_ior hx hb hdg (kq lc H locs hLV hR hlocs rfl)
    · cases hstp
  · obtain rfl : len = 1 := by simpa [ai_len] using hlen
    split at hstp
    · simp only [Option.some.injEq, Prod.mk.injEq] at hstp; obtain ⟨rfl, rfl, rfl, rfl⟩ := hstp
      have kq := fun lc1 H1 locs1 a b c d => hsq hne ▸ kk lc1 H1 locs1 hs' a b c d
      exact lv_ixor hx hb hdg (kq lc H locs hLV hR hlocs rfl)
    · cases hstp
  · obtain rfl : len = 1 := by simpa [ai_len] using hlen
    split at hstp
    · split at hstp
      · cases hstp
      · rename_i hz
        simp only [Option.some.injEq, Prod.mk.injEq] at hstp; obtain ⟨rfl, rfl, rfl, rfl⟩ := hstp
        have kq := fun lc1 H1 locs1 a b c d => hsq hne ▸ kk lc1 H1 locs1 hs' a b c d
        exact lv_idiv hx hb hdg hz (kq lc H locs hLV hR hlocs rfl)
    · cases hstp
  · obtain rfl : len = 1 := by simpa [ai_len] using hlen
    split at hstp
    · split at hstp
      · cases hstp
      · rename_i hz
        simp only [Option.some.injEq, Prod.mk.injEq] at hstp; obtain ⟨rfl, rfl, rfl, rfl⟩ := hstp
        have kq := fun lc1 H1 locs1 a b c d => hsq hne ▸ kk lc1 H1 locs1 hs' a b c d
        exact lv_irem hx hb hdg hz (kq lc H locs hLV hR hlocs rfl)
    · cases hstp
  · obtain rfl : len = 1 := by simpa [ai_len] using hlen
    split at hstp
    · simp only [Option.some.injEq, Prod.mk.injEq] at hstp; obtain ⟨rfl, rfl, rfl, rfl⟩ := hstp
      have kq := fun lc1 H1 locs1 a b c d => hsq hne ▸ kk lc1 H1 locs1 hs' a b c d
      exact lv_ishl hx hb hdg (kq lc H locs hLV hR hlocs rfl)
    · cases hstp
  · obtain rfl : len = 1 := by simpa [ai_len] using hlen
    split at hstp
    · simp only [Option.some.injEq, Prod.mk.injEq] at hstp; obtain ⟨rfl, rfl, rfl, rfl⟩ := hstp
      have kq := fun lc1 H1 locs1 a b c d => hsq hne ▸ kk lc1 H1 locs1 hs' a b c d
      exact lv_ishr hx hb hdg (kq lc H locs hLV hR hlocs rfl)
    · cases hstp
  · obtain rfl : len = 1 := by simpa [ai_len] using hlen
    split at hstp
    · simp only [Option.some.injEq, Prod.mk.injEq] at hstp; obtain ⟨rfl, rfl, rfl, rfl⟩ := hstp
      have kq := fun lc1 H1 locs1 a b c d => hsq hne ▸ kk lc1 H1 locs1 hs' a b c d
      exact lv_iushr hx hb hdg rfl (kq lc H locs hLV hR hlocs rfl)
    · cases hstp
  · obtain rfl : len = 1 := by simpa [ai_len] using hlen
    split at hstp
    · simp only [Option.some.injEq, Prod.mk.injEq] at hstp; obtain ⟨rfl, rfl, rfl, rfl⟩ := hstp
      have kq := fun lc1 H1 locs1 a b c d => hsq hne ▸ kk lc1 H1 locs1 hs' a b c d
      exact lv_ladd hx hb hdg (kq lc H locs hLV hR hlocs rfl)
    · cases hstp
  · obtain rfl : len = 1 := by simpa [ai_len] using hlen
    split at hstp
    · simp only [Option.some.injEq, Prod.mk.injEq] at hstp; obtain ⟨rfl, rfl, rfl, rfl⟩ := hstp
      have kq := fun lc1 H1 locs1 a b c d => hsq hne ▸ kk lc1 H1 locs1 hs' a b c d
      exact lv_lmul hx hb hdg (kq lc H locs hLV hR hlocs rfl)
    · cases hstp
  · obtain rfl : len = 1 := by simpa [ai_len] using hlen
    split at hstp
    · simp only [Option.some.injEq, Prod.mk.injEq] at hstp; obtain ⟨rfl, rfl, rfl, rfl⟩ := hstp
      have kq := fun lc1 H1 locs1 a b c d => hsq hne ▸ kk lc1 H1 locs1 hs' a b c d
      exact lv_land hx hb hdg (kq lc H locs hLV hR hlocs rfl)
    · cases hstp
  · obtain rfl : len = 1 := by simpa [ai_len] using hlen
    split at hstp
    · simp only [Option.some.injEq, Prod.mk.injEq] at hstp; obtain ⟨rfl, rfl, rfl, rfl⟩ := hstp
      have kq := fun lc1 H1 locs1 a b c d => hsq hne ▸ kk lc1 H1 locs1 hs' a b c d
      exact lv_lor hx hb hdg (kq lc H locs hLV hR hlocs rfl)
    · cases hstp
  · obtain rfl : len = 1 := by simpa [ai_len] using hlen
    split at hstp
    · split at hstp
      · cases hstp
      · rename_i hz
        simp only [Option.some.injEq, Prod.mk.injEq] at hstp; obtain ⟨rfl, rfl, rfl, rfl⟩ := hstp
        have kq := fun lc1 H1 locs1 a b c d => hsq hne ▸ kk lc1 H1 locs1 hs' a b c d
        exact lv_ldiv hx hb hdg hz (kq lc H locs hLV hR hlocs rfl)
    · cases hstp
  · obtain rfl : len = 1 := by simpa [ai_len] using hlen
    split at hstp
    · split at hstp
      · cases hstp
      · rename_i hz
        simp only [Option.some.injEq, Prod.mk.injEq] at hstp; obtain ⟨rfl, rfl, rfl, rfl⟩ := hstp
        have kq := fun lc1 H1 locs1 a b c d => hsq hne ▸ kk lc1 H1 locs1 hs' a b c d
        exact lv_lrem hx hb hdg hz (kq lc H locs hLV hR hlocs rfl)
    · cases hstp
  · obtain rfl : len = 1 := by simpa [ai_len] using hlen
    split at hstp
    · simp only [Option.some.injEq, Prod.mk.injEq] at hstp; obtain ⟨rfl, rfl, rfl, rfl⟩ := hstp
      have kq := fun lc1 H1 locs1 a b c d => hsq hne ▸ kk lc1 H1 locs1 hs' a b c d
      exact lv_lshl hx hb hdg rfl (kq lc H locs hLV hR hlocs rfl)
    · cases hstp
  · obtain rfl : len = 1 := by simpa [ai_len] using hlen
    split at hstp
    · simp only [Option.some.injEq, Prod.mk.injEq] at hstp; obtain ⟨rfl, rfl, rfl, rfl⟩ := hstp
      have kq := fun lc1 H1 locs1 a b c d => hsq hne ▸ kk lc1 H1 locs1 hs' a b c d
      exact lv_lushr hx hb hdg rfl (kq lc H locs hLV hR hlocs rfl)
    · cases hstp
  · obtain rfl : len = 1 := by simpa [ai_len] using hlen
    split at hstp
    · simp only [Option.some.injEq, Prod.mk.injEq] at hstp; obtain ⟨rfl, rfl, rfl, rfl⟩ := hstp
      have kq := fun lc1 H1 locs1 a b c d => hsq hne ▸ kk lc1 H1 locs1 hs' a b c d
      exact W.lcmp hx hb hdg (kq lc H locs hLV hR hlocs rfl)
    · cases hstp
  · obtain rfl : len = 1 := by simpa [ai_len] using hlen
    split at hstp
    · simp only [Option.some.injEq, Prod.mk.injEq] at hstp; obtain ⟨rfl, rfl, rfl, rfl⟩ := hstp
      have kq := fun lc1 H1 locs1 a b c d => hsq hne ▸ kk lc1 H1 locs1 hs' a b c d
      exact lv_i2l hx hb hdg rfl (kq lc H locs hLV hR hlocs rfl)
    · cases hstp
  · obtain rfl : len = 1 := by simpa [ai_len] using hlen
    split at hstp
    · simp only [Option.some.injEq, Prod.mk.injEq] at hstp; obtain ⟨rfl, rfl, rfl, rfl⟩ := hstp
      have kq := fun lc1 H1 locs1 a b c d => hsq hne ▸ kk lc1 H1 locs1 hs' a b c d
      exact lv_l2i hx hb hdg rfl (kq lc H locs hLV hR hlocs rfl)
    · cases hstp
  · obtain rfl : len = 1 := by simpa [ai_len] using hlen
    split at hstp
    · simp only [Option.some.injEq, Prod.mk.injEq] at hstp; obtain ⟨rfl, rfl, rfl, rfl⟩ := hstp
      have kq := fun lc1 H1 locs1 a b c d => hsq hne ▸ kk lc1 H1 locs1 hs' a b c d
      exact lv_i2b hx hb hdg rfl (kq lc H locs hLV hR hlocs rfl)
    · cases hstp
  · obtain rfl : len = 1 := by simpa [ai_len] using hlen
    split at hstp
    · simp only [Option.some.injEq, Prod.mk.injEq] at hstp; obtain ⟨rfl, rfl, rfl, rfl⟩ := hstp
      have kq := fun lc1 H1 locs1 a b c d => hsq hne ▸ kk lc1 H1 locs1 hs' a b c d
      exact lv_i2s hx hb hdg rfl (kq lc H locs hLV hR hlocs rfl)
    · cases hstp
  · obtain rfl : len = 1 := by simpa [ai_len] using hlen
    split at hstp
    · simp only [Option.some.injEq, Prod.mk.injEq] at hstp; obtain ⟨rfl, rfl, rfl, rfl⟩ := hstp
      have kq := fun lc1 H1 locs1 a b c d => hsq hne ▸ kk lc1 H1 locs1 hs' a b c d
      exact lv_dup hx hb hdg rfl (kq lc H locs hLV hR hlocs rfl)
    · simp only [Option.some.injEq, Prod.mk.injEq] at hstp; obtain ⟨rfl, rfl, rfl, rfl⟩ := hstp
      have kq := fun lc1 H1 locs1 a b c d => hsq hne ▸ kk lc1 H1 locs1 hs' a b c d
      exact lv_dup hx hb hdg rfl (kq lc H locs hLV hR hlocs rfl)
    · cases hstp
  · obtain rfl : len = 1 := by simpa [ai_len] using hlen
    split at hstp
    · simp only [Option.some.injEq, Prod.mk.injEq] at hstp; obtain ⟨rfl, rfl, rfl, rfl⟩ := hstp
      have kq := fun lc1 H1 locs1 a b c d => hsq hne ▸ kk lc1 H1 locs1 hs' a b c d
      exact lv_dup2_11 hx hb hdg rfl rfl (kq lc H locs hLV hR hlocs rfl)
    · cases hstp
  · obtain rfl : len = 1 := by simpa [ai_len] using hlen
    split at hstp
    · rename_i v t
      simp only [Option.some.injEq, Prod.mk.injEq] at hstp; obtain ⟨rfl, rfl, rfl, rfl⟩ := hstp
      have kq := fun lc1 H1 locs1 a b c d => hsq hne ▸ kk lc1 H1 locs1 hs' a b c d
      exact lv_pop (va := .int v) hx hb hdg rfl (kq lc H locs hLV hR hlocs rfl)
    · cases hstp
  · obtain rfl : len = 1 := by simpa [ai_len] using hlen
    split at hstp
    · rename_i v t
      simp only [Option.some.injEq, Prod.mk.injEq] at hstp; obtain ⟨rfl, rfl, rfl, rfl⟩ := hstp
      have kq := fun lc1 H1 locs1 a b c d => hsq hne ▸ kk lc1 H1 locs1 hs' a b c d
      exact lv_pop2_2 (va := .long v) hx hb hdg rfl (kq lc H locs hLV hR hlocs rfl)
    · cases hstp
  · obtain rfl : len = 3 := by simpa [ai_len] using hlen
    split at hstp
    · rename_i rt hrt
      simp only [Option.some.injEq, Prod.mk.injEq] at hstp; obtain ⟨rfl, rfl, rfl, rfl⟩ := hstp
      obtain ⟨z1, z2⟩ := ai_tg_ok hrt
      exact lv_goto hx hb hdg z2 (kk lc H locs z1 hLV hR hlocs rfl)
    · cases hstp
  · obtain rfl : len = 3 := by simpa [ai_len] using hlen
    split at hstp
    · split at hstp
      · unfold ai_br at hstp
        split at hstp
        · rename_i rt hrt
          obtain ⟨z1, z2⟩ := ai_tg_ok hrt
          split at hstp
          · rename_i hc
            simp only [Option.some.injEq, Prod.mk.injEq] at hstp; obtain ⟨rfl, rfl, rfl, rfl⟩ := hstp
            exact lv_icmp_eq hx hb hdg z2 (fun _ => kk lc H locs z1 hLV hR hlocs rfl) (fun hn => absurd hc hn)
          · rename_i hc
            simp only [Option.some.injEq, Prod.mk.injEq] at hstp; obtain ⟨rfl, rfl, rfl, rfl⟩ := hstp
            have kq := fun lc1 H1 locs1 a b c d => hsq hne ▸ kk lc1 H1 locs1 hs' a b c d
            exact lv_icmp_eq hx hb hdg z2 (fun hn => absurd hn hc) (fun _ => (kq lc H locs hLV hR hlocs rfl))
        · cases hstp
      · unfold ai_br at hstp
        split at hstp
        · rename_i rt hrt
          obtain ⟨z1, z2⟩ := ai_tg_ok hrt
          split at hstp
          · rename_i hc
            simp only [Option.some.injEq, Prod.mk.injEq] at hstp; obtain ⟨rfl, rfl, rfl, rfl⟩ := hstp
            exact lv_icmp_ne hx hb hdg z2 (fun _ => kk lc H locs z1 hLV hR hlocs rfl) (fun hn => absurd hn hc)
          · rename_i hc
            simp only [Option.some.injEq, Prod.mk.injEq] at hstp; obtain ⟨rfl, rfl, rfl, rfl⟩ := hstp
            have kq := fun lc1 H1 locs1 a b c d => hsq hne ▸ kk lc1 H1 locs1 hs' a b c d
            exact lv_icmp_ne hx hb hdg z2 (fun hn => absurd hn hc) (fun _ => (kq lc H locs hLV hR hlocs rfl))
        · cases hstp
      · unfold ai_br at hstp
        split at hstp
        · rename_i rt hrt
          obtain ⟨z1, z2⟩ := ai_tg_ok hrt
          split at hstp
          · rename_i hc
            simp only [Option.some.injEq, Prod.mk.injEq] at hstp; obtain ⟨rfl, rfl, rfl, rfl⟩ := hstp
            exact lv_icmp_lt hx hb hdg z2 (fun _ => kk lc H locs z1 hLV hR hlocs rfl) (fun hn => absurd hc hn)
          · rename_i hc
            simp only [Option.some.injEq, Prod.mk.injEq] at hstp; obtain ⟨rfl, rfl, rfl, rfl⟩ := hstp
            have kq := fun lc1 H1 locs1 a b c d => hsq hne ▸ kk lc1 H1 locs1 hs' a b c d
            exact lv_icmp_lt hx hb hdg z2 (fun hn => absurd hn hc) (fun _ => (kq lc H locs hLV hR hlocs rfl))
        · cases hstp
      · unfold ai_br at hstp
        split at hstp
        · rename_i rt hrt
          obtain ⟨z1, z2⟩ := ai_tg_ok hrt
          split at hstp
          · rename_i hc
            simp only [Option.some.injEq, Prod.mk.injEq] at hstp; obtain ⟨rfl, rfl, rfl, rfl⟩ := hstp
            exact lv_icmp_ge hx hb hdg z2 (fun _ => kk lc H locs z1 hLV hR hlocs rfl) (fun hn => absurd hc hn)
          · rename_i hc
            simp only [Option.some.injEq, Prod.mk.injEq] at hstp; obtain ⟨rfl, rfl, rfl, rfl⟩ := hstp
            have kq := fun lc1 H1 locs1 a b c d => hsq hne ▸ kk lc1 H1 locs1 hs' a b c d
            exact lv_icmp_ge hx hb hdg z2 (fun hn => absurd hn hc) (fun _ => (kq lc H locs hLV hR hlocs rfl))
        · cases hstp
      · unfold ai_br at hstp
        split at hstp
        · rename_i rt hrt
          obtain ⟨z1, z2⟩ := ai_tg_ok hrt
          split at hstp
          · rename_i hc
            simp only [Option.some.injEq, Prod.mk.injEq] at hstp; obtain ⟨rfl, rfl, rfl, rfl⟩ := hstp
            exact lv_icmp_gt hx hb hdg z2 (fun _ => kk lc H locs z1 hLV hR hlocs rfl) (fun hn => absurd hc hn)
          · rename_i hc
            simp only [Option.some.injEq, Prod.mk.injEq] at hstp; obtain ⟨rfl, rfl, rfl, rfl⟩ := hstp
            have kq := fun lc1 H1 locs1 a b c d => hsq hne ▸ kk lc1 H1 locs1 hs' a b c d
            exact lv_icmp_gt hx hb hdg z2 (fun hn => absurd hn hc) (fun _ => (kq lc H locs hLV hR hlocs rfl))
        · cases hstp
      · unfold ai_br at hstp
        split at hstp
        · rename_i rt hrt
          obtain ⟨z1, z2⟩ := ai_tg_ok hrt
          split at hstp
          · rename_i hc
            simp only [Option.some.injEq, Prod.mk.injEq] at hstp; obtain ⟨rfl, rfl, rfl, rfl⟩ := hstp
            exact lv_icmp_le hx hb hdg z2 (fun _ => kk lc H locs z1 hLV hR hlocs rfl) (fun hn => absurd hc hn)
          · rename_i hc
            simp only [Option.some.injEq, Prod.mk.injEq] at hstp; obtain ⟨rfl, rfl, rfl, rfl⟩ := hstp
            have kq := fun lc1 H1 locs1 a b c d => hsq hne ▸ kk lc1 H1 locs1 hs' a b c d
            exact lv_icmp_le hx hb hdg z2 (fun hn => absurd hn hc) (fun _ => (kq lc H locs hLV hR hlocs rfl))
        · cases hstp
    · cases hstp
  · obtain rfl : len = 3 := by simpa [ai_len] using hlen
    split at hstp
    · split at hstp
      · unfold ai_br at hstp
        split at hstp
        · rename_i rt hrt
          obtain ⟨z1, z2⟩ := ai_tg_ok hrt
          split at hstp
          · rename_i hc
            simp only [Option.some.injEq, Prod.mk.injEq] at hstp; obtain ⟨rfl, rfl, rfl, rfl⟩ := hstp
            exact lv_if_eq hx hb hdg z2 (fun _ => kk lc H locs z1 hLV hR hlocs rfl) (fun hn => absurd hc hn)
          · rename_i hc
            simp only [Option.some.injEq, Prod.mk.injEq] at hstp; obtain ⟨rfl, rfl, rfl, rfl⟩ := hstp
            have kq := fun lc1 H1 locs1 a b c d => hsq hne ▸ kk lc1 H1 locs1 hs' a b c d
            exact lv_if_eq hx hb hdg z2 (fun hn => absurd hn hc) (fun _ => (kq lc H locs hLV hR hlocs rfl))
        · cases hstp
      · unfold ai_br at hstp
        split at hstp
        · rename_i rt hrt
          obtain ⟨z1, z2⟩ := ai_tg_ok hrt
          split at hstp
          · rename_i hc
            simp only [Option.some.injEq, Prod.mk.injEq] at hstp; obtain ⟨rfl, rfl, rfl, rfl⟩ := hstp
            exact lv_if_ne hx hb hdg z2 (fun _ => kk lc H locs z1 hLV hR hlocs rfl) (fun hn => absurd hn hc)
          · rename_i hc
            simp only [Option.some.injEq, Prod.mk.injEq] at hstp; obtain ⟨rfl, rfl, rfl, rfl⟩ := hstp
            have kq := fun lc1 H1 locs1 a b c d => hsq hne ▸ kk lc1 H1 locs1 hs' a b c d
            exact lv_if_ne hx hb hdg z2 (fun hn => absurd hn hc) (fun _ => (kq lc H locs hLV hR hlocs rfl))
        · cases hstp
      · unfold ai_br at hstp
        split at hstp
        · rename_i rt hrt
          obtain ⟨z1, z2⟩ := ai_tg_ok hrt
          split at hstp
          · rename_i hc
            simp only [Option.some.injEq, Prod.mk.injEq] at hstp; obtain ⟨rfl, rfl, rfl, rfl⟩ := hstp
            exact lv_if_lt hx hb hdg z2 (fun _ => kk lc H locs z1 hLV hR hlocs rfl) (fun hn => absurd hc hn)
          · rename_i hc
            simp only [Option.some.injEq, Prod.mk.injEq] at hstp; obtain ⟨rfl, rfl, rfl, rfl⟩ := hstp
            have kq := fun lc1 H1 locs1 a b c d => hsq hne ▸ kk lc1 H1 locs1 hs' a b c d
            exact lv_if_lt hx hb hdg z2 (fun hn => absurd hn hc) (fun _ => (kq lc H locs hLV hR hlocs rfl))
        · cases hstp
      · unfold ai_br at hstp
        split at hstp
        · rename_i rt hrt
          obtain ⟨z1, z2⟩ := ai_tg_ok hrt
          split at hstp
          · rename_i hc
            simp only [Option.some.injEq, Prod.mk.injEq] at hstp; obtain ⟨rfl, rfl, rfl, rfl⟩ := hstp
            exact lv_if_ge hx hb hdg z2 (fun _ => kk lc H locs z1 hLV hR hlocs rfl) (fun hn => absurd hc hn)
          · rename_i hc
            simp only [Option.some.injEq, Prod.mk.injEq] at hstp; obtain ⟨rfl, rfl, rfl, rfl⟩ := hstp
            have kq := fun lc1 H1 locs1 a b c d => hsq hne ▸ kk lc1 H1 locs1 hs' a b c d
            exact lv_if_ge hx hb hdg z2 (fun hn => absurd hn hc) (fun _ => (kq lc H locs hLV hR hlocs rfl))
        · cases hstp
      · unfold ai_br at hstp
        split at hstp
        · rename_i rt hrt
          obtain ⟨z1, z2⟩ := ai_tg_ok hrt
          split at hstp
          · rename_i hc
            simp only [Option.some.injEq, Prod.mk.injEq] at hstp; obtain ⟨rfl, rfl, rfl, rfl⟩ := hstp
            exact lv_if_gt hx hb hdg z2 (fun _ => kk lc H locs z1 hLV hR hlocs rfl) (fun hn => absurd hc hn)
          · rename_i hc
            simp only [Option.some.injEq, Prod.mk.injEq] at hstp; obtain ⟨rfl, rfl, rfl, rfl⟩ := hstp
            have kq := fun lc1 H1 locs1 a b c d => hsq hne ▸ kk lc1 H1 locs1 hs' a b c d
            exact lv_if_gt hx hb hdg z2 (fun hn => absurd hn hc) (fun _ => (kq lc H locs hLV hR hlocs rfl))
        · cases hstp
      · unfold ai_br at hstp
        split at hstp
        · rename_i rt hrt
          obtain ⟨z1, z2⟩ := ai_tg_ok hrt
          split at hstp
          · rename_i hc
            simp only [Option.some.injEq, Prod.mk.injEq] at hstp; obtain ⟨rfl, rfl, rfl, rfl⟩ := hstp
            exact lv_if_le hx hb hdg z2 (fun _ => kk lc H locs z1 hLV hR hlocs rfl) (fun hn => absurd hc hn)
          · rename_i hc
            simp only [Option.some.injEq, Prod.mk.injEq] at hstp; obtain ⟨rfl, rfl, rfl, rfl⟩ := hstp
            have kq := fun lc1 H1 locs1 a b c d => hsq hne ▸ kk lc1 H1 locs1 hs' a b c d
            exact lv_if_le hx hb hdg z2 (fun hn => absurd hn hc) (fun _ => (kq lc H locs hLV hR hlocs rfl))
        · cases hstp
    · cases hstp
  · obtain rfl : len = 3 := by simpa [ai_len] using hlen
    split at hstp
    · simp only [Option.some.injEq, Prod.mk.injEq] at hstp; obtain ⟨rfl, rfl, rfl, rfl⟩ := hstp
      have kq := fun lc1 H1 locs1 a b c d => hsq hne ▸ kk lc1 H1 locs1 hs' a b c d
      exact lv_ifnull hx hb hdg (kq lc H locs hLV hR hlocs rfl)
    · split at hstp
      · rename_i rt hrt
        simp only [Option.some.injEq, Prod.mk.injEq] at hstp; obtain ⟨rfl, rfl, rfl, rfl⟩ := hstp
        obtain ⟨z1, z2⟩ := ai_tg_ok hrt
        exact lv_ifnullN hx hb hdg z2 (kk lc H locs z1 hLV hR hlocs rfl)
      · cases hstp
    · cases hstp
  · obtain rfl : len = 3 := by simpa [ai_len] using hlen
    split at hstp
    · simp only [Option.some.injEq, Prod.mk.injEq] at hstp; obtain ⟨rfl, rfl, rfl, rfl⟩ := hstp
      have kq := fun lc1 H1 locs1 a b c d => hsq hne ▸ kk lc1 H1 locs1 hs' a b c d
      exact lv_ifnonnullN hx hb hdg (kq lc H locs hLV hR hlocs rfl)
    · split at hstp
      · rename_i rt hrt
        simp only [Option.some.injEq, Prod.mk.injEq] at hstp; obtain ⟨rfl, rfl, rfl, rfl⟩ := hstp
        obtain ⟨z1, z2⟩ := ai_tg_ok hrt
        exact lv_ifnonnull hx hb hdg z2 (kk lc H locs z1 hLV hR hlocs rfl)
      · cases hstp
    · cases hstp
  · split at hstp
    · split at hstp
      · rename_i ho
        split at hstp
        · rename_i rt hrt
          simp only [Option.some.injEq, Prod.mk.injEq] at hstp; obtain ⟨rfl, rfl, rfl, rfl⟩ := hstp
          obtain ⟨z1, z2⟩ := ai_tf_ok hrt
          exact lv_tableOut hx hb hdg ho z2 (kk lc H locs z1 hLV hR hlocs rfl)
        · cases hstp
      · rename_i ho
        split at hstp
        · rename_i off hoff
          split at hstp
          · rename_i rt hrt
            simp only [Option.some.injEq, Prod.mk.injEq] at hstp; obtain ⟨rfl, rfl, rfl, rfl⟩ := hstp
            obtain ⟨z1, z2⟩ := ai_tf_ok hrt
            exact lv_tableIn hx hb hdg (fun z => ho (Or.inl z)) (fun z => ho (Or.inr z)) hoff z2 (kk lc H locs z1 hLV hR hlocs rfl)
          · cases hstp
        · cases hstp
    · cases hstp
  · obtain rfl : len = 3 := by simpa [ai_len] using hlen
    split at hstp
    · split at hstp
      · rename_i fc fs hh
        split at hstp
        · rename_i hc
          subst hc
          split at hstp
          · rename_i v hv
            simp only [Option.some.injEq, Prod.mk.injEq] at hstp; obtain ⟨rfl, rfl, rfl, rfl⟩ := hstp
            have kq := fun lc1 H1 locs1 a b c d => hsq hne ▸ kk lc1 H1 locs1 hs' a b c d
            simp only [ai_lnk] at hlnk
            split at hlnk
            · rename_i q hq
              simp only [Bool.and_eq_true, decide_eq_true_eq] at hlnk
              exact va_get (D := D) (C := q.1) (T := q.2.1) (N := q.2.2) hx hb hts (ai_cls hq).1 hown hK hP _ (ai_W_at hh) hq _ hlnk.1 (hts _ (ai_gw_of hlnk.2)) (fun _ h9 => h9) (by rw [List.getElem?_map, hv]; rfl) hdg (kq lc H locs hLV hR hlocs rfl)
            · cases hlnk
          · cases hstp
        · cases hstp
      · cases hstp
    · cases hstp
  · obtain rfl : len = 3 := by simpa [ai_len] using hlen
    split at hstp
    · split at hstp
      · rename_i fc fs hh
        split at hstp
        · rename_i hc
          split at hstp
          · rename_i ty hty0
            split at hstp
            · rename_i hf
              simp only [Option.some.injEq, Prod.mk.injEq] at hstp; obtain ⟨rfl, rfl, rfl, rfl⟩ := hstp
              have kq := fun lc1 H1 locs1 a b c d => hsq hne ▸ kk lc1 H1 locs1 hs' a b c d
              obtain ⟨hc1, hc2⟩ := hc
              have hc := And.intro hc1 hc2
              subst hc1
              simp only [ai_lnk] at hlnk
              split at hlnk
              · rename_i q hq
                simp only [Bool.and_eq_true, decide_eq_true_eq] at hlnk
                have hty : parseFieldDescriptor (q.2.1 rb).2.2.1 = some ty := by simpa [ai_fty, hq, hlnk.1] using hty0
                cases hfin : (q.2.1 rb).2.2.2 with
                | false => exact va_put (D := D) (C := q.1) (T := q.2.1) (N := q.2.2) hx hb hts (ai_cls hq).1 _ (ai_cls hq).2.1 (ai_cls hq).2.2.1 hown hK hP hD hS _ (ai_W_at hh) hq _ hlnk.1 (hts _ (ai_gw_of hlnk.2.2)) (fun _ h9 => h9) hfin hty (ai_fit_ok hf.1).1 (ai_fit_ok hf.1).2 (by rw [List.length_map]; exact hc.2) hdg (fun H1 locs1 hP1 hD1 hS1 => ai_szW fun hup => kq lc H1 locs1 hLV (ai_Rp.of (locs := locs1) (by rw [ai_W_set]; simpa [ai_cE, List.map_set] using hP1) hS1 hHb (by intro z; simp at z; subst z; simp at hh) (by rw [List.length_set]; omega)) hS1.2.2 (by rw [List.length_set]))
                | true =>
                  have hff : ai_ffin fc rb = true := by simpa [ai_ffin, hq] using hfin
                  obtain ⟨g1, g2⟩ : (ai_mY M).name = "<init>" ∧ fc = ai_mC M := hf.2.elim (fun z => by rw [hff] at z; cases z) id
                  have ho : (q.2.1 rb).1 = ai_own M := by rw [hlnk.2.1, ai_own, ← g2, List.getD_eq_getElem?_getD, (ai_cls hq).2.2.2.2.2.2.1]; rfl
                  exact va_putF (D := D) (C := q.1) (T := q.2.1) (N := q.2.2) hx hb hts (ai_cls hq).1 _ (ai_cls hq).2.1 (ai_cls hq).2.2.1 hown hK hP hD hS _ (ai_W_at hh) hq _ hlnk.1 (hts _ (ai_gw_of hlnk.2.2)) (fun _ h9 => h9) hfin ((hnm.resolve_left (fun z => by rw [g2, z] at hq; cases hq)).trans g1) ho hty (ai_fit_ok hf.1).1 (ai_fit_ok hf.1).2 (by rw [List.length_map]; exact hc.2) hdg (fun H1 locs1 hP1 hD1 hS1 => ai_szW fun hup => kq lc H1 locs1 hLV (ai_Rp.of (locs := locs1) (by rw [ai_W_set]; simpa [ai_cE, List.map_set] using hP1) hS1 hHb (by intro z; simp at z; subst z; simp at hh) (by rw [List.length_set]; omega)) hS1.2.2 (by rw [List.length_set]))
              · cases hlnk
            · cases hstp
          · cases hstp
        · cases hstp
      · cases hstp
    · cases hstp
  · obtain rfl : len = 1 := by simpa [ai_len] using hlen
    split at hstp
    · split at hstp
      · rename_i k x hh
        split at hstp
        · rename_i hk
          simp only [Option.some.injEq, Prod.mk.injEq] at hstp; obtain ⟨rfl, rfl, rfl, rfl⟩ := hstp
          have kq := fun lc1 H1 locs1 a b c d => hsq hne ▸ kk lc1 H1 locs1 hs' a b c d
          obtain ⟨ty, hty⟩ : ∃ ty, ai_ty[k]? = some ty := ⟨_, List.getElem?_eq_getElem hk⟩
          obtain ⟨n, x⟩ := x
          have hw := ai_W_at (cas := cas) (f := ai_cv sa base) (base := base) hh
          rcases x with g | g | g | g | g <;> exact va_alen hx hb hK hP _ k hw (ai_tys_at hty) rfl hdg (kq lc H locs hLV hR hlocs rfl)
        · cases hstp
      · cases hstp
    · split at hstp
      · rename_i hk
        simp only [Option.some.injEq, Prod.mk.injEq] at hstp; obtain ⟨rfl, rfl, rfl, rfl⟩ := hstp
        have kq := fun lc1 H1 locs1 a b c d => hsq hne ▸ kk lc1 H1 locs1 hs' a b c d
        obtain ⟨rfl, hk2⟩ := hk
        obtain ⟨x1, x2⟩ := hX hk2
        exact va_slen hx hb x1 (by rw [hHb]; exact x2) (Nat.not_le.mpr x2) hS hdg (kq lc H locs hLV hR hlocs rfl)
      · cases hstp
    · cases hstp
  · obtain rfl : len = 1 := by simpa [ai_len] using hlen
    split at hstp
    · split at hstp
      · rename_i n f hh
        split at hstp
        · cases hstp
        · rename_i hi
          simp only [Option.some.injEq, Prod.mk.injEq] at hstp; obtain ⟨rfl, rfl, rfl, rfl⟩ := hstp
          have kq := fun lc1 H1 locs1 a b c d => hsq hne ▸ kk lc1 H1 locs1 hs' a b c d
          exact va_iald hx hb hK hP _ 0 (ai_W_at hh) (ai_tys_at rfl) hi hdg (kq lc H locs hLV hR hlocs rfl)
      · cases hstp
    · split at hstp
      · cases hstp
      · rename_i hi
        simp only [Option.some.injEq, Prod.mk.injEq] at hstp; obtain ⟨rfl, rfl, rfl, rfl⟩ := hstp
        have kq := fun lc1 H1 locs1 a b c d => hsq hne ▸ kk lc1 H1 locs1 hs' a b c d
        simp only [not_or, Decidable.not_not] at hi
        obtain ⟨hi1, hi2, rfl, hk2⟩ := hi
        obtain ⟨x1, x2⟩ := hX hk2
        exact va_sld hx hb x1 (by rw [hHb]; exact x2) (Nat.not_le.mpr x2) hS (fun z => z.elim hi1 hi2) hdg (kq lc H locs hLV hR hlocs rfl)
    · cases hstp
  · obtain rfl : len = 1 := by simpa [ai_len] using hlen
    split at hstp
    · split at hstp
      · rename_i n f hh
        split at hstp
        · cases hstp
        · rename_i hi
          simp only [Option.some.injEq, Prod.mk.injEq] at hstp; obtain ⟨rfl, rfl, rfl, rfl⟩ := hstp
          have kq := fun lc1 H1 locs1 a b c d => hsq hne ▸ kk lc1 H1 locs1 hs' a b c d
          exact va_lald hx hb hK hP _ 1 (ai_W_at hh) (ai_tys_at rfl) hi hdg (kq lc H locs hLV hR hlocs rfl)
      · cases hstp
    · cases hstp
  · obtain rfl : len = 1 := by simpa [ai_len] using hlen
    split at hstp
    · split at hstp
      · rename_i n f hh
        split at hstp
        · cases hstp
        · rename_i hi
          simp only [Option.some.injEq, Prod.mk.injEq] at hstp; obtain ⟨rfl, rfl, rfl, rfl⟩ := hstp
          have kq := fun lc1 H1 locs1 a b c d => hsq hne ▸ kk lc1 H1 locs1 hs' a b c d
          exact va_zald hx hb hK hP _ 2 (ai_W_at hh) (ai_tys_at rfl) hi hdg (kq lc H locs hLV hR hlocs rfl)
      · cases hstp
    · cases hstp
  · obtain rfl : len = 1 := by simpa [ai_len] using hlen
    split at hstp
    · split at hstp
      · rename_i k n f hh
        split at hstp
        · cases hstp
        · rename_i hi
          simp only [Option.some.injEq, Prod.mk.injEq] at hstp; obtain ⟨rfl, rfl, rfl, rfl⟩ := hstp
          have kq := fun lc1 H1 locs1 a b c d => hsq hne ▸ kk lc1 H1 locs1 hs' a b c d
          simp only [not_or, Nat.not_lt, Nat.not_le] at hi
          obtain ⟨C, hC⟩ : ∃ C, ai_ty[k]? = some (.object C) := by
            rcases (show k = 3 ∨ k = 4 ∨ k = 5 by omega) with rfl | rfl | rfl <;> exact ⟨_, rfl⟩
          refine va_aldq hx hb hK hP _ k (ai_W_at hh) (ai_tys_at hC) (fun z => z.elim hi.1 (Nat.not_le.mpr hi.2.1)) hdg ?_
          rw [ai_rf_cv (sa := sa)]
          exact (kq lc H locs hLV hR hlocs rfl)
      · cases hstp
    · cases hstp
  · obtain rfl : len = 1 := by simpa [ai_len] using hlen
    split at hstp
    · split at hstp
      · rename_i n f hh
        split at hstp
        · cases hstp
        · rename_i hi
          simp only [Option.some.injEq, Prod.mk.injEq] at hstp; obtain ⟨rfl, rfl, rfl, rfl⟩ := hstp
          have kq := fun lc1 H1 locs1 a b c d => hsq hne ▸ kk lc1 H1 locs1 hs' a b c d
          exact va_iast hx hb hK hP hD hS _ 0 (ai_W_at hh) (ai_tys_at rfl) hi hdg (fun H1 locs1 hP1 hD1 hS1 => ai_szW fun hup => kq lc H1 locs1 hLV (ai_Rp.of (locs := locs1) (by rw [ai_W_set]; simpa [ai_cE] using hP1) hS1 hHb (by intro z; simp at z; subst z; simp at hh) (by rw [List.length_set]; omega)) hS1.2.2 (by rw [List.length_set]))
      · cases hstp
    · cases hstp
  · obtain rfl : len = 1 := by simpa [ai_len] using hlen
    split at hstp
    · split at hstp
      · rename_i n f hh
        split at hstp
        · cases hstp
        · rename_i hi
          simp only [Option.some.injEq, Prod.mk.injEq] at hstp; obtain ⟨rfl, rfl, rfl, rfl⟩ := hstp
          have kq := fun lc1 H1 locs1 a b c d => hsq hne ▸ kk lc1 H1 locs1 hs' a b c d
          exact va_last hx hb hK hP hD hS _ 1 (ai_W_at hh) (ai_tys_at rfl) hi hdg (fun H1 locs1 hP1 hD1 hS1 => ai_szW fun hup => kq lc H1 locs1 hLV (ai_Rp.of (locs := locs1) (by rw [ai_W_set]; simpa [ai_cE] using hP1) hS1 hHb (by intro z; simp at z; subst z; simp at hh) (by rw [List.length_set]; omega)) hS1.2.2 (by rw [List.length_set]))
      · cases hstp
    · cases hstp
  · obtain rfl : len = 1 := by simpa [ai_len] using hlen
    split at hstp
    · split at hstp
      · rename_i n f hh
        split at hstp
        · cases hstp
        · rename_i hi
          simp only [Option.some.injEq, Prod.mk.injEq] at hstp; obtain ⟨rfl, rfl, rfl, rfl⟩ := hstp
          have kq := fun lc1 H1 locs1 a b c d => hsq hne ▸ kk lc1 H1 locs1 hs' a b c d
          exact va_zast hx hb hK hP hD hS _ 2 (ai_W_at hh) (ai_tys_at rfl) hi hdg (fun H1 locs1 hP1 hD1 hS1 => ai_szW fun hup => kq lc H1 locs1 hLV (ai_Rp.of (locs := locs1) (by rw [ai_W_set]; simpa [ai_cE] using hP1) hS1 hHb (by intro z; simp at z; subst z; simp at hh) (by rw [List.length_set]; omega)) hS1.2.2 (by rw [List.length_set]))
      · cases hstp
    · cases hstp
  · obtain rfl : len = 1 := by simpa [ai_len] using hlen
    split at hstp
    · split at hstp
      · rename_i k n f fc fs hh hv
        split at hstp
        · cases hstp
        · rename_i hi
          split at hstp
          · rename_i C q hC hq
            split at hstp
            · rename_i he
              simp only [Option.some.injEq, Prod.mk.injEq] at hstp; obtain ⟨rfl, rfl, rfl, rfl⟩ := hstp
              have kq := fun lc1 H1 locs1 a b c d => hsq hne ▸ kk lc1 H1 locs1 hs' a b c d
              subst he
              refine va_astq hx hb hK hP hD hS _ k _ fc (ai_W_at hh) (ai_tys_at hC) (ai_W_at hv) hq hi hdg ?_
              exact (fun H1 locs1 hP1 hD1 hS1 => ai_szW fun hup => kq lc H1 locs1 hLV (ai_Rp.of (locs := locs1) (by rw [ai_W_set]; simpa [ai_cE, ai_va_up] using hP1) hS1 hHb (by intro z; simp at z; subst z; simp at hh) (by rw [List.length_set]; omega)) hS1.2.2 (by rw [List.length_set]))
            · cases hstp
          · cases hstp
      · cases hstp
    · cases hstp
  · cases hstp
end AISTP
