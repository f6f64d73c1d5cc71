/-! THE CLAIM OUT OF ONE WALK OF THE LAW'S BODY. Your part is whole_start (and what it stands on); all else here is the same for every law, but numbers. -/
def R_law : String := "OneBellLaw"
def lw_P (b : Addr) (xs : List Int32) (args : Array Value) (s : State) : Prop := args = #[.ref b] ∧ s.IntsAt b xs ∧ xs.length ≤ 384 ∧ (Jvm.Cond.and given_1 narrow_1).before args s = true
def lw_Q (_ : Array Value) (s : State) (o : Outcome) (t : State) : Prop := o = .returned (some (.int 1)) ∧ Framed s o t [] 600000 7302249
def lw_Z (below : List Frame) (a : Array Value) (s : State) : State → Prop := fun t => ∃ o, t.status = .running ∧ Ended t below o ∧ lw_Q a s o t
/-- the law's own end, with 1 on the stack, nothing written that was there before, its room as the claim has it -/
theorem lw_ret {p : Program} {l : Launch} {e : Env} {s : State} {m : MethodId} {below : List Frame} {meth : Method} {c : Code} {b : Nat} (hx : p.tables.exec = Jvm.exec) (hb : c.code = code) (hr : meth.sig.returnType = ret) (hlocks : meth.locks = false) {pc : Nat} {H : Heap} {ls : Array Slot} (hdg : decode code pc = .ok (.ireturn, 1)) : W p l e room_1 s m #[Value.ref b] below meth c H [] 600000 7302249 (lw_Z below #[Value.ref b] s) (F0 m pc ls [.int 1]) := by
  intro T hT X
  obtain ⟨fs, hret, hrun, hended, hW, hframe⟩ := X.leave (v := some (.int 1)) (hlocks := hlocks) (fun h => by rw [hr] at h; cases h)
  have hmeth' : T.vm.method? m = some meth := X.method'
  refine ⟨T.setFrames fs, ?_, .returned (some (.int 1)), hrun, hended, rfl, ⟨_, rfl⟩, hW, hframe⟩
  jvm_step X.here [X.here.top, hx, hb, hdg, hmeth', hr, ret, narrow_b1]
  (try refine ⟨rfl, ?_⟩); (try refine ⟨rfl, ?_⟩)
  first | (intro acts; rw [hret _ acts rfl rfl rfl]) | rw [hret _ _ rfl rfl rfl]
  exact Steps.refl _
/-- what holds at the law's entry: the machine, the code, the tables' words (any of lw_tbl by 'hts w (by decide +kernel)'), the script of L ints xs at the cell b, what the Statement gives of the start (any of its parts by flat_of_before) -/
def lw_At (p : Program) (s : State) (m : MethodId) (meth : Method) (c : Code) (b L : Nat) (xs : Nat → Int32) : Prop :=
  p.tables.exec = Jvm.exec ∧ c.code = code ∧ meth.sig.returnType = ret ∧ c.maxLocals = 4 ∧ s.vm.findClass R_law = some m.cls ∧ (∀ w ∈ lw_tbl, w.before #[Value.ref b] s = true) ∧ va_X b L xs s s.heap ∧ b < s.heap.size ∧ meth.locks = false ∧ (Jvm.Cond.and given_1 narrow_1).before #[Value.ref b] s = true
/-- the law's run, as the interpreter has it: for every script of at most N ints it ends with 1, within the room -/
def ai_good (N : Nat) : Prop := ∀ (L : Nat) (xs : Nat → Int32), L ≤ N → ∃ (n : Nat) (o : ai_O), ai_run (L, xs) n am_293 (ar_293, ai_loc 4 [.float 99], [], []) = some o ∧ o.1 = some (.int 1) ∧ o.2.2.1 ≤ 600000 ∧ o.2.2.2 ≤ 7302249
theorem ai_ao_in : ∀ (k : Nat) (C : String), ai_ty[k]? = some (.object C) → Cond.arrayOver (.object C) ∈ lw_tbl := by
  intro k C h
  match k, h with
  | 0, h => cases h
  | 1, h => cases h
  | 2, h => cases h
  | 3, h => cases h; exact List.mem_of_getElem? (i := 262) (by decide +kernel)
  | 4, h => cases h; exact List.mem_of_getElem? (i := 263) (by decide +kernel)
  | 5, h => cases h; exact List.mem_of_getElem? (i := 264) (by decide +kernel)
  | k + 6, h => cases h
/-! the program's own texts at the start -/
def as_tm (i : Nat) : Term := Term.string (ai_so.getD i ("", 0, "")).1 (ai_so.getD i ("", 0, "")).2.1
def as_fl : List Cond := flatC (Jvm.Cond.and given_1 narrow_1)
abbrev as_val (i : Nat) : Term := .field (as_tm i) "java/lang/String" "value" "[B"
theorem as_1 : (List.range 11).all (fun i => decide (Cond.exactly (as_tm i) "java/lang/String" ∈ as_fl)) = true := by decide +kernel
theorem as_2 : (List.range 11).all (fun i => decide (Cond.eq (.field (as_tm i) "java/lang/String" "coder" "B") (.int 0) ∈ as_fl)) = true := by decide +kernel
theorem as_3 : (List.range 11).all (fun i => decide (Cond.arrayOf (as_val i) .byte ∈ as_fl)) = true := by decide +kernel
theorem as_4 : (List.range 11).all (fun i => decide (Cond.eq (.length (as_val i)) (.int (Int32.ofNat (ai_sl.getD i 0))) ∈ as_fl)) = true := by decide +kernel
theorem as_5 : (List.range 11).all (fun i => decide ((List.range (ai_sl.getD i 0)).all (fun j => decide (Cond.eq (.elem (as_val i) (.int (Int32.ofNat j))) (.int ((ai_sb.getD i []).getD j 0)) ∈ as_fl)) = true)) = true := by decide +kernel
theorem as_6 : (List.range 11).all (fun i => decide ((List.range 11).all (fun j => decide (i = j ∨ Cond.not (Cond.eq (as_tm i) (as_tm j)) ∈ as_fl ∨ Cond.not (Cond.eq (as_tm j) (as_tm i)) ∈ as_fl)) = true)) = true := by decide +kernel
theorem as_7 : Cond.eq (.static "java/lang/String" "COMPACT_STRINGS" "Z") (.int 1) ∈ as_fl := by decide +kernel
theorem as_8 : Cond.isRef (.static "jdk/internal/util/Preconditions" "SIOOBE_FORMATTER" "Ljava/util/function/BiFunction;") ∈ as_fl := by decide +kernel
def as_pos : List Nat := [537, 590, 591, 592, 593, 594, 595, 596, 597, 598, 1458]
theorem as_9 : (List.range 11).all (fun i => decide (lw_tbl[as_pos.getD i 0]? = some (Cond.stringRef (ai_so.getD i ("", 0, "")).1 (ai_so.getD i ("", 0, "")).2.1 (ai_so.getD i ("", 0, "")).2.2))) = true := by decide +kernel
theorem as_lay1 : Cond.laysStatic "java/lang/String" "COMPACT_STRINGS" "Z" ∈ lw_tbl := List.mem_of_getElem? (i := 551) (by decide +kernel)
theorem as_lay2 : Cond.laysStatic "jdk/internal/util/Preconditions" "SIOOBE_FORMATTER" "Ljava/util/function/BiFunction;" ∈ lw_tbl := List.mem_of_getElem? (i := 567) (by decide +kernel)
def as_sa (b : Nat) (adK adV : Nat → Nat) (n : Nat) : Nat := if n = 99 then b else if n < 200 then adK n else adV (n - 200)
theorem as_E {args : Array Value} {s : State} (b : Nat) (hts : ∀ w ∈ lw_tbl, w.before args s = true) (hgv : (Jvm.Cond.and given_1 narrow_1).before args s = true) : ∃ sa : Nat → Nat, sa 99 = b ∧ ai_E sa s.heap.size s.heap s := by
  have hs := flat_of_before _ hgv
  have hA : ∀ a : Nat, a < s.heap.size → ¬ ai_A s.heap.size a := fun a h => Nat.not_le.mpr h
  have htg : ∀ w ∈ ai_gw, w.before args s = true := fun w hw => hts w (List.mem_filter.mp hw).1
  obtain ⟨adK, adV, hV, hev⟩ := vk_Sof (N := 11) (tm := as_tm) (len := ai_sl) (byt := ai_sb) (A := ai_A s.heap.size) (fun i _ => sm_sln i) (fun i hi => hs _ (co_dec as_1 hi)) (fun i hi => hs _ (co_dec as_2 hi)) (fun i hi => hs _ (co_dec as_3 hi)) (fun i hi => hs _ (co_dec as_4 hi)) (fun i hi j hj => hs _ (co_dec (co_dec as_5 hi) hj)) (fun i j hi hj hne => by
    rcases co_dec (co_dec as_6 hi) hj with z | z | z
    · exact absurd z hne
    · exact Or.inl (hs _ z)
    · exact Or.inr (hs _ z)) hA
  have e1 : ∀ i, i < 11 → as_sa b adK adV i = adK i := fun i hi => by simp only [as_sa]; rw [if_neg (by omega), if_pos (by omega)]
  have e2 : ∀ i, i < 11 → as_sa b adK adV (200 + i) = adV i := fun i hi => by simp only [as_sa]; rw [if_neg (by omega), if_neg (by omega), show 200 + i - 200 = i by omega]
  refine ⟨as_sa b adK adV, rfl, fun q hq a i y z hw => va_Nw.of rfl (hts _ (List.mem_of_getElem? hw)), fun k C hk => va_AO.of (hts _ (ai_ao_in k C hk)), fun k q hk => ?_, ⟨fun i hi => ?_, fun i j hi hj e => hV.2 i j hi hj (by rw [← e1 i hi, ← e1 j hj]; exact e)⟩, va_Zof (hts _ as_lay1) (htg _ (ai_gw_of sw_ini)) (va_eqt (hs _ as_7)) hA, va_Zqof (hts _ as_lay2) (htg _ (ai_gw_of sw_iniP)) (hs _ as_8) hA⟩
  · have hk11 : k < 11 := (List.getElem?_eq_some_iff.mp hk).1
    have hq : ai_so.getD k ("", 0, "") = q := by rw [List.getD_eq_getElem?_getD, hk]; rfl
    have h9 := co_dec as_9 hk11
    have hv := hev k hk11
    rw [as_tm, hq] at hv
    rw [hq] at h9
    rw [e1 k hk11]
    exact vk_R.of (A := args) (hts _ (List.mem_of_getElem? h9)) hv
  · have hz := hV.1 i hi
    show va_O "java/lang/String" (as_sa b adK adV i) _ _ _ ∧ va_OF "java/lang/String" "coder" "B" (.int 0) (as_sa b adK adV i) _ _ _ ∧ va_OF "java/lang/String" "value" "[B" (.ref (as_sa b adK adV (200 + i))) (as_sa b adK adV i) _ _ _ ∧ va_T .byte (as_sa b adK adV (200 + i)) _ _ _ _ _
    rw [e1 i hi, e2 i hi]
    exact hz
theorem ai_mem_law : am_293 ∈ ai_mt := List.mem_of_getElem? (i := 293) rfl
set_option maxHeartbeats 4000000 in
theorem ai_start {p : Program} {e : Env} {s : State} {m : MethodId} {below : List Frame} {meth : Method} {c : Code} (l : Launch) {b L N : Nat} {xs : Nat → Int32} (G : ai_good N) (hL : L ≤ N) (C0 : lw_At p s m meth c b L xs) : W p l e room_1 s m #[Value.ref b] below meth c s.heap [] 0 0 (lw_Z below #[Value.ref b] s) (entryFrame m ([Value.ref b] : List Value).toArray 4) := by
  obtain ⟨hx, hb, hr, hml, hown, hts, hX, hbl, hlocks, hgv⟩ := id C0
  obtain ⟨n, o, hrun, h1, hc1, hc2⟩ := G L xs hL
  have htg : ∀ w ∈ ai_gw, w.before #[Value.ref b] s = true := fun w hw => hts w (List.mem_filter.mp hw).1
  have hex : ∀ k : Nat, ∃ (cc : ClassId) (iS : Nat → Nat), ∀ q : vw_C, ai_cl[k]? = some q → u_Kn s q.1 q.2.1 q.2.2 cc iS := by
    intro k
    cases h : ai_cl[k]? with
    | none => exact ⟨m.cls, fun _ => 0, fun q hq => by cases hq⟩
    | some q =>
      obtain ⟨cc, iS, hk⟩ := u_known htg (ai_cls h).1 (htg _ (ai_cls h).2.2.2.1)
      exact ⟨cc, iS, fun q' hq' => by cases hq'; exact hk⟩
  have hpr : ∀ ty : FieldType, Cond.arrayClass ty ∈ ai_gw → (∀ C, ty ≠ .object C) → ∃ cA : ClassId, ArrOfT s cA ty ∧ va_RA s cA ty := by
    intro ty hty hno
    obtain ⟨cA, kA, comp, f1, f2, f3⟩ := Cond.arrayClass_spec (htg _ hty)
    refine ⟨cA, fun n z => ⟨fun k h => (by cases h), kA, f2, comp, f3⟩, ?_⟩
    cases ty with
    | object C => exact absurd rfl (hno C)
    | _ => exact f1
  have hob : ∀ C : String, Cond.arrayOver (.object C) ∈ lw_tbl → ∃ cA : ClassId, ArrOfT s cA (.object C) ∧ va_RA s cA (.object C) := by
    intro C hC
    obtain ⟨comp, cA, kA, f1, f2, f3, f4, f5⟩ := Cond.arrayOver_spec (hts _ hC)
    exact ⟨cA, fun n z => ⟨fun k h => (by cases h), kA, f3, comp, f4⟩, kA, comp, f3, f4, f1, f5⟩
  have hea : ∀ k : Nat, ∃ cA : ClassId, ∀ ty : FieldType, ai_ty[k]? = some ty → ArrOfT s cA ty ∧ va_RA s cA ty := by
    intro k
    cases h : ai_ty[k]? with
    | none => exact ⟨m.cls, fun q hq => by cases hq⟩
    | some ty =>
      have : ∃ cA : ClassId, ArrOfT s cA ty ∧ va_RA s cA ty := by
        match k, h with
        | 0, h => cases h; exact hpr _ (ai_gw_of ai_ok_ap.1) (fun C z => by cases z)
        | 1, h => cases h; exact hpr _ (ai_gw_of ai_ok_ap.2.1) (fun C z => by cases z)
        | 2, h => cases h; exact hpr _ (ai_gw_of ai_ok_ap.2.2) (fun C z => by cases z)
        | 3, h => cases h; exact hob _ (ai_ao_in 3 _ rfl)
        | 4, h => cases h; exact hob _ (ai_ao_in 4 _ rfl)
        | 5, h => cases h; exact hob _ (ai_ao_in 5 _ rfl)
        | k + 6, h => cases h
      obtain ⟨cA, hA⟩ := this
      exact ⟨cA, fun q hq => by cases hq; exact hA⟩
  obtain ⟨dC, hdC⟩ := Classical.axiomOfChoice hex
  obtain ⟨dI, hdI⟩ := Classical.axiomOfChoice hdC
  obtain ⟨cas, hcas⟩ := Classical.axiomOfChoice hea
  have hK : va_K (dC, dI) ai_cl (ai_tys cas) s := by
    refine ⟨fun k q hq => hdI k q hq, fun k q hq => ?_⟩
    have hl : k < 6 := by have := (List.getElem?_eq_some_iff.mp hq).1; simpa [ai_tys] using this
    obtain ⟨ty, hty⟩ : ∃ ty, ai_ty[k]? = some ty := ⟨_, List.getElem?_eq_getElem hl⟩
    rw [ai_tys_at hty] at hq
    cases hq
    exact hcas k ty hty
  obtain ⟨sa, hsa, hE⟩ := as_E b hts hgv
  have hC : ai_Cx (dC, dI) cas sa s.heap.size s.heap (L, xs) am_293 p room_1 s m #[Value.ref b] meth c :=
    ⟨hx, hb, hml, hown, htg, hK, Or.inl rfl, by decide, by decide, hE, fun _ => by rw [hsa]; exact ⟨hX, hbl⟩, fun _ _ => rfl⟩
  have hav : ([Value.ref b] : List Value) = [Value.float 99].map (ai_cv sa s.heap.size) := by show _ = [Value.ref (sa 99)]; rw [hsa]
  have hLV := ai_LV.entry (sa := sa) (base := s.heap.size) (n := 4) (vs := [.float 99]) (by decide)
  rw [← hav] at hLV
  rw [lg_entry_eq]
  refine ai_sound n am_293 ar_293 (ai_loc 4 [.float 99]) [] [] o hrun ai_mem_law (List.suffix_refl _) p e room_1 s m #[Value.ref b] below meth c s.heap [] 0 0 (lw_Z below #[Value.ref b] s) _ hC hLV ⟨rfl, fun k q h => by simp [ai_W] at h, fun q _ => rfl, rfl⟩ (fun q hq => by simp at hq) rfl (by show 0 + o.2.2.1 ≤ 600000; omega) (by show 0 + o.2.2.2 ≤ 7302249; omega) ?_
  intro pc1 lc1 H1 locs1 hd hrt hRp hl1
  rw [h1] at hd ⊢
  refine va_forget hl1 ?_
  refine W.widen (k := 600000) (n := 7302249) (by omega) (by omega) ?_
  exact lw_ret hx hb hr hlocks hd
