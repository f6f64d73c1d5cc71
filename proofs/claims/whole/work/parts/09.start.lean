/-! THE CLAIM OUT OF ONE WALK OF THE LAW'S BODY. Your part is whole_start (and what it stands on); all else here is the same for every law, but numbers. -/
def R_law : String := "OneBellLaw"
def lw_P (b : Addr) (xs : List Int32) (args : Array Value) (s : State) : Prop := args = #[.ref b] ∧ s.IntsAt b xs ∧ xs.length ≤ 384 ∧ (Jvm.Cond.and given_1 narrow_1).before args s = true
def lw_Q (_ : Array Value) (s : State) (o : Outcome) (t : State) : Prop := o = .returned (some (.int 1)) ∧ Framed s o t [] 600000 7302249
def lw_Z (below : List Frame) (a : Array Value) (s : State) : State → Prop := fun t => ∃ o, t.status = .running ∧ Ended t below o ∧ lw_Q a s o t
/-- the law's own end, with 1 on the stack, nothing written that was there before, its room as the claim has it -/
theorem lw_ret {p : Program} {l : Launch} {e : Env} {s : State} {m : MethodId} {below : List Frame} {meth : Method} {c : Code} {b : Nat} (hx : p.tables.exec = Jvm.exec) (hb : c.code = code) (hr : meth.sig.returnType = ret) (hlocks : meth.locks = false) {pc : Nat} {H : Heap} {ls : Array Slot} (hdg : decode code pc = .ok (.ireturn, 1)) : W p l e room_1 s m #[Value.ref b] below meth c H [] 600000 7302249 (lw_Z below #[Value.ref b] s) (F0 m pc ls [.int 1]) := by
  intro T hT X
  obtain ⟨fs, hret, hrun, hended, hW, hframe⟩ := X.leave (v := some (.int 1)) (hlocks := hlocks) (fun h => by rw [hr] at h; cases h)
  have hmeth' : T.vm.method? m = some meth := X.method'
  refine ⟨T.setFrames fs, ?_, .returned (some (.int 1)), hrun, hended, rfl, ⟨_, rfl⟩, hW, hframe⟩
  jvm_step X.here [X.here.top, hx, hb, hdg, hmeth', hr, ret, narrow_b1]
  (try refine ⟨rfl, ?_⟩); (try refine ⟨rfl, ?_⟩)
  first | (intro acts; rw [hret _ acts rfl rfl rfl]) | rw [hret _ _ rfl rfl rfl]
  exact Steps.refl _
/-- what holds at the law's entry: the machine, the code, the tables' words (any of lw_tbl by 'hts w (by decide +kernel)'), the script of L ints xs at the cell b, what the Statement gives of the start (any of its parts by flat_of_before) -/
def lw_At (p : Program) (s : State) (m : MethodId) (meth : Method) (c : Code) (b L : Nat) (xs : Nat → Int32) : Prop :=
  p.tables.exec = Jvm.exec ∧ c.code = code ∧ meth.sig.returnType = ret ∧ c.maxLocals = 4 ∧ s.vm.findClass R_law = some m.cls ∧ (∀ w ∈ lw_tbl, w.before #[Value.ref b] s = true) ∧ va_X b L xs s s.heap ∧ b < s.heap.size ∧ meth.locks = false ∧ (Jvm.Cond.and given_1 narrow_1).before #[Value.ref b] s = true
/-- the law's run, as the interpreter has it: for every script of at most N ints it ends with 1, within the room -/
def ai_good (N : Nat) : Prop := ∀ (L : Nat) (xs : Nat → Int32), L ≤ N → ∃ (n : Nat) (o : ai_O), ai_run (L, xs) n am_295 (ar_295, ai_loc 4 [.float 99], [], []) = some o ∧ o.1 = some (.int 1) ∧ o.2.2.1 ≤ 600000 ∧ o.2.2.2 ≤ 7302249
theorem ai_ao_in : ∀ (k : Nat) (C : String), ai_ty[k]? = some (.object C) → Cond.arrayOver (.object C) ∈ lw_tbl := by
  intro k C h
  match k, h with
  | 0, h => cases h
  | 1, h => cases h
  | 2, h => cases h
  | 3, h => cases h; exact List.mem_of_getElem? (i := 262) (by decide +kernel)
  | 4, h => cases h; exact List.mem_of_getElem? (i := 263) (by decide +kernel)
  | 5, h => cases h; exact List.mem_of_getElem? (i := 264) (by decide +kernel)
  | k + 6, h => cases h
theorem ai_mem_law : am_295 ∈ ai_mt := List.mem_of_getElem? (i := 295) rfl
set_option maxHeartbeats 4000000 in
theorem ai_start {p : Program} {e : Env} {s : State} {m : MethodId} {below : List Frame} {meth : Method} {c : Code} (l : Launch) {b L N : Nat} {xs : Nat → Int32} (G : ai_good N) (hL : L ≤ N) (C0 : lw_At p s m meth c b L xs) : W p l e room_1 s m #[Value.ref b] below meth c s.heap [] 0 0 (lw_Z below #[Value.ref b] s) (entryFrame m ([Value.ref b] : List Value).toArray 4) := by
  obtain ⟨hx, hb, hr, hml, hown, hts, hX, hbl, hlocks, hgv⟩ := id C0
  obtain ⟨n, o, hrun, h1, hc1, hc2⟩ := G L xs hL
  have htg : ∀ w ∈ ai_gw, w.before #[Value.ref b] s = true := fun w hw => hts w (List.mem_filter.mp hw).1
  have hex : ∀ k : Nat, ∃ (cc : ClassId) (iS : Nat → Nat), ∀ q : vw_C, ai_cl[k]? = some q → u_Kn s q.1 q.2.1 q.2.2 cc iS := by
    intro k
    cases h : ai_cl[k]? with
    | none => exact ⟨m.cls, fun _ => 0, fun q hq => by cases hq⟩
    | some q =>
      obtain ⟨cc, iS, hk⟩ := u_known htg (ai_cls h).1 (htg _ (ai_cls h).2.2.2.1)
      exact ⟨cc, iS, fun q' hq' => by cases hq'; exact hk⟩
  have hpr : ∀ ty : FieldType, Cond.arrayClass ty ∈ ai_gw → (∀ C, ty ≠ .object C) → ∃ cA : ClassId, ArrOfT s cA ty ∧ va_RA s cA ty := by
    intro ty hty hno
    obtain ⟨cA, kA, comp, f1, f2, f3⟩ := Cond.arrayClass_spec (htg _ hty)
    refine ⟨cA, fun n z => ⟨fun k h => (by cases h), kA, f2, comp, f3⟩, ?_⟩
    cases ty with
    | object C => exact absurd rfl (hno C)
    | _ => exact f1
  have hob : ∀ C : String, Cond.arrayOver (.object C) ∈ lw_tbl → ∃ cA : ClassId, ArrOfT s cA (.object C) ∧ va_RA s cA (.object C) := by
    intro C hC
    obtain ⟨comp, cA, kA, f1, f2, f3, f4, f5⟩ := Cond.arrayOver_spec (hts _ hC)
    exact ⟨cA, fun n z => ⟨fun k h => (by cases h), kA, f3, comp, f4⟩, kA, comp, f3, f4, f1, f5⟩
  have hea : ∀ k : Nat, ∃ cA : ClassId, ∀ ty : FieldType, ai_ty[k]? = some ty → ArrOfT s cA ty ∧ va_RA s cA ty := by
    intro k
    cases h : ai_ty[k]? with
    | none => exact ⟨m.cls, fun q hq => by cases hq⟩
    | some ty =>
      have : ∃ cA : ClassId, ArrOfT s cA ty ∧ va_RA s cA ty := by
        match k, h with
        | 0, h => cases h; exact hpr _ (ai_gw_of ai_ok_ap.1) (fun C z => by cases z)
        | 1, h => cases h; exact hpr _ (ai_gw_of ai_ok_ap.2.1) (fun C z => by cases z)
        | 2, h => cases h; exact hpr _ (ai_gw_of ai_ok_ap.2.2) (fun C z => by cases z)
        | 3, h => cases h; exact hob _ (ai_ao_in 3 _ rfl)
        | 4, h => cases h; exact hob _ (ai_ao_in 4 _ rfl)
        | 5, h => cases h; exact hob _ (ai_ao_in 5 _ rfl)
        | k + 6, h => cases h
      obtain ⟨cA, hA⟩ := this
      exact ⟨cA, fun q hq => by cases hq; exact hA⟩
  obtain ⟨dC, hdC⟩ := Classical.axiomOfChoice hex
  obtain ⟨dI, hdI⟩ := Classical.axiomOfChoice hdC
  obtain ⟨cas, hcas⟩ := Classical.axiomOfChoice hea
  have hK : va_K (dC, dI) ai_cl (ai_tys cas) s := by
    refine ⟨fun k q hq => hdI k q hq, fun k q hq => ?_⟩
    have hl : k < 6 := by have := (List.getElem?_eq_some_iff.mp hq).1; simpa [ai_tys] using this
    obtain ⟨ty, hty⟩ : ∃ ty, ai_ty[k]? = some ty := ⟨_, List.getElem?_eq_getElem hl⟩
    rw [ai_tys_at hty] at hq
    cases hq
    exact hcas k ty hty
  have hE : ai_E s := ⟨fun q hq a i y z hw => va_Nw.of rfl (hts _ (List.mem_of_getElem? hw)), fun k C hk => va_AO.of (hts _ (ai_ao_in k C hk))⟩
  have hC : ai_Cx (dC, dI) cas (fun _ => b) s.heap.size s.heap (L, xs) am_295 p room_1 s m #[Value.ref b] meth c :=
    ⟨hx, hb, hml, hown, htg, hK, Or.inl rfl, by decide, by decide, hE, fun _ => ⟨hX, hbl⟩⟩
  rw [lg_entry_eq]
  refine ai_sound n am_295 ar_295 (ai_loc 4 [.float 99]) [] [] o hrun ai_mem_law (List.suffix_refl _) p e room_1 s m #[Value.ref b] below meth c s.heap [] 0 0 (lw_Z below #[Value.ref b] s) _ hC (ai_LV.entry (vs := [.float 99]) (by decide)) ⟨rfl, fun k q h => by simp [ai_W] at h, fun q _ => rfl, rfl⟩ (fun q hq => by simp at hq) rfl (by show 0 + o.2.2.1 ≤ 600000; omega) (by show 0 + o.2.2.2 ≤ 7302249; omega) ?_
  intro pc1 lc1 H1 locs1 hd hrt hRp hl1
  rw [h1] at hd ⊢
  refine va_forget hl1 ?_
  refine W.widen (k := 600000) (n := 7302249) (by omega) (by omega) ?_
  exact lw_ret hx hb hr hlocks hd
