/-! SOUNDNESS: what the interpreter answers, the machine does -/
def ai_poi : Nat := 7027
def ai_poc : Nat := 7028
theorem ai_oi : ai_w ai_poi (.instanceMethod objectInit) = true ∧ ai_w ai_poc (.code objectInit ⟨#[0xb1]⟩ 1 none) = true := by decide +kernel
theorem ai_cpw : ai_w 9064 (.native arraycopyName) = true ∧ ai_w 9063 (.static arraycopyName) = true ∧ ai_w 7019 (.initialized "java/lang/System") = true := by decide +kernel
def ai_plain : Value → Bool
  | .ref _ => false
  | .float _ => false
  | _ => true
theorem ai_plain_ok {sa : Nat → Nat} {base : Nat} {fs : List Value} (h : fs.all ai_plain = true) : fs.map (ai_cv sa base) = fs := by
  induction fs with
  | nil => rfl
  | cons v t ih =>
    simp only [List.all_cons, Bool.and_eq_true] at h
    rw [List.map_cons, ih h.2]
    congr 1
    cases v <;> first | rfl | (simp [ai_plain] at h)
theorem ai_df_plain : ai_df.all (fun fs => fs.all ai_plain) = true := by decide +kernel
theorem ai_ra {U : State} {c1 c2 : ClassId} {ty : FieldType} (h1 : va_RA U c1 ty) (h2 : va_RA U c2 ty) : c1 = c2 := by
  cases ty with
  | object C =>
    obtain ⟨_, _, -, -, -, e1⟩ := h1
    obtain ⟨_, _, -, -, -, e2⟩ := h2
    exact Option.some.inj (e1.symm.trans e2)
  | _ => exact Option.some.inj (Eq.trans (Eq.symm h1) h2)
theorem ai_newq {D : va_G} {cas : Nat → ClassId} {f : Value → Value} {base q : Nat} {h : ai_H} {ev : va_E} {H1 : Heap} (hP : va_P D ai_cl (ai_W cas f base 0 h ++ [(q, ev)]) H1) (hD : va_D (ai_A base) (ai_W cas f base 0 h ++ [(q, ev)])) (hup : H1.size ≤ base + h.length + 1) : q = base + h.length := by
  have hl : (ai_W cas f base 0 h ++ [(q, ev)])[h.length]? = some (q, ev) := by
    rw [List.getElem?_append_right (by rw [ai_W_len]; omega), ai_W_len]; simp
  have h1 : q < H1.size := (hP _ _ hl).lt
  have h2 : base ≤ q := hD.2 _ _ hl
  rcases Nat.lt_or_ge q (base + h.length) with z | z
  · exfalso
    have hi : q - base < h.length := by omega
    obtain ⟨c, hc⟩ : ∃ c, h[q - base]? = some c := ⟨_, List.getElem?_eq_getElem hi⟩
    have h3 : (ai_W cas f base 0 h ++ [(q, ev)])[q - base]? = some (base + (q - base), ai_cE cas f base c) := by
      rw [List.getElem?_append_left (by rw [ai_W_len]; exact hi)]
      exact ai_W_at hc
    have := hD.1 _ _ _ _ h3 hl (by show base + (q - base) = q; omega)
    omega
  · omega
def ai_ri : Option Value → Instr
  | none => .return_
  | some (.int _) => .ireturn
  | _ => .lreturn
def ai_rt (M : ai_M) : Option Value → Prop
  | none => ai_mT M = none
  | some (.int v) => ai_rok (ai_mT M) v = true
  | some (.long _) => ai_mT M = some .long
  | _ => False
def ai_Pc (D : va_G) (cas : Nat → ClassId) (sa : Nat → Nat) (base : Nat) (Hb : Heap) (av : List Value) (h : ai_H) : Array Value → State → Prop := fun a U => a = (av.map (ai_cv sa base)).toArray ∧ ai_Rp D cas sa base Hb h U.heap ∧ va_K D ai_cl (ai_tys cas) U ∧ ai_E sa base Hb U
def ai_Qc (D : va_G) (cas : Nat → ClassId) (sa : Nat → Nat) (base : Nat) (Hb : Heap) (r : Option Value) (h : ai_H) : Array Value → State → Outcome → State → Prop := fun _ _ o t => o = .returned (r.map (ai_cv sa base)) ∧ ai_Rp D cas sa base Hb h t.heap
theorem ai_blind {D : va_G} {cas : Nat → ClassId} {sa : Nat → Nat} {base : Nat} {Hb : Heap} {av : List Value} {h : ai_H} : FrameBlind (ai_Pc D cas sa base Hb av h) := fun a U g mk q => ⟨q.1, q.2.1, va_K.moved (u := U) (U := U.calling g mk a) (Vm.Alike.refl U.vm) q.2.2.1, q.2.2.2.same rfl⟩
section AICALL
variable {p : Program} {l : Launch} {e : Env} {R : Room} {s : State} {m : MethodId} {args : Array Value} {below : List Frame} {meth : Method} {c : Code} {H : Heap} {locs : List Loc} {cells slots : Nat} {Q : State → Prop}
theorem ai_callW {pc mc ms : Nat} {ls : Array Slot} {st0 rest : List Value} {Qa : State → Outcome → State → Prop} {free : Addr → Prop} (hr : va_Run p l e R s m args below meth c H locs cells slots mc ms (F0 m pc ls st0) rest Qa free)
    (kk : ∀ (v : Option Value) (st₀ t : State) (L : List Loc), Qa st₀ (.returned v) t → (∀ q ∈ L, free q.base) → W p l e R s m args below meth c t.heap (locs ++ L) (cells + mc) (slots + ms) Q (F0 m (pc + 3) ls (v.toList ++ rest))) : W p l e R s m args below meth c H locs cells slots Q (F0 m pc ls st0) := by
  intro T hT X
  obtain ⟨v, st₀, t, T', L, h0, X', hL, e1, e2, hq, st⟩ := hr T hT X
  obtain ⟨t2, a1, b1⟩ := kk v st₀ t L hq hL T' e1 X'
  exact ⟨t2, st t2 a1, b1⟩
end AICALL
/-- the statement of soundness at a fuel -/
def ai_Snd (l : Launch) (D : va_G) (cas : Nat → ClassId) (sa : Nat → Nat) (base : Nat) (Hb : Heap) (X : ai_X) (n : Nat) : Prop :=
  ∀ (M : ai_M) (rs : List ai_R) (ls : ai_L) (st : List Value) (h : ai_H) (o : ai_O), ai_run X n M (rs, ls, st, h) = some o → M ∈ ai_mt → rs <:+ ai_mR M →
  ∀ (p : Program) (e : Env) (R : Room) (s : State) (m : MethodId) (args : Array Value) (below : List Frame) (meth : Method) (c : Code) (H : Heap) (locs : List Loc) (cells slots : Nat) (Q : State → Prop) (lc : Array Slot),
  ai_Cx D cas sa base Hb X M p R s m args meth c → ai_LV sa base (ai_mL M) ls lc → ai_Rp D cas sa base Hb h H → (∀ q ∈ locs, base ≤ q.base) → s.heap.size + cells = base + h.length → cells + o.2.2.1 ≤ R.cells → slots + o.2.2.2 ≤ R.slots →
  (∀ (pc1 : Nat) (lc1 : Array Slot) (H1 : Heap) (locs1 : List Loc), decode (ai_mB M) pc1 = .ok (ai_ri o.1, 1) → ai_rt M o.1 → ai_Rp D cas sa base Hb o.2.1 H1 → (∀ q ∈ locs1, base ≤ q.base) → W p l e R s m args below meth c H1 locs1 (cells + o.2.2.1) (slots + o.2.2.2) Q (F0 m pc1 lc1 (o.1.toList.map (ai_cv sa base)))) →
  W p l e R s m args below meth c H locs cells slots Q (F0 m (ai_pc rs) lc (st.map (ai_cv sa base)))
/-- a method's facts -/
theorem ai_mth {M : ai_M} (hM : M ∈ ai_mt) (hk : ai_mK M < 9) : Cond.code (ai_mY M) (ai_mB M) (ai_mL M) (ai_mT M) ∈ ai_gw ∧ (ai_mY M).cls = ai_own M ∧ ((ai_mY M).cls ≠ "java/lang/invoke/MethodHandle" ∧ (ai_mY M).cls ≠ "java/lang/invoke/VarHandle" ∧ (parseMethodDescriptor (ai_mY M).desc).map (fun d => d.parameters.length) = some (ai_mN M)) ∧ plainName (ai_mY M).cls = true ∧ Cond.initialized (ai_mY M).cls ∈ ai_gw ∧ ai_pc (ai_mR M) = 0 ∧ ai_mC M ≠ 12 ∧ ai_mkd M = true := by
  rcases (ai_ok_m M hM).1 with h | h
  · exact absurd hk (by have := ai_law12 M hM h; omega)
  · simp only [ai_mok, Bool.and_eq_true, decide_eq_true_eq] at h
    obtain ⟨h1, h2, h3, h4, h5, h6, h7, h8⟩ := h
    refine ⟨ai_gw_of h1, h2, h3, h4, by rw [h2]; exact ai_gw_of h5, ?_, h7, h8⟩
    cases hr : ai_mR M with
    | nil => rw [hr] at h6; cases h6
    | cons r t => rw [hr] at h6; exact Option.some.inj h6
theorem ai_met {l : Launch} {D : va_G} {cas : Nat → ClassId} {sa : Nat → Nat} {base : Nat} {Hb : Heap} {X : ai_X} {n : Nat} (S : ai_Snd l D cas sa base Hb X n) {M : ai_M} (hM : M ∈ ai_mt) (hk : ai_mK M < 9) {av : List Value} {h : ai_H} {o : ai_O} (hfl : (ai_fl av).length ≤ ai_mL M) (hrun : ai_run X n M (ai_mR M, ai_loc (ai_mL M) av, [], h) = some o) :
    Met l (ai_mY M) (.code (ai_mY M) (ai_mB M) (ai_mL M) (ai_mT M) :: ai_gw) { frames := ai_mF M, cells := o.2.2.1, slots := o.2.2.2, locals := ai_mO M } (ai_Pc D cas sa base Hb av h) (ai_Qc D cas sa base Hb o.1 o.2.1) o.2.2.1 o.2.2.2 (ai_A base) := by
  obtain ⟨f1, f2, f3, f4, f5, f6, f7, f8⟩ := ai_mth hM hk
  refine Met.ofW (cc := ai_mB M) (maxL := ai_mL M) (ret := ai_mT M) f4 rfl ?_
  intro p e s m args below meth c s₁ B hml hv
  obtain ⟨rfl, hRp, hK, hE⟩ := hv
  have hts := atoms_spec (ws := .code (ai_mY M) (ai_mB M) (ai_mL M) (ai_mT M) :: ai_gw) B.pre
  have hown : s.vm.findClass (ai_own M) = some m.cls := by rw [← f2]; exact findClass_of_methodNamed B.named
  have hlocks := B.notSynchronized
  have hr := B.returns
  rw [lg_entry_eq]
  have hC : ai_Cx D cas sa base Hb X M p { frames := ai_mF M, cells := o.2.2.1, slots := o.2.2.2, locals := ai_mO M } s m (av.map (ai_cv sa base)).toArray meth c :=
    ⟨B.exec, B.bytes, hml, hown, fun w hw => hts w (List.mem_cons_of_mem _ hw), hK, Or.inr (name_of_methodNamed B.named B.method).1, Nat.le_refl _, Nat.le_refl _, hE, fun z => absurd z f7, hRp.2.2.1⟩
  have K := S M (ai_mR M) (ai_loc (ai_mL M) av) [] h o hrun hM (List.suffix_refl _) p e { frames := ai_mF M, cells := o.2.2.1, slots := o.2.2.2, locals := ai_mO M } s m (av.map (ai_cv sa base)).toArray below meth c s.heap [] 0 0 (MQ below (ai_Qc D cas sa base Hb o.1 o.2.1) (av.map (ai_cv sa base)).toArray s o.2.2.1 o.2.2.2 (ai_A base)) _ hC (ai_LV.entry hfl) hRp (fun q hq => by simp at hq) (by rw [hRp.1]; omega) (by simp) (by simp) ?_
  · rw [f6] at K
    exact K
  · intro pc1 lc1 H1 locs1 hd hrt hRp1 hl1
    rw [Nat.zero_add, Nat.zero_add]
    obtain ⟨ov, oh, oc, os⟩ := o
    simp only at hd hrt hRp1 ⊢
    match ov, hd, hrt with
    | none, hd, hrt =>
      exact W.vret B.exec B.bytes (hr.trans hrt) (fun t ht hW => ⟨rfl, by rw [ht]; exact hRp1⟩) hl1 hd
    | some (.int v), hd, hrt =>
      change ai_rok (ai_mT M) v = true at hrt
      cases hT : ai_mT M with
      | none => rw [hT] at hrt; simp [ai_rok] at hrt
      | some ty =>
        rw [hT] at hrt hr
        refine W.zret B.exec B.bytes hr ?_ (fun t ht hW => ⟨rfl, by rw [ht]; exact hRp1⟩) hl1 hd
        cases ty <;> simp [ai_rok] at hrt <;> first | rfl | (rcases hrt with rfl | rfl <;> rfl)
    | some (.long v), hd, hrt =>
      exact W.lret B.exec B.bytes (hr.trans hrt) (fun t ht hW => ⟨rfl, by rw [ht]; exact hRp1⟩) hl1 hd
    | some (.ref _), hd, hrt => exact hrt.elim
    | some .null, hd, hrt => exact hrt.elim
    | some (.float _), hd, hrt => exact hrt.elim
    | some (.double _), hd, hrt => exact hrt.elim
    | some (.retAddr _), hd, hrt => exact hrt.elim
