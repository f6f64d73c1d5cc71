/-! the JDK's String methods that the program calls on its own texts -/
def ai_Lo (base : Nat) (Hb : Heap) (H : Heap) : Prop := ∀ q : Nat, q < base → H[q]? = Hb[q]?
def sy (c n d : String) : MethodName := ⟨c, n, d⟩
abbrev sy_length : MethodName := ⟨"java/lang/String", "length", "()I"⟩
abbrev sy_coder : MethodName := ⟨"java/lang/String", "coder", "()B"⟩
abbrev sy_charAt : MethodName := ⟨"java/lang/String", "charAt", "(I)C"⟩
abbrev sy_isLatin1 : MethodName := ⟨"java/lang/String", "isLatin1", "()Z"⟩
abbrev sy_chk : MethodName := ⟨"java/lang/String", "checkIndex", "(II)V"⟩
abbrev sy_lat : MethodName := ⟨"java/lang/StringLatin1", "charAt", "([BI)C"⟩
abbrev sy_pre : MethodName := ⟨"jdk/internal/util/Preconditions", "checkIndex", "(IILjava/util/function/BiFunction;)I"⟩
theorem sw_length : ai_w 8195 (.code sy_length prog_16_method_54_code 1 (some .int)) = true ∧ ai_w 8193 (.instanceMethod sy_length) = true ∧ ai_w 8194 (.selects "java/lang/String" sy_length sy_length) = true := by decide +kernel
theorem sw_coder : ai_w 8199 (.code sy_coder prog_16_method_152_code 1 (some .byte)) = true ∧ ai_w 8197 (.instanceMethod sy_coder) = true ∧ ai_w 8198 (.selects "java/lang/String" sy_coder sy_coder) = true := by decide +kernel
theorem sw_charAt : ai_w 8205 (.code sy_charAt prog_16_method_56_code 2 (some .char)) = true ∧ ai_w 8203 (.instanceMethod sy_charAt) = true ∧ ai_w 8204 (.selects "java/lang/String" sy_charAt sy_charAt) = true := by decide +kernel
theorem sw_isLatin1 : ai_w 8209 (.code sy_isLatin1 prog_16_method_154_code 1 (some .boolean)) = true ∧ ai_w 8207 (.instanceMethod sy_isLatin1) = true ∧ ai_w 8208 (.selects "java/lang/String" sy_isLatin1 sy_isLatin1) = true := by decide +kernel
theorem sw_chk : ai_w 8215 (.code sy_chk prog_16_method_155_code 2 none) = true ∧ ai_w 8214 (.static sy_chk) = true := by decide +kernel
theorem sw_lat : ai_w 8212 (.code sy_lat prog_17_method_2_code 2 (some .char)) = true ∧ ai_w 8211 (.static sy_lat) = true := by decide +kernel
theorem sw_pre : ai_w 8220 (.code sy_pre prog_21_method_11_code 3 (some .int)) = true ∧ ai_w 8219 (.static sy_pre) = true := by decide +kernel
theorem sw_ini : ai_w 7015 (.initialized "java/lang/String") = true := by decide +kernel
theorem sw_iniL : ai_w 7016 (.initialized "java/lang/StringLatin1") = true := by decide +kernel
theorem sw_iniP : ai_w 7017 (.initialized "jdk/internal/util/Preconditions") = true := by decide +kernel
theorem sw_f38 : ai_w 8200 (.fieldLink "java/lang/String" 38 "java/lang/String" "COMPACT_STRINGS" "Z") = true := by decide +kernel
theorem sw_f9 : ai_w 14086 (.fieldLink "java/lang/String" 9 "java/lang/String" "value" "[B") = true := by decide +kernel
theorem sw_f15 : ai_w 14087 (.fieldLink "java/lang/String" 15 "java/lang/String" "coder" "B") = true := by decide +kernel
theorem sw_f1053 : ai_w 8216 (.fieldLink "java/lang/String" 1053 "jdk/internal/util/Preconditions" "SIOOBE_FORMATTER" "Ljava/util/function/BiFunction;") = true := by decide +kernel
theorem sw_m335 : ai_w 8196 (.methodLink "java/lang/String" 335 sy_coder) = true := by decide +kernel
theorem sw_m492 : ai_w 8206 (.methodLink "java/lang/String" 492 sy_isLatin1) = true := by decide +kernel
theorem sw_m495 : ai_w 8210 (.methodLink "java/lang/String" 495 sy_lat) = true := by decide +kernel
theorem sw_m9 : ai_w 8213 (.methodLink "java/lang/StringLatin1" 9 sy_chk) = true := by decide +kernel
theorem sw_m1059 : ai_w 8218 (.methodLink "java/lang/String" 1059 sy_pre) = true := by decide +kernel
theorem sw_math : ai_w 7013 (.initialized "java/lang/Math") = true := by decide +kernel
theorem sw_max : ai_w 8146 (.static Lib.Math.max.name) = true ∧ ai_w 8147 (.code Lib.Math.max.name Lib.Math.max.code 2 (some .int)) = true := by decide +kernel
theorem sw_min : ai_w 8143 (.static Lib.Math.min.name) = true ∧ ai_w 8144 (.code Lib.Math.min.name Lib.Math.min.code 2 (some .int)) = true := by decide +kernel
theorem sm_good {y : MethodName} {b : ByteArray} {n p : Nat} {r : Option FieldType} {Q : Prop} (h : ai_w p (.code y b n r) = true ∧ Q) : GoodIn ai_gw (.code y b n r :: ai_gw) := by
  intro w hw
  have hm : w ∈ ai_gw := by
    rcases List.mem_cons.mp hw with rfl | z
    · exact ai_gw_of h.1
    · exact z
  exact ⟨hm, ai_gw_good hm⟩
/-- what holds where a text's method is called -/
def sm_P (sa : Nat → Nat) (base : Nat) (Hb : Heap) (av : List Value) : Array Value → State → Prop := fun a U => a = av.toArray ∧ ai_Lo base Hb U.heap ∧ ai_E sa base Hb U
def sm_Q (r : Option Value) : Array Value → State → Outcome → State → Prop := fun _ st o t => o = .returned r ∧ t.heap = st.heap ∧ True
theorem sm_blind {sa : Nat → Nat} {base : Nat} {Hb : Heap} {av : List Value} : FrameBlind (sm_P sa base Hb av) := fun a U g mk q => ⟨q.1, q.2.1, q.2.2.same rfl⟩
section SMCALL
variable {p : Program} {l : Launch} {e : Env} {R : Room} {s : State} {m : MethodId} {args : Array Value} {below : List Frame} {meth : Method} {c : Code} {H : Heap} {locs : List Loc} {cells slots : Nat} {Q : State → Prop}
/-- a call that keeps the heap -/
theorem sm_call {pc : Nat} {ls : Array Slot} {st0 rest : List Value} {r : Option Value} {a : Array Value} (hr : va_Run p l e R s m args below meth c H locs cells slots 0 0 (F0 m pc ls st0) rest (sm_Q r a) (fun _ => False)) (kk : W p l e R s m args below meth c H locs cells slots Q (F0 m (pc + 3) ls (r.toList ++ rest))) : W p l e R s m args below meth c H locs cells slots Q (F0 m pc ls st0) := by
  intro T hT X
  obtain ⟨v, st₀, t, T', L, h0, X', hL, e1, e2, ⟨hv, hh, -⟩, st⟩ := hr T hT X
  cases hv
  obtain ⟨t2, a1, b1⟩ := kk T' (by rw [e1, hh, h0]) (Stand.forget X' (fun q h => (hL q h).elim))
  exact ⟨t2, st t2 a1, b1⟩
end SMCALL
section SMET
variable {sa : Nat → Nat} {base : Nat} {Hb : Heap}
theorem sm_coder (l : Launch) {k : Nat} (hk : k < 11) : Met l sy_coder (.code sy_coder prog_16_method_152_code 1 (some .byte) :: ai_gw) { frames := 0, cells := 0, slots := 0, locals := 0 } (sm_P sa base Hb [.ref (sa k)]) (sm_Q (some (.int 0))) 0 0 (fun _ => False) := by
  refine Met.ofW (cc := prog_16_method_152_code) (maxL := 1) (ret := (some .byte)) (by decide) rfl ?_
  intro p e s m args below meth c s₁ B hml hv
  obtain ⟨rfl, hLo, hE⟩ := hv
  have hx := B.exec
  have hb := B.bytes
  have hr := B.returns
  have hts0 := atoms_spec (ws := .code sy_coder prog_16_method_152_code 1 (some .byte) :: ai_gw) B.pre
  have hts : ∀ w ∈ ai_gw, w.before _ s = true := fun w hw => hts0 w (List.mem_cons_of_mem _ hw)
  have hown : s.vm.findClass "java/lang/String" = some m.cls := findClass_of_methodNamed B.named
  have hlocks := B.notSynchronized
  have hS : va_S (ai_A base) s.heap s.heap [] := va_S.rf
  have hkp : ∀ q : Nat, q < Hb.size → ¬ ai_A base q → s.heap[q]? = Hb[q]? := fun q h1 h2 => hLo q (Nat.not_le.mp h2)
  have hstr := hE.2.2.2.1.kept hkp
  have hl := lv_entry ([.ref (sa k)]) (n := 1) (Nat.le_of_ble_eq_true rfl)
  rw [lg_entry_eq]
  generalize (lg_sl ([.ref (sa k)]) ++ List.replicate (1 - (lg_sl ([.ref (sa k)])).length) Slot.unset).toArray = ls at hl ⊢
  refine va_gets hx hb (hE.2.2.2.2.1.kept hkp) hS hown (hts _ (ai_gw_of sw_f38)) (fun _ h => h) (show decode prog_16_method_152_code 0 = .ok (.getstatic 38, 3) by decide +kernel) ?_
  refine lv_if_eq (tgt := 13) hx hb (show decode prog_16_method_152_code 3 = .ok (.ifCond .eq 10, 3) by decide +kernel) (by decide) (fun z => absurd z (by decide)) (fun _ => ?_)
  refine lv_aload_n hx hb (show decode prog_16_method_152_code 6 = .ok (.aload_n 0, 1) by decide +kernel) rfl (lv_at hl 0 rfl) ?_
  refine vk_getf hx hb (hstr.1 k hk).2.1 hS hown (hts _ (ai_gw_of sw_f15)) (fun _ h => h) (show decode prog_16_method_152_code 7 = .ok (.getfield 15, 3) by decide +kernel) ?_
  refine lv_goto (tgt := 14) hx hb (show decode prog_16_method_152_code 10 = .ok (.goto 4, 3) by decide +kernel) (by decide) ?_
  exact W.zret hx hb hr rfl (fun t ht hW => ⟨rfl, ht, trivial⟩) (fun q h => by cases h) (show decode prog_16_method_152_code 14 = .ok (.ireturn, 1) by decide +kernel)
theorem sm_isLatin1 (l : Launch) {k : Nat} (hk : k < 11) : Met l sy_isLatin1 (.code sy_isLatin1 prog_16_method_154_code 1 (some .boolean) :: ai_gw) { frames := 0, cells := 0, slots := 0, locals := 0 } (sm_P sa base Hb [.ref (sa k)]) (sm_Q (some (.int 1))) 0 0 (fun _ => False) := by
  refine Met.ofW (cc := prog_16_method_154_code) (maxL := 1) (ret := (some .boolean)) (by decide) rfl ?_
  intro p e s m args below meth c s₁ B hml hv
  obtain ⟨rfl, hLo, hE⟩ := hv
  have hx := B.exec
  have hb := B.bytes
  have hr := B.returns
  have hts0 := atoms_spec (ws := .code sy_isLatin1 prog_16_method_154_code 1 (some .boolean) :: ai_gw) B.pre
  have hts : ∀ w ∈ ai_gw, w.before _ s = true := fun w hw => hts0 w (List.mem_cons_of_mem _ hw)
  have hown : s.vm.findClass "java/lang/String" = some m.cls := findClass_of_methodNamed B.named
  have hlocks := B.notSynchronized
  have hS : va_S (ai_A base) s.heap s.heap [] := va_S.rf
  have hkp : ∀ q : Nat, q < Hb.size → ¬ ai_A base q → s.heap[q]? = Hb[q]? := fun q h1 h2 => hLo q (Nat.not_le.mp h2)
  have hstr := hE.2.2.2.1.kept hkp
  have hl := lv_entry ([.ref (sa k)]) (n := 1) (Nat.le_of_ble_eq_true rfl)
  rw [lg_entry_eq]
  generalize (lg_sl ([.ref (sa k)]) ++ List.replicate (1 - (lg_sl ([.ref (sa k)])).length) Slot.unset).toArray = ls at hl ⊢
  refine va_gets hx hb (hE.2.2.2.2.1.kept hkp) hS hown (hts _ (ai_gw_of sw_f38)) (fun _ h => h) (show decode prog_16_method_154_code 0 = .ok (.getstatic 38, 3) by decide +kernel) ?_
  refine lv_if_eq (tgt := 17) hx hb (show decode prog_16_method_154_code 3 = .ok (.ifCond .eq 14, 3) by decide +kernel) (by decide) (fun z => absurd z (by decide)) (fun _ => ?_)
  refine lv_aload_n hx hb (show decode prog_16_method_154_code 6 = .ok (.aload_n 0, 1) by decide +kernel) rfl (lv_at hl 0 rfl) ?_
  refine vk_getf hx hb (hstr.1 k hk).2.1 hS hown (hts _ (ai_gw_of sw_f15)) (fun _ h => h) (show decode prog_16_method_154_code 7 = .ok (.getfield 15, 3) by decide +kernel) ?_
  refine lv_if_ne (tgt := 17) hx hb (show decode prog_16_method_154_code 10 = .ok (.ifCond .ne 7, 3) by decide +kernel) (by decide) (fun z => absurd rfl z) (fun _ => ?_)
  refine lv_iconst (v := 1) hx hb (show decode prog_16_method_154_code 13 = .ok (.iconst 1, 1) by decide +kernel) (by decide) ?_
  refine lv_goto (tgt := 18) hx hb (show decode prog_16_method_154_code 14 = .ok (.goto 4, 3) by decide +kernel) (by decide) ?_
  exact W.zret hx hb hr rfl (fun t ht hW => ⟨rfl, ht, trivial⟩) (fun q h => by cases h) (show decode prog_16_method_154_code 18 = .ok (.ireturn, 1) by decide +kernel)
theorem sm_pre (l : Launch) {i n : Int32} {w : Value} (hw : w = .null ∨ ∃ t, w = .ref t) (hi : ¬ i < 0) (hn : i < n) : Met l sy_pre (.code sy_pre prog_21_method_11_code 3 (some .int) :: ai_gw) { frames := 0, cells := 0, slots := 0, locals := 0 } (sm_P sa base Hb [.int i, .int n, w]) (sm_Q (some (.int i))) 0 0 (fun _ => False) := by
  have hwc : (lg_sl [.int i, .int n, w]).length ≤ 3 := by rcases hw with rfl | ⟨t, rfl⟩ <;> exact Nat.le_of_ble_eq_true rfl
  refine Met.ofW (cc := prog_21_method_11_code) (maxL := 3) (ret := (some .int)) (by decide) rfl ?_
  intro p e s m args below meth c s₁ B hml hv
  obtain ⟨rfl, hLo, hE⟩ := hv
  have hx := B.exec
  have hb := B.bytes
  have hr := B.returns
  have hts0 := atoms_spec (ws := .code sy_pre prog_21_method_11_code 3 (some .int) :: ai_gw) B.pre
  have hts : ∀ w ∈ ai_gw, w.before _ s = true := fun w hw => hts0 w (List.mem_cons_of_mem _ hw)
  have hown : s.vm.findClass "jdk/internal/util/Preconditions" = some m.cls := findClass_of_methodNamed B.named
  have hlocks := B.notSynchronized
  have hS : va_S (ai_A base) s.heap s.heap [] := va_S.rf
  have hkp : ∀ q : Nat, q < Hb.size → ¬ ai_A base q → s.heap[q]? = Hb[q]? := fun q h1 h2 => hLo q (Nat.not_le.mp h2)
  have hstr := hE.2.2.2.1.kept hkp
  have hl := lv_entry ([.int i, .int n, w]) (n := 3) hwc
  rw [lg_entry_eq]
  generalize (lg_sl ([.int i, .int n, w]) ++ List.replicate (3 - (lg_sl ([.int i, .int n, w])).length) Slot.unset).toArray = ls at hl ⊢
  have l0 : ls[0]? = some (.val (.int i)) := hl.2.2 (0, .int i) (by simp [lv_args])
  have l1 : ls[1]? = some (.val (.int n)) := hl.2.2 (1, .int n) (by simp [lv_args, Value.category])
  refine lv_iload_n hx hb (show decode prog_21_method_11_code 0 = .ok (.iload_n 0, 1) by decide +kernel) rfl l0 ?_
  refine lv_if_lt (tgt := 9) hx hb (show decode prog_21_method_11_code 1 = .ok (.ifCond .lt 8, 3) by decide +kernel) (by decide) (fun z => absurd z hi) (fun _ => ?_)
  refine lv_iload_n hx hb (show decode prog_21_method_11_code 4 = .ok (.iload_n 0, 1) by decide +kernel) rfl l0 ?_
  refine lv_iload_n hx hb (show decode prog_21_method_11_code 5 = .ok (.iload_n 1, 1) by decide +kernel) rfl l1 ?_
  refine lv_icmp_lt (tgt := 16) hx hb (show decode prog_21_method_11_code 6 = .ok (.if_icmp .lt 10, 3) by decide +kernel) (by decide) (fun _ => ?_) (fun z => absurd hn z)
  refine lv_iload_n hx hb (show decode prog_21_method_11_code 16 = .ok (.iload_n 0, 1) by decide +kernel) rfl l0 ?_
  exact W.iret hx hb hr (fun t ht hW => ⟨rfl, ht, trivial⟩) (fun q h => by cases h) (show decode prog_21_method_11_code 17 = .ok (.ireturn, 1) by decide +kernel)
theorem sm_length (l : Launch) {k : Nat} (hk : k < 11) (hb0 : Hb.size = base) : Met l sy_length (.code sy_length prog_16_method_54_code 1 (some .int) :: ai_gw) { frames := 1, cells := 0, slots := 0, locals := 20 } (sm_P sa base Hb [.ref (sa k)]) (sm_Q (some (.int (nI (ai_sl.getD k 0))))) 0 0 (fun _ => False) := by
  refine Met.ofW (cc := prog_16_method_54_code) (maxL := 1) (ret := (some .int)) (by decide) rfl ?_
  intro p e s m args below meth c s₁ B hml hv
  obtain ⟨rfl, hLo, hE⟩ := hv
  have hx := B.exec
  have hb := B.bytes
  have hr := B.returns
  have hts0 := atoms_spec (ws := .code sy_length prog_16_method_54_code 1 (some .int) :: ai_gw) B.pre
  have hts : ∀ w ∈ ai_gw, w.before _ s = true := fun w hw => hts0 w (List.mem_cons_of_mem _ hw)
  have hown : s.vm.findClass "java/lang/String" = some m.cls := findClass_of_methodNamed B.named
  have hlocks := B.notSynchronized
  have hS : va_S (ai_A base) s.heap s.heap [] := va_S.rf
  have hkp : ∀ q : Nat, q < Hb.size → ¬ ai_A base q → s.heap[q]? = Hb[q]? := fun q h1 h2 => hLo q (Nat.not_le.mp h2)
  have hstr := hE.2.2.2.1.kept hkp
  have hl := lv_entry ([.ref (sa k)]) (n := 1) (Nat.le_of_ble_eq_true rfl)
  rw [lg_entry_eq]
  generalize (lg_sl ([.ref (sa k)]) ++ List.replicate (1 - (lg_sl ([.ref (sa k)])).length) Slot.unset).toArray = ls at hl ⊢
  refine lv_aload_n hx hb (show decode prog_16_method_54_code 0 = .ok (.aload_n 0, 1) by decide +kernel) rfl (lv_at hl 0 rfl) ?_
  refine vk_getf hx hb (hstr.1 k hk).2.2.1 hS hown (hts _ (ai_gw_of sw_f9)) (fun _ h => h) (show decode prog_16_method_54_code 1 = .ok (.getfield 9, 3) by decide +kernel) ?_
  obtain ⟨cell, z1, z2, z3, z4, z5, z6, z7⟩ := (hstr.1 k hk).2.2.2
  refine W.alen (n := nI (ai_sl.getD k 0)) hx hb z1 z2 z5 rfl rfl (show decode prog_16_method_54_code 4 = .ok (.arraylength, 1) by decide +kernel) ?_
  refine lv_aload_n hx hb (show decode prog_16_method_54_code 5 = .ok (.aload_n 0, 1) by decide +kernel) rfl (lv_at hl 0 rfl) ?_
  refine sm_call (va_runV (C := "java/lang/String") (b := sa k) (As := []) (rest := [.int (nI (ai_sl.getD k 0))]) ⟨hx, hb, hml, hown, hts⟩ (sm_coder l hk) ⟨callB_of 0 hts (sm_good sw_coder) rfl rfl rfl (hts _ (ai_gw_of sw_ini)) (hts _ (ai_gw_of sw_m335)) (by decide +kernel) ⟨Nat.le_of_ble_eq_true rfl, Nat.le_of_ble_eq_true rfl⟩, hts _ (ai_gw_of sw_coder.2.1), hts _ (ai_gw_of sw_coder.2.2)⟩ ⟨sm_blind, vk_recv hstr hk hS, fun U hU hW => ⟨rfl, by rw [hU]; exact hLo, hE.warm hW⟩⟩ rfl rfl hl.1 rfl (lv_room (Nat.le_of_ble_eq_true rfl)) (show decode prog_16_method_54_code 6 = .ok (.invokevirtual 335, 3) by decide +kernel) ⟨Nat.le_refl _, Nat.le_refl _⟩) ?_
  refine lv_ishr hx hb (show decode prog_16_method_54_code 9 = .ok (.ishr, 1) by decide +kernel) ?_
  rw [sb_shr0]
  exact W.iret hx hb hr (fun t ht hW => ⟨rfl, ht, trivial⟩) (fun q h => by cases h) (show decode prog_16_method_54_code 10 = .ok (.ireturn, 1) by decide +kernel)
theorem sm_chk (l : Launch) {i n : Int32} (hi : ¬ i < 0) (hn : i < n) : Met l sy_chk (.code sy_chk prog_16_method_155_code 2 none :: ai_gw) { frames := 1, cells := 0, slots := 0, locals := 22 } (sm_P sa base Hb [.int i, .int n]) (sm_Q none) 0 0 (fun _ => False) := by
  refine Met.ofW (cc := prog_16_method_155_code) (maxL := 2) (ret := none) (by decide) rfl ?_
  intro p e s m args below meth c s₁ B hml hv
  obtain ⟨rfl, hLo, hE⟩ := hv
  have hx := B.exec
  have hb := B.bytes
  have hr := B.returns
  have hts0 := atoms_spec (ws := .code sy_chk prog_16_method_155_code 2 none :: ai_gw) B.pre
  have hts : ∀ w ∈ ai_gw, w.before _ s = true := fun w hw => hts0 w (List.mem_cons_of_mem _ hw)
  have hown : s.vm.findClass "java/lang/String" = some m.cls := findClass_of_methodNamed B.named
  have hlocks := B.notSynchronized
  have hS : va_S (ai_A base) s.heap s.heap [] := va_S.rf
  have hkp : ∀ q : Nat, q < Hb.size → ¬ ai_A base q → s.heap[q]? = Hb[q]? := fun q h1 h2 => hLo q (Nat.not_le.mp h2)
  have hstr := hE.2.2.2.1.kept hkp
  have hl := lv_entry ([.int i, .int n]) (n := 2) (Nat.le_of_ble_eq_true rfl)
  rw [lg_entry_eq]
  generalize (lg_sl ([.int i, .int n]) ++ List.replicate (2 - (lg_sl ([.int i, .int n])).length) Slot.unset).toArray = ls at hl ⊢
  refine lv_iload_n hx hb (show decode prog_16_method_155_code 0 = .ok (.iload_n 0, 1) by decide +kernel) rfl (lv_at hl 0 rfl) ?_
  refine lv_iload_n hx hb (show decode prog_16_method_155_code 1 = .ok (.iload_n 1, 1) by decide +kernel) rfl (lv_at hl 1 rfl) ?_
  rcases hE.2.2.2.2.2.kept hkp with hz | ⟨t, hz⟩
  · refine va_gets hx hb hz hS hown (hts _ (ai_gw_of sw_f1053)) (fun _ h => h) (show decode prog_16_method_155_code 2 = .ok (.getstatic 1053, 3) by decide +kernel) ?_
    refine sm_call (va_runS (As := [.int i, .int n, .null]) (rest := []) ⟨hx, hb, hml, hown, hts⟩ (sm_pre l (w := .null) (Or.inl rfl) hi hn) ⟨callB_of 3 hts (sm_good sw_pre) rfl rfl rfl (hts _ (ai_gw_of sw_iniP)) (hts _ (ai_gw_of sw_m1059)) (by decide +kernel) ⟨Nat.le_of_ble_eq_true rfl, Nat.le_of_ble_eq_true rfl⟩, hts _ (ai_gw_of sw_pre.2)⟩ ⟨sm_blind, fun U hU hW => ⟨rfl, by rw [hU]; exact hLo, hE.warm hW⟩⟩ rfl rfl hl.1 rfl (lv_room (Nat.le_of_ble_eq_true rfl)) (show decode prog_16_method_155_code 5 = .ok (.invokestatic 1059, 3) by decide +kernel) ⟨Nat.le_refl _, Nat.le_refl _⟩) ?_
    refine lv_pop hx hb (show decode prog_16_method_155_code 8 = .ok (.pop, 1) by decide +kernel) rfl ?_
    exact W.vret hx hb hr (fun t ht hW => ⟨rfl, ht, trivial⟩) (fun q h => by cases h) (show decode prog_16_method_155_code 9 = .ok (.return_, 1) by decide +kernel)
  · refine va_gets hx hb hz hS hown (hts _ (ai_gw_of sw_f1053)) (fun _ h => h) (show decode prog_16_method_155_code 2 = .ok (.getstatic 1053, 3) by decide +kernel) ?_
    refine sm_call (va_runS (As := [.int i, .int n, .ref t]) (rest := []) ⟨hx, hb, hml, hown, hts⟩ (sm_pre l (w := .ref t) (Or.inr ⟨t, rfl⟩) hi hn) ⟨callB_of 3 hts (sm_good sw_pre) rfl rfl rfl (hts _ (ai_gw_of sw_iniP)) (hts _ (ai_gw_of sw_m1059)) (by decide +kernel) ⟨Nat.le_of_ble_eq_true rfl, Nat.le_of_ble_eq_true rfl⟩, hts _ (ai_gw_of sw_pre.2)⟩ ⟨sm_blind, fun U hU hW => ⟨rfl, by rw [hU]; exact hLo, hE.warm hW⟩⟩ rfl rfl hl.1 rfl (lv_room (Nat.le_of_ble_eq_true rfl)) (show decode prog_16_method_155_code 5 = .ok (.invokestatic 1059, 3) by decide +kernel) ⟨Nat.le_refl _, Nat.le_refl _⟩) ?_
    refine lv_pop hx hb (show decode prog_16_method_155_code 8 = .ok (.pop, 1) by decide +kernel) rfl ?_
    exact W.vret hx hb hr (fun t ht hW => ⟨rfl, ht, trivial⟩) (fun q h => by cases h) (show decode prog_16_method_155_code 9 = .ok (.return_, 1) by decide +kernel)
theorem sm_ltn {i : Int32} {n : Nat} (hn : n < 2 ^ 31) (h : ¬ (i < 0 ∨ n ≤ i.toNatClampNeg)) : ¬ i < 0 ∧ i < nI n := by
  refine ⟨fun z => h (Or.inl z), ?_⟩
  obtain ⟨j, hj, rfl⟩ := vp_in_of (n := n) h hn
  exact nI_lt hj hn
theorem sm_sln (k : Nat) : ai_sl.getD k 0 < 2 ^ 31 := by
  rcases Nat.lt_or_ge k 11 with h | h
  · exact co_dec (N := 11) (P := fun k => ai_sl.getD k 0 < 2 ^ 31) (by decide +kernel) h
  · rw [List.getD_eq_getElem?_getD, List.getElem?_eq_none (by exact h)]; decide
theorem sm_lat (l : Launch) {k : Nat} {i : Int32} (hk : k < 11) (hi : ¬ (i < 0 ∨ ai_sl.getD k 0 ≤ i.toNatClampNeg)) : Met l sy_lat (.code sy_lat prog_17_method_2_code 2 (some .char) :: ai_gw) { frames := 2, cells := 0, slots := 0, locals := 43 } (sm_P sa base Hb [.ref (sa (200 + k)), .int i]) (sm_Q (some (.int (ai_sc k i.toNatClampNeg)))) 0 0 (fun _ => False) := by
  refine Met.ofW (cc := prog_17_method_2_code) (maxL := 2) (ret := (some .char)) (by decide) rfl ?_
  intro p e s m args below meth c s₁ B hml hv
  obtain ⟨rfl, hLo, hE⟩ := hv
  have hx := B.exec
  have hb := B.bytes
  have hr := B.returns
  have hts0 := atoms_spec (ws := .code sy_lat prog_17_method_2_code 2 (some .char) :: ai_gw) B.pre
  have hts : ∀ w ∈ ai_gw, w.before _ s = true := fun w hw => hts0 w (List.mem_cons_of_mem _ hw)
  have hown : s.vm.findClass "java/lang/StringLatin1" = some m.cls := findClass_of_methodNamed B.named
  have hlocks := B.notSynchronized
  have hS : va_S (ai_A base) s.heap s.heap [] := va_S.rf
  have hkp : ∀ q : Nat, q < Hb.size → ¬ ai_A base q → s.heap[q]? = Hb[q]? := fun q h1 h2 => hLo q (Nat.not_le.mp h2)
  have hstr := hE.2.2.2.1.kept hkp
  have hl := lv_entry ([.ref (sa (200 + k)), .int i]) (n := 2) (Nat.le_of_ble_eq_true rfl)
  rw [lg_entry_eq]
  generalize (lg_sl ([.ref (sa (200 + k)), .int i]) ++ List.replicate (2 - (lg_sl ([.ref (sa (200 + k)), .int i])).length) Slot.unset).toArray = ls at hl ⊢
  have hT := (hstr.1 k hk).2.2.2
  obtain ⟨cell, z1, z2, z3, z4, z5, z6, z7⟩ := id hT
  have hb2 := sm_ltn (sm_sln k) hi
  refine lv_iload_n hx hb (show decode prog_17_method_2_code 0 = .ok (.iload_n 1, 1) by decide +kernel) rfl (lv_at hl 1 rfl) ?_
  refine lv_aload_n hx hb (show decode prog_17_method_2_code 1 = .ok (.aload_n 0, 1) by decide +kernel) rfl (lv_at hl 0 rfl) ?_
  refine W.alen (n := nI (ai_sl.getD k 0)) hx hb z1 z2 z5 rfl rfl (show decode prog_17_method_2_code 2 = .ok (.arraylength, 1) by decide +kernel) ?_
  refine sm_call (va_runS (As := [.int i, .int (nI (ai_sl.getD k 0))]) (rest := []) ⟨hx, hb, hml, hown, hts⟩ (sm_chk l hb2.1 hb2.2) ⟨callB_of 2 hts (sm_good sw_chk) rfl rfl rfl (hts _ (ai_gw_of sw_ini)) (hts _ (ai_gw_of sw_m9)) (by decide +kernel) ⟨Nat.le_of_ble_eq_true rfl, Nat.le_of_ble_eq_true rfl⟩, hts _ (ai_gw_of sw_chk.2)⟩ ⟨sm_blind, fun U hU hW => ⟨rfl, by rw [hU]; exact hLo, hE.warm hW⟩⟩ rfl rfl hl.1 rfl (lv_room (Nat.le_of_ble_eq_true rfl)) (show decode prog_17_method_2_code 3 = .ok (.invokestatic 9, 3) by decide +kernel) ⟨Nat.le_refl _, Nat.le_refl _⟩) ?_
  refine lv_aload_n hx hb (show decode prog_17_method_2_code 6 = .ok (.aload_n 0, 1) by decide +kernel) rfl (lv_at hl 0 rfl) ?_
  refine lv_iload_n hx hb (show decode prog_17_method_2_code 7 = .ok (.iload_n 1, 1) by decide +kernel) rfl (lv_at hl 1 rfl) ?_
  refine va_tb hx hb hT hS hi rfl (show decode prog_17_method_2_code 8 = .ok (.baload, 1) by decide +kernel) ?_
  refine lv_sipush (v := 255) hx hb (show decode prog_17_method_2_code 9 = .ok (.sipush 255, 3) by decide +kernel) (by decide) ?_
  refine lv_iand hx hb (show decode prog_17_method_2_code 12 = .ok (.iand, 1) by decide +kernel) ?_
  refine lv_i2c hx hb (show decode prog_17_method_2_code 13 = .ok (.i2c, 1) by decide +kernel) rfl ?_
  exact W.zret hx hb hr (pk_nc _) (fun t ht hW => ⟨rfl, ht, trivial⟩) (fun q h => by cases h) (show decode prog_17_method_2_code 14 = .ok (.ireturn, 1) by decide +kernel)
theorem sm_charAt (l : Launch) {k : Nat} {i : Int32} (hk : k < 11) (hi : ¬ (i < 0 ∨ ai_sl.getD k 0 ≤ i.toNatClampNeg)) (hb0 : Hb.size = base) : Met l sy_charAt (.code sy_charAt prog_16_method_56_code 2 (some .char) :: ai_gw) { frames := 3, cells := 0, slots := 0, locals := 64 } (sm_P sa base Hb [.ref (sa k), .int i]) (sm_Q (some (.int (ai_sc k i.toNatClampNeg)))) 0 0 (fun _ => False) := by
  refine Met.ofW (cc := prog_16_method_56_code) (maxL := 2) (ret := (some .char)) (by decide) rfl ?_
  intro p e s m args below meth c s₁ B hml hv
  obtain ⟨rfl, hLo, hE⟩ := hv
  have hx := B.exec
  have hb := B.bytes
  have hr := B.returns
  have hts0 := atoms_spec (ws := .code sy_charAt prog_16_method_56_code 2 (some .char) :: ai_gw) B.pre
  have hts : ∀ w ∈ ai_gw, w.before _ s = true := fun w hw => hts0 w (List.mem_cons_of_mem _ hw)
  have hown : s.vm.findClass "java/lang/String" = some m.cls := findClass_of_methodNamed B.named
  have hlocks := B.notSynchronized
  have hS : va_S (ai_A base) s.heap s.heap [] := va_S.rf
  have hkp : ∀ q : Nat, q < Hb.size → ¬ ai_A base q → s.heap[q]? = Hb[q]? := fun q h1 h2 => hLo q (Nat.not_le.mp h2)
  have hstr := hE.2.2.2.1.kept hkp
  have hl := lv_entry ([.ref (sa k), .int i]) (n := 2) (Nat.le_of_ble_eq_true rfl)
  rw [lg_entry_eq]
  generalize (lg_sl ([.ref (sa k), .int i]) ++ List.replicate (2 - (lg_sl ([.ref (sa k), .int i])).length) Slot.unset).toArray = ls at hl ⊢
  refine lv_aload_n hx hb (show decode prog_16_method_56_code 0 = .ok (.aload_n 0, 1) by decide +kernel) rfl (lv_at hl 0 rfl) ?_
  refine sm_call (va_runV (C := "java/lang/String") (b := sa k) (As := []) (rest := []) ⟨hx, hb, hml, hown, hts⟩ (sm_isLatin1 l hk) ⟨callB_of 0 hts (sm_good sw_isLatin1) rfl rfl rfl (hts _ (ai_gw_of sw_ini)) (hts _ (ai_gw_of sw_m492)) (by decide +kernel) ⟨Nat.le_of_ble_eq_true rfl, Nat.le_of_ble_eq_true rfl⟩, hts _ (ai_gw_of sw_isLatin1.2.1), hts _ (ai_gw_of sw_isLatin1.2.2)⟩ ⟨sm_blind, vk_recv hstr hk hS, fun U hU hW => ⟨rfl, by rw [hU]; exact hLo, hE.warm hW⟩⟩ rfl rfl hl.1 rfl (lv_room (Nat.le_of_ble_eq_true rfl)) (show decode prog_16_method_56_code 1 = .ok (.invokevirtual 492, 3) by decide +kernel) ⟨Nat.le_refl _, Nat.le_refl _⟩) ?_
  refine lv_if_eq (tgt := 16) hx hb (show decode prog_16_method_56_code 4 = .ok (.ifCond .eq 12, 3) by decide +kernel) (by decide) (fun z => absurd z (by decide)) (fun _ => ?_)
  refine lv_aload_n hx hb (show decode prog_16_method_56_code 7 = .ok (.aload_n 0, 1) by decide +kernel) rfl (lv_at hl 0 rfl) ?_
  refine vk_getf hx hb (hstr.1 k hk).2.2.1 hS hown (hts _ (ai_gw_of sw_f9)) (fun _ h => h) (show decode prog_16_method_56_code 8 = .ok (.getfield 9, 3) by decide +kernel) ?_
  refine lv_iload_n hx hb (show decode prog_16_method_56_code 11 = .ok (.iload_n 1, 1) by decide +kernel) rfl (lv_at hl 1 rfl) ?_
  refine sm_call (va_runS (As := [.ref (sa (200 + k)), .int i]) (rest := []) ⟨hx, hb, hml, hown, hts⟩ (sm_lat l hk hi) ⟨callB_of 2 hts (sm_good sw_lat) rfl rfl rfl (hts _ (ai_gw_of sw_iniL)) (hts _ (ai_gw_of sw_m495)) (by decide +kernel) ⟨Nat.le_of_ble_eq_true rfl, Nat.le_of_ble_eq_true rfl⟩, hts _ (ai_gw_of sw_lat.2)⟩ ⟨sm_blind, fun U hU hW => ⟨rfl, by rw [hU]; exact hLo, hE.warm hW⟩⟩ rfl rfl hl.1 rfl (lv_room (Nat.le_of_ble_eq_true rfl)) (show decode prog_16_method_56_code 12 = .ok (.invokestatic 495, 3) by decide +kernel) ⟨Nat.le_refl _, Nat.le_refl _⟩) ?_
  exact W.zret hx hb hr (pk_nc _) (fun t ht hW => ⟨rfl, ht, trivial⟩) (fun q h => by cases h) (show decode prog_16_method_56_code 15 = .ok (.ireturn, 1) by decide +kernel)
end SMET
