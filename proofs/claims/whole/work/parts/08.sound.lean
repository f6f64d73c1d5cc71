/-! SOUNDNESS, by induction on the fuel -/
section AISOUND
variable {l : Launch} {D : va_G} {cas : Nat → ClassId} {sa : Nat → Nat} {base : Nat} {Hb : Heap} {X : ai_X}
theorem ai_kd7 {i : Instr} (h : ai_kd i = 7) : (∃ k, i = .invokevirtual k) ∨ (∃ k, i = .invokestatic k) ∨ ∃ k, i = .invokespecial k := by
  cases i <;> simp [ai_kd] at h ⊢
theorem ai_kd1 {i : Instr} (h : ai_kd i = 1) : i = .ireturn := by cases i <;> simp [ai_kd] at h ⊢
theorem ai_kd2 {i : Instr} (h : ai_kd i = 2) : i = .lreturn := by cases i <;> simp [ai_kd] at h ⊢
theorem ai_kd3 {i : Instr} (h : ai_kd i = 3) : i = .return_ := by cases i <;> simp [ai_kd] at h ⊢
theorem ai_kd4 {i : Instr} (h : ai_kd i = 4) : ∃ k, i = .new k := by cases i <;> simp [ai_kd] at h ⊢
theorem ai_kd5 {i : Instr} (h : ai_kd i = 5) : ∃ k, i = .newarray k := by cases i <;> simp [ai_kd] at h ⊢
theorem ai_kd6 {i : Instr} (h : ai_kd i = 6) : ∃ k, i = .anewarray k := by cases i <;> simp [ai_kd] at h ⊢
theorem ai_run_ne {n : Nat} {M : ai_M} {rs : List ai_R} {ls : ai_L} {st : List Value} {h : ai_H} {o : ai_O} (hr : ai_run X n M (rs, ls, st, h) = some o) : rs ≠ [] := by
  rintro rfl
  cases n <;> simp [ai_run] at hr
theorem ai_sum_cv {sa : Nat → Nat} {base : Nat} (t : List Value) : ((t.map (ai_cv sa base)).map fun v => v.category).sum = ai_sum t := by
  simp only [ai_sum, List.map_map]
  congr 2
  funext v
  exact ai_cv_cat sa base v
theorem ai_goodIn {M : ai_M} (h : Cond.code (ai_mY M) (ai_mB M) (ai_mL M) (ai_mT M) ∈ ai_gw) : GoodIn ai_gw (.code (ai_mY M) (ai_mB M) (ai_mL M) (ai_mT M) :: ai_gw) := by
  intro w hw
  have hm : w ∈ ai_gw := by
    rcases List.mem_cons.mp hw with rfl | z
    · exact h
    · exact z
  exact ⟨hm, ai_gw_good hm⟩
theorem ai_nfw : nativeFrameWords "java/lang/System" "arraycopy" 5 = 7 := by decide +kernel
set_option maxHeartbeats 4000000 in
theorem ai_stp_len {M : ai_M} {r : ai_R} {rs rs' : List ai_R} {ls ls' : ai_L} {st st' : List Value} {h h' : ai_H} (hs : ai_stp X M r rs ls st h = some (rs', ls', st', h')) : h'.length = h.length := by
  unfold ai_stp at hs
  simp only [ai_br] at hs
  split at hs <;> (repeat' split at hs) <;> first | (cases hs; done) | (simp only [Option.some.injEq, Prod.mk.injEq] at hs; obtain ⟨-, -, -, rfl⟩ := hs; simp)
theorem ai_cpy_len {st t : List Value} {h h' : ai_H} (hs : ai_cpy st h = some (t, h')) : h'.length = h.length := by
  unfold ai_cpy at hs
  (repeat' split at hs) <;> first | (cases hs; done) | (simp only [Option.some.injEq, Prod.mk.injEq] at hs; obtain ⟨-, rfl⟩ := hs; simp)
/-- the cells that the interpreter counts are those that it made -/
theorem ai_run_cnt : ∀ (n : Nat) (M : ai_M) (rs : List ai_R) (ls : ai_L) (st : List Value) (h : ai_H) (o : ai_O), ai_run X n M (rs, ls, st, h) = some o → o.2.1.length = h.length + o.2.2.1 := by
  intro n
  induction n with
  | zero => intro M rs ls st h o hr; simp [ai_run] at hr
  | succ n ih =>
    intro M rs ls st h o hr
    cases rs with
    | nil => exact absurd rfl (ai_run_ne hr)
    | cons r rs =>
    unfold ai_run at hr
    split at hr
    · split at hr
      · rename_i s1 hs1
        obtain ⟨rs1, ls1, st1, h1⟩ := s1
        rw [ih _ _ _ _ _ _ hr, ai_stp_len hs1]
      · cases hr
    · (repeat' split at hr) <;> first | (cases hr; done) | (cases hr; rfl)
    · (repeat' split at hr) <;> first | (cases hr; done) | (cases hr; rfl)
    · (repeat' split at hr) <;> first | (cases hr; done) | (cases hr; rfl)
    · split at hr
      · obtain ⟨o1, ho1, rfl⟩ := Option.map_eq_some_iff.mp hr
        have := ih _ _ _ _ _ _ ho1
        simp [ai_add] at this ⊢; omega
      · cases hr
    · split at hr
      · split at hr
        · cases hr
        · obtain ⟨o1, ho1, rfl⟩ := Option.map_eq_some_iff.mp hr
          have := ih _ _ _ _ _ _ ho1
          simp [ai_add] at this ⊢; omega
      · cases hr
    · split at hr
      · split at hr
        · cases hr
        · obtain ⟨o1, ho1, rfl⟩ := Option.map_eq_some_iff.mp hr
          have := ih _ _ _ _ _ _ ho1
          simp [ai_add] at this ⊢; omega
      · cases hr
    · split at hr
      · (repeat' split at hr) <;> first | (cases hr; done) | exact ih _ _ _ _ _ _ hr
      · split at hr
        · split at hr
          · rename_i t h1 hcp
            split at hr
            · rw [ih _ _ _ _ _ _ hr, ai_cpy_len hcp]
            · cases hr
          · cases hr
        · split at hr
          · (repeat' split at hr) <;> first | (cases hr; done) | exact ih _ _ _ _ _ _ hr
          · split at hr
            · (repeat' split at hr) <;> first | (cases hr; done) | exact ih _ _ _ _ _ _ hr
            · split at hr
              · (repeat' split at hr) <;> first | (cases hr; done) | exact ih _ _ _ _ _ _ hr
              · split at hr
                · (repeat' split at hr) <;> first | (cases hr; done) | exact ih _ _ _ _ _ _ hr
                · split at hr
                  · split at hr
                    · split at hr
                      · split at hr
                        · split at hr
                          · rename_i o1 ho1
                            obtain ⟨o2, ho2, rfl⟩ := Option.map_eq_some_iff.mp hr
                            have e1 := ih _ _ _ _ _ _ ho1
                            have e2 := ih _ _ _ _ _ _ ho2
                            simp [ai_add]; omega
                          · cases hr
                        · cases hr
                      · cases hr
                    · cases hr
                  · cases hr
    · cases hr
set_option maxHeartbeats 4000000 in
theorem ai_sound : ∀ n : Nat, ai_Snd l D cas sa base Hb X n := by
  intro n
  induction n with
  | zero => intro M rs ls st h o hrun; simp [ai_run] at hrun
  | succ n S =>
    intro M rs ls st h o hrun hM hsuf p e R s m args below meth c H locs cells slots Q lc C hLV hR hlocs hcnt hcc hcs hret
    have hrk := (ai_ok_m M hM).2
    simp only [ai_rk, Bool.and_eq_true] at hrk
    obtain ⟨hrows, hcont⟩ := hrk
    cases rs with
    | nil => exact absurd rfl (ai_run_ne hrun)
    | cons r rs =>
    have hrow : ai_row M r = true := List.all_eq_true.mp hrows r (hsuf.subset List.mem_cons_self)
    have hsq := ai_seq hcont hsuf
    have hs' : rs <:+ ai_mR M := (List.suffix_cons _ _).trans hsuf
    have hrow0 := hrow
    simp only [ai_row, Bool.and_eq_true, decide_eq_true_eq] at hrow0
    obtain ⟨hdg, hlen, hlnk⟩ := hrow0
    show W p l e R s m args below meth c H locs cells slots Q (F0 m r.1 lc (st.map (ai_cv sa base)))
    unfold ai_run at hrun
    split at hrun
    · -- a step
      split at hrun
      · rename_i s1 hs1
        obtain ⟨rs1, ls1, st1, h1⟩ := s1
        refine ai_stp_ok C hcont hrow hsuf hs1 (ai_run_ne hrun) hLV hR hlocs hcnt fun lc1 H1 locs1 a b d e1 e2 => ?_
        exact S M rs1 ls1 st1 h1 o hrun hM a p e R s m args below meth c H1 locs1 cells slots Q lc1 C b d e1 (by rw [e2]; exact hcnt) hcc hcs hret
      · cases hrun
    · -- ireturn
      rename_i hk
      split at hrun
      · rename_i v
        split at hrun
        · rename_i ht
          cases hrun
          rw [ai_kd1 hk] at hdg hlen
          obtain e1 : r.2.2.1 = 1 := by simpa [ai_len] using hlen
          rw [e1] at hdg
          exact hret r.1 lc H locs hdg ht hR hlocs
        · cases hrun
      · cases hrun
    · -- lreturn
      rename_i hk
      split at hrun
      · rename_i v
        split at hrun
        · rename_i ht
          cases hrun
          rw [ai_kd2 hk] at hdg hlen
          obtain e1 : r.2.2.1 = 1 := by simpa [ai_len] using hlen
          rw [e1] at hdg
          exact hret r.1 lc H locs hdg ht hR hlocs
        · cases hrun
      · cases hrun
    · -- return
      rename_i hk
      split at hrun
      · split at hrun
        · rename_i ht
          cases hrun
          rw [ai_kd3 hk] at hdg hlen
          obtain e1 : r.2.2.1 = 1 := by simpa [ai_len] using hlen
          rw [e1] at hdg
          exact hret r.1 lc H locs hdg ht hR hlocs
        · cases hrun
      · cases hrun
    · -- new
      rename_i hk
      split at hrun
      · rename_i fs hfs
        obtain ⟨o1, ho1, rfl⟩ := Option.map_eq_some_iff.mp hrun
        obtain ⟨k, hi⟩ := ai_kd4 hk
        rw [hi] at hdg hlen
        obtain e1 : r.2.2.1 = 3 := by simpa [ai_len] using hlen
        rw [e1] at hdg
        rw [e1] at hsq
        simp only [ai_lnk, hi] at hlnk
        split at hlnk
        · rename_i q hq
          obtain ⟨f1, f2, f3, f4, f5, f6, f7, f8⟩ := ai_cls hq
          have hfd : ai_df.getD r.2.2.2.2.1 [] = fs := by rw [List.getD_eq_getElem?_getD, hfs]; rfl
          rw [hfd] at f6 f8
          obtain ⟨hx, hb, hml, hown, hts, hK, hnm, hfr, hlo, hE, hX, hLo⟩ := id C
          have hpl : fs.map (ai_cv sa base) = fs := ai_plain_ok (List.all_eq_true.mp ai_df_plain fs (List.mem_of_getElem? hfs))
          simp only [ai_add] at hcc hcs hret
          rw [f6] at hcs hret
          refine va_new (D := D) (C := q.1) (T := q.2.1) (N := q.2.2) hx hb hts f1 _ f2 hown (hts _ (ai_gw_of hlnk)) (hts _ f4) (hts _ f5) hK hR.2.1 ai_D (hR.S hlocs) (fun z hz => by rw [hR.2.2.2] at hz; exact hz) hq f8 (by omega) (by omega) hdg ?_
          intro q1 H1 hP1 hD1 hS1
          refine ai_szW fun hup => ?_
          have hq1 := ai_newq hP1 hD1 (by omega)
          subst hq1
          have hP2 : va_P D ai_cl (ai_W cas (ai_cv sa base) base 0 (h ++ [.inr (r.2.2.2.2.1, fs)])) H1 := by
            rw [ai_W_app, Nat.zero_add]
            simpa [ai_cE, hpl] using hP1
          rw [← hsq (ai_run_ne ho1)]
          refine S M rs ls _ _ o1 ho1 hM hs' p e R s m args below meth c H1 locs (cells + 1) (slots + q.2.2) Q lc C hLV (ai_Rp.of hP2 hS1 hR.2.2.2 (by simp) (by simp; omega)) hlocs (by simp; omega) (by omega) (by omega) ?_
          intro pc1 lc1 H2 locs2 a b d e2
          have := hret pc1 lc1 H2 locs2 a b d e2
          rw [Nat.add_assoc, Nat.add_assoc]
          exact this
        · cases hlnk
      · cases hrun
    · -- newarray
      rename_i hk
      split at hrun
      · rename_i k t f hf
        split at hrun
        · cases hrun
        · rename_i hkk
          obtain ⟨o1, ho1, rfl⟩ := Option.map_eq_some_iff.mp hrun
          obtain ⟨ty, hi⟩ := ai_kd5 hk
          rw [hi] at hdg hlen ho1 hf
          obtain e1 : r.2.2.1 = 2 := by simpa [ai_len] using hlen
          rw [e1] at hdg
          rw [e1] at hsq
          obtain ⟨hx, hb, hml, hown, hts, hK, hnm, hfr, hlo, hE, hX, hLo⟩ := id C
          simp only [ai_add] at hcc hcs hret
          simp only [not_or, Nat.not_lt] at hkk
          simp only [ai_nt] at ho1 hf
          have key : ∀ (t0 : Nat) (fty : FieldType), ai_at ty = t0 → newarray.typeOf ty = fty → ai_ty[t0]? = some fty → (Cond.arrayClass fty) ∈ ai_gw → (∀ cA : ClassId, vp_cell cA (k.toNatClampNeg, f) = arrV cA k.toNatClampNeg (fun _ => defaultValue fty)) → componentBytes fty ≤ 8 → (∀ g, f ≠ .inr (.inr g)) → W p l e R s m args below meth c H locs cells slots Q (F0 m r.1 lc ((Value.int k :: t).map (ai_cv sa base))) := by
            intro t0 fty ha hty htt hac hcell hcb hng
            subst hty
            refine va_newa hx hb (hts _ hac) rfl hK hR.2.1 ai_D (hR.S hlocs) (fun z hz => by rw [hR.2.2.2] at hz; exact hz) (N' := k.toNatClampNeg) (a0 := (k.toNatClampNeg, f)) hcell hkk.1 rfl (by have := Nat.mul_le_mul hkk.2 hcb; omega) (by omega) (by omega) hdg ?_
            intro q1 cA H1 hK1 hP1 hD1 hS1
            refine ai_szW fun hup => ?_
            have hq1 := ai_newq hP1 hD1 (by omega)
            subst hq1
            have hcA : cA = cas t0 := by
              refine ai_ra (hK1.2 6 (cA, newarray.typeOf ty) ?_).2 (hK.2 t0 _ (ai_tys_at htt)).2
              rw [List.getElem?_append_right (by simp [ai_tys])]; simp [ai_tys]
            have hP2 : va_P D ai_cl (ai_W cas (ai_cv sa base) base 0 (h ++ [.inl (t0, k.toNatClampNeg, f)])) H1 := by
              rw [ai_W_app, Nat.zero_add]
              rw [hcA] at hP1
              rcases f with g | g | g
              · exact hP1
              · exact hP1
              · exact absurd rfl (hng g)
            rw [← hsq (ai_run_ne ho1)]
            rw [ha] at ho1
            refine S M rs ls _ _ o1 ho1 hM hs' p e R s m args below meth c H1 locs (cells + 1) (slots + k.toNatClampNeg) Q lc C hLV (ai_Rp.of hP2 hS1 hR.2.2.2 (by simp) (by simp; omega)) hlocs (by simp; omega) (by omega) (by omega) ?_
            intro pc1 lc1 H2 locs2 a b d e2
            have := hret pc1 lc1 H2 locs2 a b d e2
            rw [Nat.add_assoc, Nat.add_assoc]
            exact this
          cases ty <;> simp only [ai_at, ai_arr0] at hf <;> first | (cases hf; done) | skip
          all_goals (cases hf)
          all_goals first
            | exact key 0 .int rfl rfl rfl (ai_gw_of ai_ok_ap.1) (fun _ => rfl) (by decide) (fun g z => by cases z)
            | exact key 1 .long rfl rfl rfl (ai_gw_of ai_ok_ap.2.1) (fun _ => rfl) (by decide) (fun g z => by cases z)
            | exact key 2 .boolean rfl rfl rfl (ai_gw_of ai_ok_ap.2.2) (fun _ => rfl) (by decide) (fun g z => by cases z)
      · cases hrun
    · -- anewarray
      rename_i hk
      split at hrun
      · rename_i k t
        split at hrun
        · cases hrun
        · rename_i hkk
          obtain ⟨o1, ho1, rfl⟩ := Option.map_eq_some_iff.mp hrun
          obtain ⟨i, hi⟩ := ai_kd6 hk
          rw [hi] at hdg hlen
          obtain e1 : r.2.2.1 = 3 := by simpa [ai_len] using hlen
          rw [e1] at hdg
          rw [e1] at hsq
          obtain ⟨hx, hb, hml, hown, hts, hK, hnm, hfr, hlo, hE, hX, hLo⟩ := id C
          simp only [ai_add] at hcc hcs hret
          simp only [not_or, Nat.not_lt] at hkk
          simp only [ai_lnk, hi] at hlnk
          split at hlnk
          · rename_i C1 hC1
            refine va_newq hx hb hown (hts _ (ai_gw_of hlnk)) (hE.2.1 _ _ hC1) hK hR.2.1 ai_D (hR.S hlocs) (fun z hz => by rw [hR.2.2.2] at hz; exact hz) (N' := k.toNatClampNeg) hkk.1 rfl (by omega) (by omega) (by omega) hdg ?_
            intro q1 cA H1 hK1 hP1 hD1 hS1
            refine ai_szW fun hup => ?_
            have hq1 := ai_newq hP1 hD1 (by omega)
            subst hq1
            have hcA : cA = cas r.2.2.2.2.1 := by
              refine ai_ra (hK1.2 6 (cA, .object C1) ?_).2 (hK.2 _ _ (ai_tys_at hC1)).2
              rw [List.getElem?_append_right (by simp [ai_tys])]; simp [ai_tys]
            have hP2 : va_P D ai_cl (ai_W cas (ai_cv sa base) base 0 (h ++ [.inl (r.2.2.2.2.1, k.toNatClampNeg, .inr (.inr (.inr (.inr (fun _ => none)))))])) H1 := by
              rw [ai_W_app, Nat.zero_add]
              rw [hcA] at hP1
              exact hP1
            rw [← hsq (ai_run_ne ho1)]
            refine S M rs ls _ _ o1 ho1 hM hs' p e R s m args below meth c H1 locs (cells + 1) (slots + k.toNatClampNeg) Q lc C hLV (ai_Rp.of hP2 hS1 hR.2.2.2 (by simp) (by simp; omega)) hlocs (by simp; omega) (by omega) (by omega) ?_
            intro pc1 lc1 H2 locs2 a b d e2
            have := hret pc1 lc1 H2 locs2 a b d e2
            rw [Nat.add_assoc, Nat.add_assoc]
            exact this
          · cases hlnk
      · cases hrun
    · -- a call
      rename_i hk
      obtain ⟨hx, hb, hml, hown, hts, hK, hnm, hfr, hlo, hE, hX, hLo⟩ := id C
      have hlen3 : r.2.2.1 = 3 := by
        rcases ai_kd7 hk with ⟨k, hi⟩ | ⟨k, hi⟩ | ⟨k, hi⟩ <;> · rw [hi] at hlen; simpa [ai_len] using hlen
      rw [hlen3] at hdg hsq
      have hsz : lc.size = ai_mL M := hLV.2.1
      split at hrun
      · -- Object's own constructor
        rename_i h4
        split at hrun
        · rename_i a t
          split at hrun
          · rename_i hsm
            rcases ai_kd7 hk with ⟨k, hi⟩ | ⟨k, hi⟩ | ⟨k, hi⟩
            · simp [ai_lnk, hi, h4] at hlnk
            · simp [ai_lnk, hi, h4] at hlnk
            · simp only [ai_lnk, hi, h4] at hlnk
              simp only [show ¬ (4 = 2) by decide, show ¬ (4 = 3) by decide, if_false, Bool.and_eq_true, decide_eq_true_eq] at hlnk
              rw [hi] at hdg
              refine W.objInit hx hb hown (hts _ (ai_gw_of hlnk.2.1)) (hts _ (ai_gw_of ai_oi.1)) (hts _ (ai_gw_of ai_oi.2)) rfl (by rw [hml]; exact hsz) rfl hdg (by omega) (by rw [ai_sum_cv]; show 2 * 0 + ai_sum t + 12 ≤ _; omega) ?_
              refine W.eq (g2 := F0 m (r.1 + 3) lc (t.map (ai_cv sa base))) rfl ?_
              rw [← hsq (ai_run_ne hrun)]
              exact S M rs ls t h o hrun hM hs' p e R s m args below meth c H locs cells slots Q lc C hLV hR hlocs hcnt hcc hcs hret
          · cases hrun
        · cases hrun
      · rename_i hn4
        split at hrun
        · -- arraycopy
          rename_i h5
          split at hrun
          · rename_i t h1 hcp
            split at hrun
            · rename_i hsm
              rcases ai_kd7 hk with ⟨k, hi⟩ | ⟨k, hi⟩ | ⟨k, hi⟩
              · simp [ai_lnk, hi, h5] at hlnk
              · simp only [ai_lnk, hi, h5] at hlnk
                simp only [show ¬ (5 = 1) by decide, show ¬ (5 = 8) by decide, show ¬ (5 = 9) by decide, if_false, Bool.and_eq_true, decide_eq_true_eq] at hlnk
                rw [hi] at hdg
                unfold ai_cpy at hcp
                split at hcp
                · rename_i n1 dp b1 sp a1 t1
                  split at hcp
                  · rename_i n0 f n2 g ha1 hb1
                    split at hcp
                    · cases hcp
                    · rename_i hz
                      simp only [Option.some.injEq, Prod.mk.injEq] at hcp
                      obtain ⟨rfl, rfl⟩ := hcp
                      simp only [not_or, Nat.not_lt] at hz
                      refine va_copyi hx hb (by rw [hml]; exact hsz.symm) hown (hts _ (ai_gw_of hlnk.2.1)) (hts _ (ai_gw_of ai_cpw.1)) (hts _ (ai_gw_of ai_cpw.2.1)) (hts _ (ai_gw_of ai_cpw.2.2)) hK hR.2.1 ai_D (hR.S hlocs) a1 b1 0 0 (ty := .int) (ai_W_at ha1) (ai_W_at hb1) (ai_tys_at rfl) (ai_tys_at rfl) rfl hz.1 hz.2.1 hz.2.2.1 hz.2.2.2.1 hz.2.2.2.2 (fun _ _ => rfl) (by omega) (by rw [ai_sum_cv, ai_nfw]; omega) hdg ?_
                      intro H1 locs1 hP1 hD1 hS1
                      refine ai_szW fun hup => ?_
                      rw [← hsq (ai_run_ne hrun)]
                      exact S M rs ls t1 _ o hrun hM hs' p e R s m args below meth c H1 locs1 cells slots Q lc C hLV (ai_Rp.of (locs := locs1) (by rw [ai_W_set]; simpa [ai_cE] using hP1) hS1 hR.2.2.2 (by intro z; simp at z; subst z; simp at hb1) (by rw [List.length_set]; omega)) hS1.2.2 (by rw [List.length_set]; exact hcnt) hcc hcs hret
                  · rename_i n0 f n2 g ha1 hb1
                    split at hcp
                    · cases hcp
                    · rename_i hz
                      simp only [Option.some.injEq, Prod.mk.injEq] at hcp
                      obtain ⟨rfl, rfl⟩ := hcp
                      simp only [not_or, Nat.not_lt] at hz
                      refine va_copyl hx hb (by rw [hml]; exact hsz.symm) hown (hts _ (ai_gw_of hlnk.2.1)) (hts _ (ai_gw_of ai_cpw.1)) (hts _ (ai_gw_of ai_cpw.2.1)) (hts _ (ai_gw_of ai_cpw.2.2)) hK hR.2.1 ai_D (hR.S hlocs) a1 b1 1 1 (ty := .long) (ai_W_at ha1) (ai_W_at hb1) (ai_tys_at rfl) (ai_tys_at rfl) rfl hz.1 hz.2.1 hz.2.2.1 hz.2.2.2.1 hz.2.2.2.2 (fun _ _ => rfl) (by omega) (by rw [ai_sum_cv, ai_nfw]; omega) hdg ?_
                      intro H1 locs1 hP1 hD1 hS1
                      refine ai_szW fun hup => ?_
                      rw [← hsq (ai_run_ne hrun)]
                      exact S M rs ls t1 _ o hrun hM hs' p e R s m args below meth c H1 locs1 cells slots Q lc C hLV (ai_Rp.of (locs := locs1) (by rw [ai_W_set]; simpa [ai_cE] using hP1) hS1 hR.2.2.2 (by intro z; simp at z; subst z; simp at hb1) (by rw [List.length_set]; omega)) hS1.2.2 (by rw [List.length_set]; exact hcnt) hcc hcs hret
                  · cases hcp
                · cases hcp
              · simp [ai_lnk, hi, h5] at hlnk
            · cases hrun
          · cases hrun
        · rename_i hn5
          have hSs : va_S (ai_A base) s.heap H locs := ⟨by rw [hR.1]; omega, fun q h1 h2 => by rw [hLo q (Nat.not_le.mp h2)]; exact hR.2.2.1 q (Nat.not_le.mp h2), hlocs⟩
          have hkp : ∀ q : Nat, q < Hb.size → ¬ ai_A base q → s.heap[q]? = Hb[q]? := fun q h1 h2 => hLo q (Nat.not_le.mp h2)
          have hbelow : ai_Lo base Hb H := hR.2.2.1
          split at hrun
          · -- String.length
            rename_i h6
            split at hrun
            · rename_i k t
              split at hrun
              · rename_i hsm
                rcases ai_kd7 hk with ⟨i, hi⟩ | ⟨i, hi⟩ | ⟨i, hi⟩
                · simp only [ai_lnk, hi, h6] at hlnk
                  simp only [show ¬ (6 = 0) by decide, if_false, if_true, Bool.and_eq_true, decide_eq_true_eq] at hlnk
                  rw [hi] at hdg
                  refine sm_call (va_runV (C := "java/lang/String") (b := sa k.toNat) (As := []) (rest := t.map (ai_cv sa base)) ⟨hx, hb, hml, hown, hts⟩ (sm_length l hsm.2 hR.2.2.2) ⟨callB_of 0 hts (sm_good sw_length) rfl rfl rfl (hts _ (ai_gw_of sw_ini)) (hts _ (ai_gw_of hlnk.1)) (by decide +kernel) ⟨by show 1 + 1 ≤ R.frames; omega, by show 8 + (1 + 11) + 20 ≤ R.locals; omega⟩, hts _ (ai_gw_of sw_length.2.1), hts _ (ai_gw_of sw_length.2.2)⟩ ⟨sm_blind, vk_recv (hE.2.2.2.1.kept hkp) hsm.2 hSs, fun U hU hW => ⟨rfl, by rw [hU]; exact hbelow, hE.warm hW⟩⟩ rfl rfl hsz rfl (by rw [ai_sum_cv]; show 2 * 0 + ai_sum t ≤ 8; omega) hdg ⟨by show cells + 0 ≤ R.cells; omega, by show slots + 0 ≤ R.slots; omega⟩) ?_
                  rw [← hsq (ai_run_ne hrun)]
                  exact S M rs ls _ h o hrun hM hs' p e R s m args below meth c H locs cells slots Q lc C hLV hR hlocs hcnt hcc hcs hret
                · simp [ai_lnk, hi, h6] at hlnk
                · simp [ai_lnk, hi, h6] at hlnk
              · cases hrun
            · cases hrun
          · rename_i hn6
            split at hrun
            · -- String.charAt
              rename_i h7
              split at hrun
              · rename_i j k t
                split at hrun
                · rename_i hsm
                  rcases ai_kd7 hk with ⟨i, hi⟩ | ⟨i, hi⟩ | ⟨i, hi⟩
                  · simp only [ai_lnk, hi, h7] at hlnk
                    simp only [show ¬ (7 = 0) by decide, show ¬ (7 = 6) by decide, if_false, if_true, Bool.and_eq_true, decide_eq_true_eq] at hlnk
                    rw [hi] at hdg
                    refine sm_call (va_runV (C := "java/lang/String") (b := sa k.toNat) (As := [.int j]) (rest := t.map (ai_cv sa base)) ⟨hx, hb, hml, hown, hts⟩ (sm_charAt l hsm.2.1 hsm.2.2 hR.2.2.2) ⟨callB_of 1 hts (sm_good sw_charAt) rfl rfl rfl (hts _ (ai_gw_of sw_ini)) (hts _ (ai_gw_of hlnk.2.1)) (by decide +kernel) ⟨by show 3 + 1 ≤ R.frames; omega, by show 8 + (2 + 11) + 64 ≤ R.locals; omega⟩, hts _ (ai_gw_of sw_charAt.2.1), hts _ (ai_gw_of sw_charAt.2.2)⟩ ⟨sm_blind, vk_recv (hE.2.2.2.1.kept hkp) hsm.2.1 hSs, fun U hU hW => ⟨rfl, by rw [hU]; exact hbelow, hE.warm hW⟩⟩ rfl rfl hsz rfl (by rw [ai_sum_cv]; show 2 * 0 + ai_sum t ≤ 8; omega) hdg ⟨by show cells + 0 ≤ R.cells; omega, by show slots + 0 ≤ R.slots; omega⟩) ?_
                    rw [← hsq (ai_run_ne hrun)]
                    exact S M rs ls _ h o hrun hM hs' p e R s m args below meth c H locs cells slots Q lc C hLV hR hlocs hcnt hcc hcs hret
                  · simp [ai_lnk, hi, h7] at hlnk
                  · simp [ai_lnk, hi, h7] at hlnk
                · cases hrun
              · cases hrun
            · rename_i hn7
              split at hrun
              · -- Math.max
                rename_i h8
                split at hrun
                · rename_i y x t
                  split at hrun
                  · rename_i hsm
                    rcases ai_kd7 hk with ⟨i, hi⟩ | ⟨i, hi⟩ | ⟨i, hi⟩
                    · simp [ai_lnk, hi, h8] at hlnk
                    · simp only [ai_lnk, hi, h8] at hlnk
                      simp only [show ¬ (8 = 1) by decide, if_false, if_true, Bool.and_eq_true, decide_eq_true_eq] at hlnk
                      rw [hi] at hdg
                      refine va_mmax hx hb (by rw [hml]; exact hsz.symm) hown (hts _ (ai_gw_of hlnk.1)) (hts _ (ai_gw_of sw_max.1)) (hts _ (ai_gw_of sw_math)) (hts _ (ai_gw_of sw_max.2)) (by omega) (by rw [ai_sum_cv]; omega) (by omega) (by omega) hdg ?_
                      rw [← hsq (ai_run_ne hrun)]
                      exact S M rs ls _ h o hrun hM hs' p e R s m args below meth c H locs cells slots Q lc C hLV hR hlocs hcnt hcc hcs hret
                    · simp [ai_lnk, hi, h8] at hlnk
                  · cases hrun
                · cases hrun
              · rename_i hn8
                split at hrun
                · -- Math.min
                  rename_i h9
                  split at hrun
                  · rename_i y x t
                    split at hrun
                    · rename_i hsm
                      rcases ai_kd7 hk with ⟨i, hi⟩ | ⟨i, hi⟩ | ⟨i, hi⟩
                      · simp [ai_lnk, hi, h9] at hlnk
                      · simp only [ai_lnk, hi, h9] at hlnk
                        simp only [show ¬ (9 = 1) by decide, show ¬ (9 = 8) by decide, if_false, if_true, Bool.and_eq_true, decide_eq_true_eq] at hlnk
                        rw [hi] at hdg
                        refine va_mmin hx hb (by rw [hml]; exact hsz.symm) hown (hts _ (ai_gw_of hlnk.1)) (hts _ (ai_gw_of sw_min.1)) (hts _ (ai_gw_of sw_math)) (hts _ (ai_gw_of sw_min.2)) (by omega) (by rw [ai_sum_cv]; omega) (by omega) (by omega) hdg ?_
                        rw [← hsq (ai_run_ne hrun)]
                        exact S M rs ls _ h o hrun hM hs' p e R s m args below meth c H locs cells slots Q lc C hLV hR hlocs hcnt hcc hcs hret
                      · simp [ai_lnk, hi, h9] at hlnk
                    · cases hrun
                  · cases hrun
                · rename_i hn9
                  split at hrun
                  · -- the program's own methods
                    rename_i hlt
                    split at hrun
                    · rename_i M1 hM1
                      split at hrun
                      · rename_i av t hav
                        split at hrun
                        · rename_i hfs
                          split at hrun
                          · rename_i o1 ho1
                            obtain ⟨o2, ho2, rfl⟩ := Option.map_eq_some_iff.mp hrun
                            have hM1' : M1 ∈ ai_mt := List.mem_of_getElem? hM1
                            simp only [ai_add] at hcc hcs hret
                            -- behind the call
                            have after : ∀ (v : Option Value) (st₀ u : State) (L : List Loc) (a : Array Value), ai_Qc D cas sa base Hb o1.1 o1.2.1 a st₀ (.returned v) u → (∀ q ∈ L, ai_A base q.base) → W p l e R s m args below meth c u.heap (locs ++ L) (cells + o1.2.2.1) (slots + o1.2.2.2) Q (F0 m (r.1 + 3) lc (v.toList ++ t.map (ai_cv sa base))) := by
                              intro v st₀ u L a hq hL
                              obtain ⟨e1, hRu⟩ := hq
                              cases e1
                              rw [← hsq (ai_run_ne ho2)]
                              have hcn := ai_run_cnt _ _ _ _ _ _ _ ho1
                              have hst : (Option.map (ai_cv sa base) o1.1).toList ++ t.map (ai_cv sa base) = (o1.1.toList ++ t).map (ai_cv sa base) := by
                                cases o1.1 <;> simp
                              rw [hst]
                              refine S M rs ls _ _ o2 ho2 hM hs' p e R s m args below meth c u.heap (locs ++ L) (cells + o1.2.2.1) (slots + o1.2.2.2) Q lc C hLV hRu (fun q hq => (List.mem_append.mp hq).elim (hlocs q) (hL q)) (by rw [hcn]; omega) (by omega) (by omega) ?_
                              intro pc1 lc1 H2 locs2 a b d e2
                              have := hret pc1 lc1 H2 locs2 a b d e2
                              rw [Nat.add_assoc, Nat.add_assoc]
                              exact this
                            have hroom : cells + o1.2.2.1 ≤ R.cells ∧ slots + o1.2.2.2 ≤ R.slots := ⟨by omega, by omega⟩
                            have hW8 : ∀ (pcx : Nat) (stx : List Value), 2 * (F0 m pcx lc stx).monitorRoom + ((t.map (ai_cv sa base)).map fun v => v.category).sum ≤ 8 := fun pcx stx => by
                              rw [ai_sum_cv]; show 2 * 0 + ai_sum t ≤ 8; omega
                            rcases ai_kd7 hk with ⟨k, hi⟩ | ⟨k, hi⟩ | ⟨k, hi⟩
                            · -- an object's own method
                              rw [hi] at hdg
                              simp only [ai_lnk, hi, hM1] at hlnk
                              split at hlnk
                              · rename_i ha0
                                simp only [Bool.and_eq_true, decide_eq_true_eq] at hlnk
                                obtain ⟨g1, g2, g3, g4⟩ := hlnk
                                obtain ⟨f1, f2, f3, f4, f5, f6, f7, f8⟩ := ai_mth hM1' (by omega)
                                have hmet := ai_met (l := l) S hM1' (by omega) hfs.1 ho1
                                unfold ai_arg at hav
                                rw [if_neg (by omega)] at hav
                                split at hav
                                · rename_i a t1 hdrop
                                  split at hav
                                  · rename_i fc fsx hha
                                    split at hav
                                    · rename_i hfc
                                      simp only [Option.some.injEq, Prod.mk.injEq] at hav
                                      obtain ⟨rfl, rfl⟩ := hav
                                      subst hfc
                                      obtain ⟨q, hq, -⟩ := hR.2.1 a _ (ai_W_at hha)
                                      have hcl : q.1 = (ai_mY M1).cls := by
                                        rw [f2, ai_own, List.getD_eq_getElem?_getD, (ai_cls hq).2.2.2.2.2.2.1]; rfl
                                      simp only [ai_mkd, g2, Bool.and_eq_true] at f8
                                      have hst : st = (st.take (ai_mN M1)) ++ (.ref a :: t1) := by rw [← hdrop, List.take_append_drop]
                                      have hnl : (st.take (ai_mN M1)).length = ai_mN M1 := by
                                        rw [List.length_take]
                                        have : (st.drop (ai_mN M1)).length = (Value.ref a :: t1).length := by rw [hdrop]
                                        rw [List.length_drop, List.length_cons] at this
                                        omega
                                      refine ai_callW (va_runV (C := (ai_mY M1).cls) (b := base + a) (As := (st.take (ai_mN M1)).reverse.map (ai_cv sa base)) (rest := t1.map (ai_cv sa base)) ⟨hx, hb, hml, hown, hts⟩ hmet ⟨callB_of (ai_mN M1) hts (ai_goodIn f1) rfl rfl rfl (hts _ f5) (hts _ (ai_gw_of g1)) f3 ⟨Nat.le_trans g3 hfr, Nat.le_trans g4 hlo⟩, hts _ (ai_gw_of f8.1), hts _ (ai_gw_of f8.2)⟩ ⟨ai_blind, by rw [← hcl]; exact va_recv hK hR.2.1 hq (ai_W_at hha), fun U hU hW => ⟨rfl, by rw [hU]; exact hR, va_K.moved hW.alike hK, hE.warm hW⟩⟩ rfl (by rw [List.length_map, List.length_reverse, hnl]) hsz ?_ (hW8 _ _) hdg hroom) (fun v st₀ u L hq hL => after v st₀ u L _ hq hL)
                                      show st.map (ai_cv sa base) = _
                                      rw [hst, List.map_append, List.map_cons]
                                      simp [List.map_reverse, hnl, ai_cv]
                                    · cases hav
                                  · cases hav
                                · cases hav
                              · exfalso; revert hlnk; (repeat' split) <;> simp <;> omega
                            · -- a class's own method
                              rw [hi] at hdg
                              simp only [ai_lnk, hi, hM1] at hlnk
                              split at hlnk
                              · rename_i ha0
                                simp only [Bool.and_eq_true, decide_eq_true_eq] at hlnk
                                obtain ⟨g1, g2, g3, g4⟩ := hlnk
                                obtain ⟨f1, f2, f3, f4, f5, f6, f7, f8⟩ := ai_mth hM1' (by omega)
                                have hmet := ai_met (l := l) S hM1' (by omega) hfs.1 ho1
                                unfold ai_arg at hav
                                rw [if_pos ha0] at hav
                                split at hav
                                · rename_i hle
                                  simp only [Option.some.injEq, Prod.mk.injEq] at hav
                                  obtain ⟨rfl, rfl⟩ := hav
                                  simp only [ai_mkd, g2] at f8
                                  have hnl : (st.take (ai_mN M1)).length = ai_mN M1 := by rw [List.length_take]; omega
                                  refine ai_callW (va_runS (As := (st.take (ai_mN M1)).reverse.map (ai_cv sa base)) (rest := (st.drop (ai_mN M1)).map (ai_cv sa base)) ⟨hx, hb, hml, hown, hts⟩ hmet ⟨callB_of (ai_mN M1) hts (ai_goodIn f1) rfl rfl rfl (hts _ f5) (hts _ (ai_gw_of g1)) f3 ⟨Nat.le_trans g3 hfr, Nat.le_trans g4 hlo⟩, hts _ (ai_gw_of f8)⟩ ⟨ai_blind, fun U hU hW => ⟨rfl, by rw [hU]; exact hR, va_K.moved hW.alike hK, hE.warm hW⟩⟩ rfl (by rw [List.length_map, List.length_reverse, hnl]) hsz ?_ (hW8 _ _) hdg hroom) (fun v st₀ u L hq hL => after v st₀ u L _ hq hL)
                                  show st.map (ai_cv sa base) = _
                                  conv => lhs; rw [← List.take_append_drop (ai_mN M1) st]
                                  simp [List.map_reverse]
                                · cases hav
                              · exfalso; revert hlnk; (repeat' split) <;> simp <;> omega
                            · -- a constructor
                              rw [hi] at hdg
                              simp only [ai_lnk, hi, hM1] at hlnk
                              have hk2 : ai_mK M1 = 2 ∧ ai_mF M1 + 1 ≤ ai_mF M ∧ 8 + (ai_mL M1 + 11) + ai_mO M1 ≤ ai_mO M ∧ (ai_w r.2.2.2.2.2.2.1 (.methodLink (ai_own M) k (ai_mY M1)) = true ∨ (lw_tbl[r.2.2.2.2.2.2.1]? = some (.methodLinkNest (ai_own M) k (ai_mY M1) an_10) ∧ r.2.2.2.2.2.2.1 ∈ ai_nst)) ∧ r.2.2.2.2.1 ≠ 1 := by
                                split at hlnk
                                · simp only [Bool.and_eq_true, decide_eq_true_eq] at hlnk
                                  exact ⟨hlnk.2.1, hlnk.2.2.1, hlnk.2.2.2, Or.inl hlnk.1, by omega⟩
                                · split at hlnk
                                  · simp only [Bool.and_eq_true, decide_eq_true_eq] at hlnk
                                    exact ⟨hlnk.2.2.1, hlnk.2.2.2.1, hlnk.2.2.2.2, Or.inr ⟨hlnk.1, hlnk.2.1⟩, by omega⟩
                                  · simp only [Bool.and_eq_true, decide_eq_true_eq] at hlnk
                                    exact absurd hlnk.1 hn4
                              obtain ⟨g2, g3, g4, g1, gn⟩ := hk2
                              obtain ⟨f1, f2, f3, f4, f5, f6, f7, f8⟩ := ai_mth hM1' (by omega)
                              have hmet := ai_met (l := l) S hM1' (by omega) hfs.1 ho1
                              unfold ai_arg at hav
                              rw [if_neg gn] at hav
                              split at hav
                              · rename_i a t1 hdrop
                                split at hav
                                · rename_i fc fsx hha
                                  split at hav
                                  · rename_i hfc
                                    simp only [Option.some.injEq, Prod.mk.injEq] at hav
                                    obtain ⟨rfl, rfl⟩ := hav
                                    simp only [ai_mkd, g2, Bool.and_eq_true, decide_eq_true_eq] at f8
                                    have hst : st = (st.take (ai_mN M1)) ++ (.ref a :: t1) := by rw [← hdrop, List.take_append_drop]
                                    have hnl : (st.take (ai_mN M1)).length = ai_mN M1 := by
                                      rw [List.length_take]
                                      have : (st.drop (ai_mN M1)).length = (Value.ref a :: t1).length := by rw [hdrop]
                                      rw [List.length_drop, List.length_cons] at this
                                      omega
                                    have hstk : st.map (ai_cv sa base) = ((st.take (ai_mN M1)).reverse.map (ai_cv sa base)).reverse ++ .ref (base + a) :: t1.map (ai_cv sa base) := by
                                      conv => lhs; rw [hst]
                                      simp [List.map_reverse, ai_cv]
                                    have hT : ai_mT M1 = none := f8.2.2
                                    rw [hT] at hmet f1
                                    have hG : GoodIn ai_gw (.code (ai_mY M1) (ai_mB M1) (ai_mL M1) none :: ai_gw) := by have := ai_goodIn (M := M1) (by rw [hT]; exact f1); rwa [hT] at this
                                    rcases g1 with g1 | ⟨g1, gm⟩
                                    · exact ai_callW (va_runI (b := base + a) (As := (st.take (ai_mN M1)).reverse.map (ai_cv sa base)) (rest := t1.map (ai_cv sa base)) ⟨hx, hb, hml, hown, hts⟩ hmet ⟨callB_of (ai_mN M1) hts hG rfl rfl rfl (hts _ f5) (hts _ (ai_gw_of g1)) f3 ⟨Nat.le_trans g3 hfr, Nat.le_trans g4 hlo⟩, f8.2.1, hts _ (ai_gw_of f8.1)⟩ ⟨ai_blind, fun U hU hW => ⟨rfl, by rw [hU]; exact hR, va_K.moved hW.alike hK, hE.warm hW⟩⟩ rfl (by rw [List.length_map, List.length_reverse, hnl]) hsz hstk (hW8 _ _) hdg hroom) (fun v st₀ u L hq hL => after v st₀ u L _ hq hL)
                                    · exact ai_callW (va_runIN (host := an_10) (b := base + a) (As := (st.take (ai_mN M1)).reverse.map (ai_cv sa base)) (rest := t1.map (ai_cv sa base)) ⟨hx, hb, hml, hown, hts⟩ hmet ⟨va_cnB (ai_mN M1) hts hG rfl rfl rfl (hE.1 _ gm _ _ _ _ g1) (hts _ f5) f3 ⟨Nat.le_trans g3 hfr, Nat.le_trans g4 hlo⟩, f8.2.1, hts _ (ai_gw_of f8.1)⟩ ⟨ai_blind, fun U hU hW => ⟨rfl, by rw [hU]; exact hR, va_K.moved hW.alike hK, hE.warm hW⟩⟩ rfl (by rw [List.length_map, List.length_reverse, hnl]) hsz hstk (hW8 _ _) hdg hroom) (fun v st₀ u L hq hL => after v st₀ u L _ hq hL)
                                  · cases hav
                                · cases hav
                              · cases hav
                          · cases hrun
                        · cases hrun
                      · cases hrun
                    · cases hrun
                  · cases hrun
    · cases hrun
end AISOUND
