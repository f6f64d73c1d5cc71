/-! BY TURNS: the class settles; the obligation -/
theorem pop_le1 {s : Nat} (hs : s < 16384) : pop s 14 ≤ 1 ↔ s = 0 ∨ ∃ r, r < 14 ∧ s = 2 ^ r := by
  constructor
  · intro h
    by_cases h0 : s = 0
    · exact Or.inl h0
    · obtain ⟨k, hk⟩ := bs_ne.mp h0
      have hk14 : k < 14 := bt_lt (n := 14) (by omega) hk
      refine Or.inr ⟨k, hk14, ?_⟩
      apply Decidable.byContradiction
      intro y
      have hsub : sub (2 ^ k) s := fun j hj => by
        rw [bt_pow] at hj
        subst hj
        exact hk
      have h1 := pop_lt (n := 14) hsub (by omega) (fun z => y z.symm)
      have h2 : 1 ≤ pop (2 ^ k) 14 := pop_pos (bt_pow.mpr rfl) 14 hk14
      omega
  · rintro (rfl | ⟨r, hr, rfl⟩)
    · rw [pop_z0]; omega
    · have := pop_o14 (s := 0) (k := r)
      rw [Nat.zero_or, pop_z0] at this
      omega
def val (N : Nat → Nat) (d s : Nat) : Int32 := if kn N d s = true then nI (ls N s) else -1
theorem val_eq {N : Nat → Nat} {d s : Nat} (h : kn N d s = true) : val N (d + 1) s = val N d s := by rw [val, val, if_pos h, if_pos (kn_le h (by omega))]
theorem val_p {N : Nat → Nat} {d s : Nat} (h : pop s 14 ≤ 1) : val N d s = nI 0 := by
  rw [val, if_pos (kn_p h d)]
  have := (ls_ok (kn_p (N := N) h 0) (by omega)).1
  rw [show ls N s = 0 by omega]
theorem val_m1 {N : Nat → Nat} {d s : Nat} (h40 : d ≤ 40) : val N d s = -1 ↔ ¬ kn N d s = true := by
  unfold val
  split
  · rename_i h
    have := (ls_ok h h40).1
    exact ⟨fun z => absurd z (nm_eq (by omega)), fun z => absurd h z⟩
  · rename_i h
    exact ⟨fun _ => h, fun _ => rfl⟩
theorem val_new {N : Nat → Nat} {d s : Nat} (h40 : d + 1 ≤ 40) (h : kn N (d + 1) s = true) (hn : ¬ kn N d s = true) : val N (d + 1) s = nI (d + 1) := by rw [val, if_pos h, ls_new h hn h40]
/-- what 'within' looks at -/
theorem val_w {N : Nat → Nat} {d s : Nat} {y : Int32} (h40 : d + 1 ≤ 40) (h : y = val N d s ∨ y = val N (d + 1) s) : (¬ y = -1 ∧ y < nI (d + 1)) ↔ kn N d s = true := by
  by_cases hk : kn N d s = true
  · have e : y = nI (ls N s) := by
      rcases h with q | q
      · rw [q, val, if_pos hk]
      · rw [q, val_eq hk, val, if_pos hk]
    have := (ls_ok hk (by omega)).1
    rw [e]
    exact ⟨fun _ => hk, fun _ => ⟨nm_eq (by omega), (nI_ltI (by omega) (by omega)).mpr (by omega)⟩⟩
  · refine ⟨fun z => ?_, fun z => absurd z hk⟩
    exfalso
    rcases h with q | q
    · exact z.1 (by rw [q, val, if_neg hk])
    · by_cases hk2 : kn N (d + 1) s = true
      · have z2 := z.2
        rw [q, val_new h40 hk2 hk] at z2
        have := (nI_ltI (by omega) (by omega)).mp z2
        omega
      · exact z.1 (by rw [q, val, if_neg hk2])
abbrev VS (m : Nat) (st : Nat → Nat) (s : Nat) : Prop := s < 16384 ∧ (pop s 14 ≤ 1 ∨ ∃ i, i < m ∧ st i = s)
/-- what the class's passes stand on -/
def CW (h : ai_H) (N : Nat → Nat) (sc : Nat) (n2 : Int32) (p pv m : Nat) (st bs : Nat → Nat) : Prop := CH h 3 N ∧ h[24]? = some (cSets (nI sc) n2 (.ref pv) (.ref (pv + 1))) ∧ BSg h bs sc ∧ SU h p m st ∧ IM h (tf N false) (N 1) ∧ 80 ≤ p ∧ 80 ≤ pv ∧ (pv + 2 ≤ p ∨ p + 3 ≤ pv) ∧ SG N bs sc 10 ∧ US N m st ∧ CLO N m m st
theorem CW.fr {h h1 : ai_H} {N : Nat → Nat} {sc p pv m : Nat} {n2 : Int32} {st bs : Nat → Nat} (F : Fr pv (pv + 2) h h1) (H : CW h N sc n2 p pv m st bs) : CW h1 N sc n2 p pv m st bs := by
  obtain ⟨a, b, ⟨f, c1, c2⟩, d, e, f1, f2, f3, r⟩ := H
  exact ⟨a.fr2 F (by omega), (F.2 24 (by omega)).trans b, ⟨f, (F.2 26 (by omega)).trans c1, c2⟩, d.fr (F.2 22 (by omega)) (fun q _ _ => F.2 q (by omega)), e.fr (F.2 25 (by omega)), f1, f2, f3, r⟩
theorem l119 {X : ai_X} {h : ai_H} {N bs st : Nat → Nat} {sc p pv m : Nat} {n2 : Int32} (hN : HN N) (W : CW h N sc n2 p pv m st bs) {x d0 : Nat} {fv : Nat → Int32} (h40 : d0 + 1 ≤ 40) (cv : h[pv]? = some (cI 16384 fv)) (hfv : ∀ s, VS m st s → fv s = val N d0 s ∨ fv s = val N (d0 + 1) s) (hx : x < 2 ^ N 0) (hP : PPt N m st x) : ∀ (d : Nat) (i : Nat) (c4 : Option Value), sc < i + d → (i ≤ sc) → (∀ i', i' < i → kn N d0 (x &&& bs i') = true) → Rk X am_119 2 [some (.ref 24), some (.int (nI x)), some (.int (nI (d0 + 1))), some (.int (nI i)), c4] [] h (Qi (fun w h1 => h1 = h ∧ ((w = nI 1 ∧ ALT N d0 x) ∨ (w = nI 0 ∧ ¬ ALT N d0 x)))) := by
  intro d
  induction d with
  | zero => intro i c4 hd hi D; exfalso; omega
  | succ d ih =>
    intro i c4 hd hi D
    obtain ⟨C, d24, ⟨f26, c26, hf26⟩, S, I, hp80, hv80, hsep, hSG, U, K⟩ := id W
    obtain ⟨base, e22⟩ := S.obj
    have e3 := C.1
    have hp14 := hN.p14
    have h6 := hN.t
    have hm := U.m hN
    have hsc := hSG.2.2
    have hpt : x &&& bs i < 2 ^ N 0 := sub.lt (fun k hk => (bt_and.mp hk).1) hx
    have hgi : i < sc → ∃ g, g < 10 ∧ bs i = sgn N g := fun y => hSG.1 i y
    have hval : i < sc → fv (x &&& bs i) = val N d0 (x &&& bs i) ∨ fv (x &&& bs i) = val N (d0 + 1) (x &&& bs i) := fun y => by
      obtain ⟨g, y1, y2⟩ := hgi y
      refine hfv _ ⟨by omega, ?_⟩
      rw [y2]
      rcases hP g y1 with q | ⟨j, j1, j2⟩
      · exact Or.inl q
      · exact Or.inr ⟨j, j1, j2⟩
    refine rk_iload_n rfl rfl ?_
    refine rk_aload_n rfl rfl ?_
    refine rk_get rfl (by assumption) rfl ?_
    refine rk_icmp_ge rfl rfl (fun hc5 => ?_) (fun hc5 => ?_)
    · replace hc5 := (nI_leI (by omega) (by omega)).mp hc5
      refine rk_iconst (v := nI 1) rfl (by decide) ?_
      refine rk_ireturn rfl rfl ⟨_, _, rfl, rfl, Or.inl ⟨rfl, fun g hg => ?_⟩⟩
      rcases hSG.2.1 g hg with y | ⟨j, y1, y2⟩
      · rw [y, Nat.and_zero]; exact kn_z _
      · rw [← y2]; exact D j (by omega)
    · replace hc5 := mt (nI_leI (by omega) (by omega)).mpr hc5
      refine rk_aload_n rfl rfl ?_
      refine rk_get rfl (by assumption) rfl ?_
      refine rk_iload_n rfl rfl ?_
      refine rk_aload_n rfl rfl ?_
      refine rk_get rfl (by assumption) rfl ?_
      refine rk_iload_n rfl rfl ?_
      refine rk_iald rfl (by assumption) (rfl) (by omega) (by decide) ?_
      rw [hf26 i (by omega)]
      replace hval := hval (by omega)
      obtain ⟨g, hg1, hg2⟩ := hgi (by omega)
      refine rk_iand rfl (b_andU _ _) ?_
      refine rk_iald rfl (by assumption) (rfl) (by omega) (by decide) ?_
      
      refine rk_istore rfl (Nat.le_of_ble_eq_true rfl) rfl ?_
      refine rk_iload rfl rfl ?_
      refine rk_iconst (v := (-1)) rfl (by decide) ?_
      refine rk_icmp_eq rfl rfl (fun hc18 => ?_) (fun hc18 => ?_)
      · refine rk_iconst (v := nI 0) rfl (by decide) ?_
        refine rk_ireturn rfl rfl ⟨_, _, rfl, rfl, Or.inr ⟨rfl, fun y => ?_⟩⟩
        have y2 := y g hg1
        rw [← hg2] at y2
        have y3 := (val_w h40 hval).mpr y2
        first
          | exact y3.1 hc18
          | exact hc21 y3.2
      · refine rk_iload rfl rfl ?_
        refine rk_iload_n rfl rfl ?_
        refine rk_icmp_lt rfl rfl (fun hc21 => ?_) (fun hc21 => ?_)
        · refine rk_iinc rfl rfl (n_inc _) rfl ?_
          refine rk_goto rfl rfl ?_
          refine ih (i + 1) _ (by omega) (by omega) (fun i' y => ?_)
          by_cases q : i' = i
          · rw [q]; exact (val_w h40 hval).mp ⟨hc18, hc21⟩
          · exact D i' (by omega)
        · refine rk_iconst (v := nI 0) rfl (by decide) ?_
          refine rk_ireturn rfl rfl ⟨_, _, rfl, rfl, Or.inr ⟨rfl, fun y => ?_⟩⟩
          have y2 := y g hg1
          rw [← hg2] at y2
          have y3 := (val_w h40 hval).mpr y2
          first
            | exact y3.1 hc18
            | exact hc21 y3.2
theorem s119 {X : ai_X} {h : ai_H} {N bs st : Nat → Nat} {sc p pv m : Nat} {n2 : Int32} (hN : HN N) (W : CW h N sc n2 p pv m st bs) {x d0 : Nat} {fv : Nat → Int32} (h40 : d0 + 1 ≤ 40) (cv : h[pv]? = some (cI 16384 fv)) (hfv : ∀ s, VS m st s → fv s = val N d0 s ∨ fv s = val N (d0 + 1) s) (hx : x < 2 ^ N 0) (hP : PPt N m st x) : Mt X am_119 [.ref 24, .int (nI x), .int (nI (d0 + 1))] h (Qi (fun w h1 => h1 = h ∧ ((w = nI 1 ∧ ALT N d0 x) ∨ (w = nI 0 ∧ ¬ ALT N d0 x)))) := by
  refine rk_iconst (v := nI 0) rfl (by decide) ?_
  refine rk_istore_n rfl (Nat.le_of_ble_eq_true rfl) rfl ?_
  exact l119 hN W h40 cv hfv hx hP (sc + 1) 0 _ (by omega) (Nat.zero_le _) (fun i' y => absurd y (by omega))
theorem l120 {X : ai_X} {h : ai_H} {N bs st : Nat → Nat} {sc p pv m : Nat} {n2 : Int32} (hN : HN N) (W : CW h N sc n2 p pv m st bs) {d0 ms : Nat} {fv : Nat → Int32} (h40 : d0 ≤ 40) (cv : h[pv]? = some (cI 16384 fv)) (hfv : ∀ s, VS m st s → fv s = val N d0 s) (hms : ms ≤ m) : ∀ (d : Nat) (i : Nat), ms < i + d → (i ≤ ms) → (∀ i', i' < i → kn N d0 (st i') = true) → Rk X am_120 2 [some (.ref 24), some (.int (nI ms)), some (.int (nI i))] [] h (Qi (fun w h1 => h1 = h ∧ ((w = nI 1 ∧ ∀ i, i < ms → kn N d0 (st i) = true) ∨ (w = nI 0 ∧ ∃ i, i < ms ∧ ¬ kn N d0 (st i) = true)))) := by
  intro d
  induction d with
  | zero => intro i hd hi D; exfalso; omega
  | succ d ih =>
    intro i hd hi D
    obtain ⟨C, d24, ⟨f26, c26, hf26⟩, S, I, hp80, hv80, hsep, hSG, U, K⟩ := id W
    obtain ⟨base, e22⟩ := S.obj
    have e3 := C.1
    have hp14 := hN.p14
    have h6 := hN.t
    have hm := U.m hN
    have hsc := hSG.2.2
    have hsi : i < ms → st i < 2 ^ N 0 := fun y => (U.1 i (by omega)).2
    refine rk_iload_n rfl rfl ?_
    refine rk_iload_n rfl rfl ?_
    refine rk_icmp_ge rfl rfl (fun hc4 => ?_) (fun hc4 => ?_)
    · replace hc4 := (nI_leI (by omega) (by omega)).mp hc4
      refine rk_iconst (v := nI 1) rfl (by decide) ?_
      exact rk_ireturn rfl rfl ⟨_, _, rfl, rfl, Or.inl ⟨rfl, fun i' y => D i' (by omega)⟩⟩
    · replace hc4 := mt (nI_leI (by omega) (by omega)).mpr hc4
      refine rk_aload_n rfl rfl ?_
      refine rk_get rfl (by assumption) rfl ?_
      refine rk_aload_n rfl rfl ?_
      refine rk_get rfl (by assumption) rfl ?_
      refine rk_iload_n rfl rfl ?_
      refine rk_cv1e rfl rfl (by assumption) rfl rfl (Nat.le_of_ble_eq_true rfl) (Nat.le_of_ble_eq_true rfl) (s98U S (by omega)) ?_
      replace hsi := hsi (by omega)
      have hval := hfv (st i) ⟨by omega, Or.inr ⟨i, by omega, rfl⟩⟩
      refine rk_iald rfl (by assumption) (rfl) (by omega) (by decide) ?_
      
      refine rk_iconst (v := (-1)) rfl (by decide) ?_
      refine rk_icmp_ne rfl rfl (fun hc13 => ?_) (fun hc13 => ?_)
      · refine rk_iinc rfl rfl (n_inc _) rfl ?_
        refine rk_goto rfl rfl ?_
        refine ih (i + 1) (by omega) (by omega) (fun i' y => ?_)
        by_cases q : i' = i
        · rw [q]; exact Decidable.byContradiction (fun y2 => hc13 (hval.trans ((val_m1 h40).mpr y2)))
        · exact D i' (by omega)
      · replace hc13 := Decidable.not_not.mp hc13
        refine rk_iconst (v := nI 0) rfl (by decide) ?_
        exact rk_ireturn rfl rfl ⟨_, _, rfl, rfl, Or.inr ⟨rfl, i, by omega, (val_m1 h40).mp (hval.symm.trans hc13)⟩⟩
theorem s120 {X : ai_X} {h : ai_H} {N bs st : Nat → Nat} {sc p pv m : Nat} {n2 : Int32} (hN : HN N) (W : CW h N sc n2 p pv m st bs) {d0 ms : Nat} {fv : Nat → Int32} (h40 : d0 ≤ 40) (cv : h[pv]? = some (cI 16384 fv)) (hfv : ∀ s, VS m st s → fv s = val N d0 s) (hms : ms ≤ m) : Mt X am_120 [.ref 24, .int (nI ms)] h (Qi (fun w h1 => h1 = h ∧ ((w = nI 1 ∧ ∀ i, i < ms → kn N d0 (st i) = true) ∨ (w = nI 0 ∧ ∃ i, i < ms ∧ ¬ kn N d0 (st i) = true)))) := by
  refine rk_iconst (v := nI 0) rfl (by decide) ?_
  refine rk_istore_n rfl (Nat.le_of_ble_eq_true rfl) rfl ?_
  exact l120 hN W h40 cv hfv hms (ms + 1) 0 (by omega) (Nat.zero_le _) (fun i' y => absurd y (by omega))
/-- those that are open still -/
def OLt (N : Nat → Nat) (d m : Nat) (st ol : Nat → Nat) (oc : Nat) : Prop := (∀ j, j < oc → ∃ i, i < m ∧ ol j = st i ∧ ¬ kn N d (ol j) = true) ∧ (∀ i, i < m → ¬ kn N d (st i) = true → ∃ j, j < oc ∧ ol j = st i) ∧ oc ≤ m
theorem l118t {X : ai_X} {h : ai_H} {N bs st : Nat → Nat} {sc p pv m : Nat} {n2 : Int32} (hN : HN N) (W : CW h N sc n2 p pv m st bs) {d0 lf i s is : Nat} (h40 : d0 + 1 ≤ 40) (his : is < m ∧ s = st is) (hnk : ¬ kn N d0 s = true) {fv : Nat → Int32} (hfv : ∀ x, VS m st x → fv x = val N d0 x ∨ fv x = val N (d0 + 1) x) {P : ai_O → Prop} (z : ∀ g f t, Fr pv (pv + 1) h g → g[pv]? = some (cI 16384 f) → f s = val N (d0 + 1) s → (∀ x, x ≠ s → f x = fv x) → Rk X am_118 41 [some (.ref 24), some (.int (nI (d0 + 1))), some (.int (nI lf)), some (.int (nI i)), some (.int (nI s)), some (.int (nI t))] [] g P) : ∀ (d : Nat) (t : Nat) (g : ai_H) (f : Nat → Int32), N 1 < t + d → (t ≤ N 1) → (Fr pv (pv + 1) h g) → (g[pv]? = some (cI 16384 f)) → (∀ x, x ≠ s → f x = fv x) → ((f s = -1 ∧ ∀ t', t' < t → ¬ ALT N d0 (pimg N s t')) ∨ (f s = nI (d0 + 1) ∧ kn N (d0 + 1) s = true)) → Rk X am_118 15 [some (.ref 24), some (.int (nI (d0 + 1))), some (.int (nI lf)), some (.int (nI i)), some (.int (nI s)), some (.int (nI t))] [] g (P) := by
  intro d
  induction d with
  | zero => intro t g f hd ht Fg cv hx D; exfalso; omega
  | succ d ih =>
    intro t g f hd ht Fg cv hx D
    have hv80 := W.2.2.2.2.2.2.1
    have W2 := W.fr (Fg.mono (by omega) (by omega))
    obtain ⟨C, d24, ⟨f26, c26, hf26⟩, S, I, hp80, hv80, hsep, hSG, U, K⟩ := id W2
    obtain ⟨base, e22⟩ := S.obj
    have e3 := C.1
    have hp14 := hN.p14
    have h6 := hN.t
    have hm := U.m hN
    have hsc := hSG.2.2
    have hss : s < 2 ^ N 0 := by rw [his.2]; exact (U.1 is his.1).2
    have hfv2 : f s = -1 → ∀ x, VS m st x → f x = val N d0 x ∨ f x = val N (d0 + 1) x := fun y x hvx => by
      by_cases q : x = s
      · subst q; exact Or.inl (y.trans ((val_m1 (by omega)).mpr hnk).symm)
      · rw [hx x q]; exact hfv x hvx
    have hPP : t < N 1 → PPt N m st (pimg N s t) := fun y => by rw [his.2]; exact K is t his.1 y
    have hpi : t < N 1 → pimg N s t < 2 ^ N 0 := fun y => pimg_lt hN y
    have F0 : True := trivial
    refine rk_iload rfl rfl ?_
    refine rk_aload_n rfl rfl ?_
    refine rk_get rfl (by assumption) rfl ?_
    refine rk_get rfl (by assumption) rfl ?_
    refine rk_icmp_ge rfl rfl (fun hc19 => ?_) (fun hc19 => ?_)
    · replace hc19 := (nI_leI (by omega) (by omega)).mp hc19
      have hend : f s = val N (d0 + 1) s := by
        rcases D with ⟨y, y2⟩ | ⟨y, yk⟩
        · rw [y]
          refine ((val_m1 h40).mpr (fun q => ?_)).symm
          rcases kn_s.mp q with q1 | ⟨t', q1, q2⟩
          · exact hnk q1
          · exact y2 t' (by omega) q2
        · rw [y, val_new h40 yk hnk]
      exact z g f _ Fg cv hend hx
    · replace hc19 := mt (nI_leI (by omega) (by omega)).mpr hc19
      refine rk_aload_n rfl rfl ?_
      refine rk_get rfl (by assumption) rfl ?_
      refine rk_iload rfl rfl ?_
      refine rk_iald rfl (by assumption) (rfl) (by omega) (by decide) ?_
      
      refine rk_iconst (v := (-1)) rfl (by decide) ?_
      refine rk_icmp_ne rfl rfl (fun hc25 => ?_) (fun hc25 => ?_)
      · have hend : f s = val N (d0 + 1) s := by
          rcases D with ⟨y, -⟩ | ⟨y, yk⟩
          · exact absurd y hc25
          · rw [y, val_new h40 yk hnk]
        exact z g f _ Fg cv hend hx
      · replace hc25 := Decidable.not_not.mp hc25
        have hDn : ∀ t', t' < t → ¬ ALT N d0 (pimg N s t') := by
          rcases D with ⟨-, y⟩ | ⟨y, -⟩
          · exact y
          · rw [y] at hc25; exact absurd hc25 (nm_eq (by omega))
        refine rk_aload_n rfl rfl ?_
        refine rk_aload_n rfl rfl ?_
        refine rk_iload rfl rfl ?_
        refine rk_iload rfl rfl ?_
        refine rk_cv2e rfl rfl (by assumption) rfl rfl (Nat.le_of_ble_eq_true rfl) (Nat.le_of_ble_eq_true rfl) (s105 hN d24 I (show s < 16384 by omega) (by omega)) ?_
        rw [if_neg (by decide)]
        replace hpi := hpi (by omega)
        replace hPP := hPP (by omega)
        refine rk_iload_n rfl rfl ?_
        refine rk_cv2i rfl rfl (by assumption) rfl rfl (Nat.le_of_ble_eq_true rfl) (Nat.le_of_ble_eq_true rfl) (s119 hN W2 h40 cv (hfv2 hc25) hpi hPP) (fun w h1 hF => ?_)
        obtain ⟨rfl, hw⟩ := hF
        refine rk_if_eq rfl rfl (fun hc33 => ?_) (fun hc33 => ?_)
        · have hna : ¬ ALT N d0 (pimg N s t) := by
            rcases hw with ⟨y, -⟩ | ⟨-, y⟩
            · rw [y] at hc33; exact absurd hc33 (by decide)
            · exact y
          refine rk_iinc rfl rfl (n_inc _) rfl ?_
          refine rk_goto rfl rfl ?_
          first
            | (refine ih (t + 1) _ _ (by omega) (by omega) (Fg.tr (Fr.mk1 hk1 hl1 (by omega) (by omega))) cv (fun x hx1 => ?_) (Or.inr ⟨if_pos rfl, hkk⟩)
               simp only [upd]
               rw [if_neg hx1]
               exact hx x hx1)
            | (refine ih (t + 1) _ f (by omega) (by omega) Fg cv hx (Or.inl ⟨hc25, fun t' y => ?_⟩)
               by_cases q : t' = t
               · rw [q]; exact hna
               · exact hDn t' (by omega))
        · have hkk : kn N (d0 + 1) s = true := by
            rcases hw with ⟨-, y⟩ | ⟨y, -⟩
            · exact kn_s.mpr (Or.inr ⟨t, by omega, y⟩)
            · rw [y] at hc33; exact absurd nI_0 hc33
          refine rk_aload_n rfl rfl ?_
          refine rk_get rfl (by assumption) rfl ?_
          refine rk_iload rfl rfl ?_
          refine rk_iload_n rfl rfl ?_
          refine rk_iast rfl cv (rfl) (by omega) (by decide) ?_
          refine hp_gen cv (fun h1 g1 hk1 hl1 => ?_)
          replace d24 := (hk1 _ (by omega)).trans d24
          replace e3 := (hk1 _ (by omega)).trans e3
          replace e22 := (hk1 _ (by omega)).trans e22
          replace F0 := trivial
          replace cv := g1
          refine rk_iinc rfl rfl (n_inc _) rfl ?_
          refine rk_goto rfl rfl ?_
          first
            | (refine ih (t + 1) _ _ (by omega) (by omega) (Fg.tr (Fr.mk1 hk1 hl1 (by omega) (by omega))) cv (fun x hx1 => ?_) (Or.inr ⟨if_pos rfl, hkk⟩)
               simp only [upd]
               rw [if_neg hx1]
               exact hx x hx1)
            | (refine ih (t + 1) _ f (by omega) (by omega) Fg cv hx (Or.inl ⟨hc25, fun t' y => ?_⟩)
               by_cases q : t' = t
               · rw [q]; exact hna
               · exact hDn t' (by omega))
theorem l118 {X : ai_X} {h : ai_H} {N bs st ol : Nat → Nat} {sc p pv m d0 oc : Nat} (hN : HN N) (W : CW h N sc (nI oc) p pv m st bs) (h40 : d0 + 1 ≤ 40) (O : OLt N d0 m st ol oc) : ∀ (d : Nat) (i lf : Nat) (nl : Nat → Nat) (g : ai_H) (fv fo : Nat → Int32) (c4 c5 : Option Value), oc < i + d → (i ≤ oc) → (lf ≤ i) → (Fr pv (pv + 2) h g) → (g[pv]? = some (cI 16384 fv)) → (g[pv + 1]? = some (cI 16384 fo)) → (∀ x, VS m st x → fv x = val N d0 x ∨ fv x = val N (d0 + 1) x) → (∀ j, j < i → fv (ol j) = val N (d0 + 1) (ol j)) → (∀ j, j < lf → fo j = nI (nl j)) → (∀ j, i ≤ j → j < oc → fo j = nI (ol j)) → (∀ j, j < lf → ∃ i', i' < m ∧ nl j = st i' ∧ ¬ kn N (d0 + 1) (nl j) = true) → (∀ j, j < i → ¬ kn N (d0 + 1) (ol j) = true → ∃ j', j' < lf ∧ nl j' = ol j) → (lf = i → ∀ j, j < i → ¬ kn N (d0 + 1) (ol j) = true) → Rk X am_118 4 [some (.ref 24), some (.int (nI (d0 + 1))), some (.int (nI lf)), some (.int (nI i)), c4, c5] [] g (Qi (fun w h1 => h1.length = h.length ∧ (∀ q : Nat, q ≠ 24 → ¬ (pv ≤ q ∧ q < pv + 2) → h1[q]? = h[q]?) ∧ ∃ lf nl fv fo, h1[24]? = some (cSets (nI sc) (nI lf) (.ref pv) (.ref (pv + 1))) ∧ h1[pv]? = some (cI 16384 fv) ∧ h1[pv + 1]? = some (cI 16384 fo) ∧ (∀ s, VS m st s → fv s = val N (d0 + 1) s) ∧ OLt N (d0 + 1) m st nl lf ∧ (∀ j, j < lf → fo j = nI (nl j)) ∧ (w = nI 1 ∨ (w = nI 0 ∧ ∀ i, i < m → kn N (d0 + 1) (st i) = true → kn N d0 (st i) = true)))) := by
  intro d
  induction d with
  | zero => intro i lf nl g fv fo c4 c5 hd hi hlf Fg cv co hfv hdn ho1 ho2 hn1 hn2 hn3; exfalso; omega
  | succ d ih =>
    intro i lf nl g fv fo c4 c5 hd hi hlf Fg cv co hfv hdn ho1 ho2 hn1 hn2 hn3
    have W2 := W.fr Fg
    obtain ⟨C, d24, ⟨f26, c26, hf26⟩, S, I, hp80, hv80, hsep, hSG, U, K⟩ := id W2
    obtain ⟨base, e22⟩ := S.obj
    have e3 := C.1
    have hp14 := hN.p14
    have h6 := hN.t
    have hm := U.m hN
    have hsc := hSG.2.2
    have hoc := O.2.2
    refine rk_iload_n rfl rfl ?_
    refine rk_aload_n rfl rfl ?_
    refine rk_get rfl (by assumption) rfl ?_
    refine rk_icmp_ge rfl rfl (fun hc7 => ?_) (fun hc7 => ?_)
    · replace hc7 := (nI_leI (by omega) (by omega)).mp hc7
      refine rk_iload_n rfl rfl ?_
      refine rk_aload_n rfl rfl ?_
      refine rk_get rfl (by assumption) rfl ?_
      refine rk_icmp_ge rfl rfl (fun hc58 => ?_) (fun hc58 => ?_)
      · replace hc58 := (nI_leI (by omega) (by omega)).mp hc58
        refine rk_iconst (v := nI 0) rfl (by decide) ?_
        refine rk_istore_n rfl (Nat.le_of_ble_eq_true rfl) rfl ?_
        refine rk_aload_n rfl rfl ?_
        refine rk_iload_n rfl rfl ?_
        refine rk_put rfl d24 (Nat.le_of_ble_eq_true rfl) ft_8_5 rfl (Or.inl rfl) rfl ?_
        refine hp_gen d24 (fun h2 g2 hk2 hl2 => ?_)
        have hio : i = oc := by omega
        refine rk_iload_n rfl rfl ?_
        refine rk_ireturn rfl (by decide) ⟨_, _, rfl, hl2.trans Fg.1, fun q a1 a2 => (hk2 q a1).trans (Fg.2 q a2), lf, nl, fv, fo, g2, (hk2 _ (by omega)).trans cv, (hk2 _ (by omega)).trans co, fun x hvx => ?_, ⟨hn1, fun i' hi' y => ?_, by omega⟩, ho1, ?_⟩
        · rcases hvx.2 with q | ⟨i', q1, q2⟩
          · rcases hfv x hvx with w | w
            · rw [w, val_p q, val_p q]
            · exact w
          · by_cases hk : kn N d0 x = true
            · rcases hfv x hvx with w | w
              · rw [w, val_eq hk]
              · exact w
            · rw [← q2] at hk
              obtain ⟨j, j1, j2⟩ := O.2.1 i' q1 hk
              rw [← q2, ← j2]
              exact hdn j (by omega)
        · have hk0 : ¬ kn N d0 (st i') = true := fun q => y (kn_le q (by omega))
          obtain ⟨j, j1, j2⟩ := O.2.1 i' hi' hk0
          rw [← j2] at y
          obtain ⟨j', w1, w2⟩ := hn2 j (by omega) y
          exact ⟨j', w1, by rw [w2, j2]⟩
        · first
            | exact Or.inl rfl
            | (refine Or.inr ⟨rfl, fun i' hi' y => ?_⟩
               apply Decidable.byContradiction
               intro hk0
               obtain ⟨j, j1, j2⟩ := O.2.1 i' hi' hk0
               rw [← j2] at y
               exact hn3 (by omega) j (by omega) y)
      · replace hc58 := mt (nI_leI (by omega) (by omega)).mpr hc58
        refine rk_iconst (v := nI 1) rfl (by decide) ?_
        refine rk_goto rfl rfl ?_
        refine rk_istore_n rfl (Nat.le_of_ble_eq_true rfl) rfl ?_
        refine rk_aload_n rfl rfl ?_
        refine rk_iload_n rfl rfl ?_
        refine rk_put rfl d24 (Nat.le_of_ble_eq_true rfl) ft_8_5 rfl (Or.inl rfl) rfl ?_
        refine hp_gen d24 (fun h2 g2 hk2 hl2 => ?_)
        have hio : i = oc := by omega
        refine rk_iload_n rfl rfl ?_
        refine rk_ireturn rfl (by decide) ⟨_, _, rfl, hl2.trans Fg.1, fun q a1 a2 => (hk2 q a1).trans (Fg.2 q a2), lf, nl, fv, fo, g2, (hk2 _ (by omega)).trans cv, (hk2 _ (by omega)).trans co, fun x hvx => ?_, ⟨hn1, fun i' hi' y => ?_, by omega⟩, ho1, ?_⟩
        · rcases hvx.2 with q | ⟨i', q1, q2⟩
          · rcases hfv x hvx with w | w
            · rw [w, val_p q, val_p q]
            · exact w
          · by_cases hk : kn N d0 x = true
            · rcases hfv x hvx with w | w
              · rw [w, val_eq hk]
              · exact w
            · rw [← q2] at hk
              obtain ⟨j, j1, j2⟩ := O.2.1 i' q1 hk
              rw [← q2, ← j2]
              exact hdn j (by omega)
        · have hk0 : ¬ kn N d0 (st i') = true := fun q => y (kn_le q (by omega))
          obtain ⟨j, j1, j2⟩ := O.2.1 i' hi' hk0
          rw [← j2] at y
          obtain ⟨j', w1, w2⟩ := hn2 j (by omega) y
          exact ⟨j', w1, by rw [w2, j2]⟩
        · first
            | exact Or.inl rfl
            | (refine Or.inr ⟨rfl, fun i' hi' y => ?_⟩
               apply Decidable.byContradiction
               intro hk0
               obtain ⟨j, j1, j2⟩ := O.2.1 i' hi' hk0
               rw [← j2] at y
               exact hn3 (by omega) j (by omega) y)
    · replace hc7 := mt (nI_leI (by omega) (by omega)).mpr hc7
      refine rk_aload_n rfl rfl ?_
      refine rk_get rfl (by assumption) rfl ?_
      refine rk_iload_n rfl rfl ?_
      refine rk_iald rfl (by assumption) (rfl) (by omega) (by decide) ?_
      rw [ho2 i (Nat.le_refl _) (by omega)]
      obtain ⟨is, his1, his2, hnk⟩ := O.1 i (by omega)
      have hol : ol i < 2 ^ N 0 := by rw [his2]; exact (U.1 is his1).2
      refine rk_istore rfl (Nat.le_of_ble_eq_true rfl) rfl ?_
      refine rk_iconst (v := nI 0) rfl (by decide) ?_
      refine rk_istore rfl (Nat.le_of_ble_eq_true rfl) rfl ?_
      refine l118t (h := g) (is := is) (fv := fv) hN W2 h40 ⟨his1, his2⟩ hnk hfv (fun g2 f2 t F2 cv2 hend hx2 => ?_) (N 1 + 1) 0 g fv (by omega) (Nat.zero_le _) Fr.rfl' cv (fun _ _ => rfl) ?_
      · have Fg2 : Fr pv (pv + 2) h g2 := Fg.tr (F2.mono (by omega) (by omega))
        have W3 := W.fr Fg2
        have d24' := W3.2.1
        have co2 := (F2.2 (pv + 1) (by omega)).trans co
        have hfv3 : ∀ x, VS m st x → f2 x = val N d0 x ∨ f2 x = val N (d0 + 1) x := fun x hvx => by
          by_cases q : x = ol i
          · rw [q]; exact Or.inr hend
          · rw [hx2 x q]; exact hfv x hvx
        have hdn3 : ∀ j, j < i + 1 → f2 (ol j) = val N (d0 + 1) (ol j) := fun j hj => by
          by_cases q : ol j = ol i
          · rw [q]; exact hend
          · rw [hx2 _ q]
            by_cases q2 : j = i
            · rw [q2] at q; exact absurd rfl q
            · exact hdn j (by omega)
        clear d24 e22 e3
        have F0 : True := trivial
        refine rk_aload_n rfl rfl ?_
        refine rk_get rfl (by assumption) rfl ?_
        refine rk_iload rfl rfl ?_
        refine rk_iald rfl (by assumption) (rfl) (by omega) (by decide) ?_
        
        refine rk_iconst (v := (-1)) rfl (by decide) ?_
        refine rk_icmp_ne rfl rfl (fun hc46 => ?_) (fun hc46 => ?_)
        · refine rk_iinc rfl rfl (n_inc _) rfl ?_
          refine rk_goto rfl rfl ?_
          first
            | (have hkn : kn N (d0 + 1) (ol i) = true := Decidable.byContradiction (fun y => hc46 (hend.trans ((val_m1 h40).mpr y)))
               refine ih (i + 1) lf nl g2 f2 fo _ _ (by omega) (by omega) (by omega) Fg2 cv2 co2 hfv3 hdn3 ho1 (fun j a1 a2 => ho2 j (by omega) a2) hn1 (fun j hj y => ?_) (fun y => absurd y (by omega))
               by_cases q : j = i
               · rw [q] at y; exact absurd hkn y
               · exact hn2 j (by omega) y)
            | (have hnkn : ¬ kn N (d0 + 1) (ol i) = true := (val_m1 h40).mp (hend.symm.trans hc46)
               refine ih (i + 1) (lf + 1) (un nl lf (ol i)) h1 f2 _ _ _ (by omega) (by omega) (by omega) (Fg2.tr (Fr.mk1 Fk Fl (by omega) (by omega))) cv2 co2 hfv3 hdn3 (fun j hj => ?_) (fun j a1 a2 => ?_) (fun j hj => ?_) (fun j hj y => ?_) (fun y j hj => ?_)
               · simp only [upd, un]
                 by_cases q : j = lf
                 · rw [if_pos q, if_pos q]
                 · rw [if_neg q, if_neg q]; exact ho1 j (by omega)
               · simp only [upd]
                 rw [if_neg (by omega)]
                 exact ho2 j (by omega) a2
               · by_cases q : j = lf
                 · rw [q, un_s]; exact ⟨is, his1, his2, hnkn⟩
                 · rw [un_n q]; exact hn1 j (by omega)
               · by_cases q : j = i
                 · exact ⟨lf, by omega, by rw [un_s, q]⟩
                 · obtain ⟨j', w1, w2⟩ := hn2 j (by omega) y
                   exact ⟨j', by omega, by rw [un_n (by omega)]; exact w2⟩
               · by_cases q : j = i
                 · rw [q]; exact hnkn
                 · exact hn3 (by omega) j (by omega))
        · replace hc46 := Decidable.not_not.mp hc46
          refine rk_aload_n rfl rfl ?_
          refine rk_get rfl (by assumption) rfl ?_
          refine rk_iload_n rfl rfl ?_
          refine rk_iload rfl rfl ?_
          refine rk_iast rfl co2 (rfl) (by omega) (by decide) ?_
          refine hp_gen co2 (fun h1 g1 hk1 hl1 => ?_)
          replace d24' := (hk1 _ (by omega)).trans d24'
          replace cv2 := (hk1 _ (by omega)).trans cv2
          have Fk := hk1
          have Fl := hl1
          replace co2 := g1
          refine rk_iinc rfl rfl (n_inc _) rfl ?_
          refine rk_iinc rfl rfl (n_inc _) rfl ?_
          refine rk_goto rfl rfl ?_
          first
            | (have hkn : kn N (d0 + 1) (ol i) = true := Decidable.byContradiction (fun y => hc46 (hend.trans ((val_m1 h40).mpr y)))
               refine ih (i + 1) lf nl g2 f2 fo _ _ (by omega) (by omega) (by omega) Fg2 cv2 co2 hfv3 hdn3 ho1 (fun j a1 a2 => ho2 j (by omega) a2) hn1 (fun j hj y => ?_) (fun y => absurd y (by omega))
               by_cases q : j = i
               · rw [q] at y; exact absurd hkn y
               · exact hn2 j (by omega) y)
            | (have hnkn : ¬ kn N (d0 + 1) (ol i) = true := (val_m1 h40).mp (hend.symm.trans hc46)
               refine ih (i + 1) (lf + 1) (un nl lf (ol i)) h1 f2 _ _ _ (by omega) (by omega) (by omega) (Fg2.tr (Fr.mk1 Fk Fl (by omega) (by omega))) cv2 co2 hfv3 hdn3 (fun j hj => ?_) (fun j a1 a2 => ?_) (fun j hj => ?_) (fun j hj y => ?_) (fun y j hj => ?_)
               · simp only [upd, un]
                 by_cases q : j = lf
                 · rw [if_pos q, if_pos q]
                 · rw [if_neg q, if_neg q]; exact ho1 j (by omega)
               · simp only [upd]
                 rw [if_neg (by omega)]
                 exact ho2 j (by omega) a2
               · by_cases q : j = lf
                 · rw [q, un_s]; exact ⟨is, his1, his2, hnkn⟩
                 · rw [un_n q]; exact hn1 j (by omega)
               · by_cases q : j = i
                 · exact ⟨lf, by omega, by rw [un_s, q]⟩
                 · obtain ⟨j', w1, w2⟩ := hn2 j (by omega) y
                   exact ⟨j', by omega, by rw [un_n (by omega)]; exact w2⟩
               · by_cases q : j = i
                 · rw [q]; exact hnkn
                 · exact hn3 (by omega) j (by omega))
      · rcases hfv (ol i) ⟨by omega, Or.inr ⟨is, his1, his2.symm⟩⟩ with q | q
        · exact Or.inl ⟨q.trans ((val_m1 (by omega)).mpr hnk), fun t' y => absurd y (by omega)⟩
        · by_cases hk2 : kn N (d0 + 1) (ol i) = true
          · exact Or.inr ⟨q.trans (val_new h40 hk2 hnk), hk2⟩
          · exact Or.inl ⟨q.trans ((val_m1 h40).mpr hk2), fun t' y => absurd y (by omega)⟩
theorem s118 {X : ai_X} {h : ai_H} {N bs st ol : Nat → Nat} {sc p pv m d0 oc : Nat} (hN : HN N) (W : CW h N sc (nI oc) p pv m st bs) (h40 : d0 + 1 ≤ 40) (O : OLt N d0 m st ol oc) {fv fo : Nat → Int32} (cv : h[pv]? = some (cI 16384 fv)) (co : h[pv + 1]? = some (cI 16384 fo)) (hfv : ∀ s, VS m st s → fv s = val N d0 s) (hfo : ∀ j, j < oc → fo j = nI (ol j)) : Mt X am_118 [.ref 24, .int (nI (d0 + 1))] h (Qi (fun w h1 => h1.length = h.length ∧ (∀ q : Nat, q ≠ 24 → ¬ (pv ≤ q ∧ q < pv + 2) → h1[q]? = h[q]?) ∧ ∃ lf nl fv fo, h1[24]? = some (cSets (nI sc) (nI lf) (.ref pv) (.ref (pv + 1))) ∧ h1[pv]? = some (cI 16384 fv) ∧ h1[pv + 1]? = some (cI 16384 fo) ∧ (∀ s, VS m st s → fv s = val N (d0 + 1) s) ∧ OLt N (d0 + 1) m st nl lf ∧ (∀ j, j < lf → fo j = nI (nl j)) ∧ (w = nI 1 ∨ (w = nI 0 ∧ ∀ i, i < m → kn N (d0 + 1) (st i) = true → kn N d0 (st i) = true)))) := by
  refine rk_iconst (v := nI 0) rfl (by decide) ?_
  refine rk_istore_n rfl (Nat.le_of_ble_eq_true rfl) rfl ?_
  refine rk_iconst (v := nI 0) rfl (by decide) ?_
  refine rk_istore_n rfl (Nat.le_of_ble_eq_true rfl) rfl ?_
  exact l118 hN W h40 O (oc + 1) 0 0 (fun _ => 0) h fv fo _ _ (by omega) (Nat.zero_le _) (Nat.le_refl _) Fr.rfl' cv co (fun x y => Or.inl (hfv x y)) (fun j y => absurd y (by omega)) (fun j y => absurd y (by omega)) (fun j _ y => hfo j y) (fun j y => absurd y (by omega)) (fun j y => absurd y (by omega)) (fun _ j y => absurd y (by omega))
