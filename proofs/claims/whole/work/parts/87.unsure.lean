/-! BY TURNS: the class: signs that there are, sets in which one is unsure -/
def SG (N bs : Nat → Nat) (sc m : Nat) : Prop := (∀ i, i < sc → ∃ g, g < m ∧ bs i = sgn N g) ∧ (∀ g, g < m → sgn N g = 0 ∨ ∃ i, i < sc ∧ bs i = sgn N g) ∧ sc ≤ m
def BSg (h : ai_H) (bs : Nat → Nat) (sc : Nat) : Prop := ∃ f, h[26]? = some (cI 10 f) ∧ ∀ i, i < sc → f i = nI (bs i)
theorem sgn_14 {N : Nat → Nat} {g : Nat} (hN : HN N) : sgn N g < 16384 := bsel_14 hN (Nat.le_refl _)
theorem l116r {X : ai_X} {h : ai_H} {N : Nat → Nat} {n2 : Int32} {xa xb : Value} (hN : HN N) (C : CH h 3 N) {g sc : Nat} (d24 : h[24]? = some (cSets (nI sc) n2 xa xb)) (hg : g < 10) {P : ai_O → Prop} (z : Rk X am_116 33 [some (.ref 24), some (.int (nI g)), some (.int (nI (sgn N g))), some (.int (nI (N 0)))] [] h P) : ∀ (d : Nat) (r : Nat), N 0 < r + d → (r ≤ N 0) → Rk X am_116 12 [some (.ref 24), some (.int (nI g)), some (.int (nI (bsel (fun b => decide (sg N b = g)) r))), some (.int (nI r))] [] h (P) := by
  intro d
  induction d with
  | zero => intro r hd hr; exfalso; omega
  | succ d ih =>
    intro r hd hr
    have e3 := C.1
    have hn := hN.n
    have hsg : r < N 0 → sg N r < 10 := fun y => hN.xsg (by omega)
    refine rk_iload_n rfl rfl ?_
    refine rk_aload_n rfl rfl ?_
    refine rk_get rfl (by assumption) rfl ?_
    refine rk_get rfl (by assumption) rfl ?_
    refine rk_icmp_ge rfl rfl (fun hc16 => ?_) (fun hc16 => ?_)
    · replace hc16 := (nI_leI (by omega) (by omega)).mp hc16
      have hr2 : r = N 0 := by omega
      subst hr2
      exact z
    · replace hc16 := mt (nI_leI (by omega) (by omega)).mpr hc16
      refine rk_iload_n rfl rfl ?_
      refine rk_aload_n rfl rfl ?_
      refine rk_get rfl (by assumption) rfl ?_
      refine rk_iload_n rfl rfl ?_
      refine rk_cv1e rfl rfl (by assumption) rfl rfl (Nat.le_of_ble_eq_true rfl) (Nat.le_of_ble_eq_true rfl) (s30N C (by omega)) ?_
      replace hsg := hsg (by omega)
      refine rk_iload_n rfl rfl ?_
      refine rk_icmp_ne rfl rfl (fun hc23 => ?_) (fun hc23 => ?_)
      · replace hc23 := mt (nI_eq (by omega) (by omega)).mpr hc23
        refine rk_iconst (v := nI 0) rfl (by decide) ?_
        refine rk_ior rfl (b_orU _ _) ?_
        refine rk_istore_n rfl (Nat.le_of_ble_eq_true rfl) rfl ?_
        refine rk_iinc rfl rfl (n_inc _) rfl ?_
        refine rk_goto rfl rfl ?_
        first
          | (have hb : (bsel (fun b => decide (sg N b = g)) (r + 1)) = (bsel (fun b => decide (sg N b = g)) r) ||| 2 ^ r := by rw [bsel, if_pos (decide_eq_true hc23)]
             have zz := ih (r + 1) (by omega) (by omega)
             rw [hb] at zz
             exact zz)
          | (have hb : (bsel (fun b => decide (sg N b = g)) (r + 1)) = (bsel (fun b => decide (sg N b = g)) r) := by rw [bsel, if_neg (fun y => hc23 (of_decide_eq_true y))]
             have zz := ih (r + 1) (by omega) (by omega)
             rw [hb] at zz
             rw [Nat.or_zero]
             exact zz)
      · replace hc23 := Decidable.not_not.mp hc23
        replace hc23 := (nI_eq (by omega) (by omega)).mp hc23
        refine rk_iconst (v := nI 1) rfl (by decide) ?_
        refine rk_iload_n rfl rfl ?_
        refine rk_ishl rfl (b_1shlU (by omega)) ?_
        refine rk_goto rfl rfl ?_
        refine rk_ior rfl (b_orU _ _) ?_
        refine rk_istore_n rfl (Nat.le_of_ble_eq_true rfl) rfl ?_
        refine rk_iinc rfl rfl (n_inc _) rfl ?_
        refine rk_goto rfl rfl ?_
        first
          | (have hb : (bsel (fun b => decide (sg N b = g)) (r + 1)) = (bsel (fun b => decide (sg N b = g)) r) ||| 2 ^ r := by rw [bsel, if_pos (decide_eq_true hc23)]
             have zz := ih (r + 1) (by omega) (by omega)
             rw [hb] at zz
             exact zz)
          | (have hb : (bsel (fun b => decide (sg N b = g)) (r + 1)) = (bsel (fun b => decide (sg N b = g)) r) := by rw [bsel, if_neg (fun y => hc23 (of_decide_eq_true y))]
             have zz := ih (r + 1) (by omega) (by omega)
             rw [hb] at zz
             rw [Nat.or_zero]
             exact zz)
theorem l116 {X : ai_X} {h : ai_H} {N : Nat → Nat} {n2 : Int32} {xa xb : Value} (hN : HN N) (C : CH h 3 N) : ∀ (d : Nat) (s sc : Nat) (bs : Nat → Nat) (f : Nat → Int32) (g : ai_H) (c2 c3 : Option Value), 10 < s + d → (s ≤ 10) → ((g.length = h.length ∧ ∀ q : Nat, q ≠ 24 → q ≠ 26 → g[q]? = h[q]?)) → (g[24]? = some (cSets (nI sc) n2 xa xb)) → (g[26]? = some (cI 10 f)) → (∀ i, i < sc → f i = nI (bs i)) → (SG N bs sc s) → Rk X am_116 5 [some (.ref 24), some (.int (nI s)), c2, c3] [] g (Qv (fun h1 => h1.length = h.length ∧ (∀ q : Nat, q ≠ 24 → q ≠ 26 → h1[q]? = h[q]?) ∧ ∃ sc bs, h1[24]? = some (cSets (nI sc) n2 xa xb) ∧ BSg h1 bs sc ∧ SG N bs sc 10)) := by
  intro d
  induction d with
  | zero => intro s sc bs f g c2 c3 hd hs F d24 c26 hf H; exfalso; omega
  | succ d ih =>
    intro s sc bs f g c2 c3 hd hs F d24 c26 hf H
    have C2 : CH g 3 N := C.fr (fun q _ _ => F.2 q (by omega) (by omega))
    have e3 := C2.1
    have hsc := H.2.2
    refine rk_iload_n rfl rfl ?_
    refine rk_bipush (v := nI 10) rfl (by decide) ?_
    refine rk_icmp_ge rfl rfl (fun hc7 => ?_) (fun hc7 => ?_)
    · replace hc7 := (nI_leI (by omega) (by omega)).mp hc7
      have hs2 : s = 10 := by omega
      subst hs2
      exact rk_return rfl rfl ⟨_, rfl, F.1, F.2, sc, bs, d24, ⟨f, c26, hf⟩, H⟩
    · replace hc7 := mt (nI_leI (by omega) (by omega)).mpr hc7
      refine rk_iconst (v := nI 0) rfl (by decide) ?_
      refine rk_istore_n rfl (Nat.le_of_ble_eq_true rfl) rfl ?_
      refine rk_iconst (v := nI 0) rfl (by decide) ?_
      refine rk_istore_n rfl (Nat.le_of_ble_eq_true rfl) rfl ?_
      refine l116r (h := g) hN C2 d24 (g := s) (by omega) ?_ (N 0 + 1) 0 (by omega) (Nat.zero_le _)
      have h14 := sgn_14 (g := s) hN
      refine rk_iload_n rfl rfl ?_
      refine rk_if_eq rfl rfl (fun hc => ?_) (fun hc => ?_)
      · replace hc := (n0_eq (by omega)).mp hc
        refine rk_iinc rfl rfl (n_inc _) rfl ?_
        refine rk_goto rfl rfl ?_
        refine ih (s + 1) sc bs f g _ _ (by omega) (by omega) F d24 c26 hf ⟨fun i hi => ?_, fun g' hg' => ?_, by omega⟩
        · obtain ⟨g', y1, y2⟩ := H.1 i hi
          exact ⟨g', by omega, y2⟩
        · by_cases q : g' = s
          · subst q; exact Or.inl hc
          · exact H.2.1 g' (by omega)
      · replace hc := mt (n0_eq (by omega)).mpr hc
        have F0 : True := trivial
        refine rk_aload_n rfl rfl ?_
        refine rk_get rfl (by assumption) rfl ?_
        refine rk_aload_n rfl rfl ?_
        refine rk_get rfl (by assumption) rfl ?_
        refine rk_iload_n rfl rfl ?_
        refine rk_iast rfl c26 (rfl) (by omega) (by decide) ?_
        refine hp_gen c26 (fun h1 g1 hk1 hl1 => ?_)
        replace d24 := (hk1 _ (by omega)).trans d24
        have Fk := hk1
        have Fl := hl1
        replace c26 := g1
        refine rk_aload_n rfl rfl ?_
        refine rk_dup_a rfl ?_
        refine rk_get rfl (by assumption) rfl ?_
        refine rk_iconst (v := nI 1) rfl (by decide) ?_
        refine rk_iadd rfl (nI_add _ _) ?_
        refine rk_put rfl d24 (Nat.le_of_ble_eq_true rfl) ft_8_4 rfl (Or.inl rfl) rfl ?_
        refine hp_gen d24 (fun h2 g2 hk2 hl2 => ?_)
        refine rk_iinc rfl rfl (n_inc _) rfl ?_
        refine rk_goto rfl rfl ?_
        refine ih (s + 1) (sc + 1) (un bs sc (sgn N s)) _ h2 _ _ (by omega) (by omega) ⟨hl2.trans (Fl.trans F.1), fun q a1 a2 => (hk2 q a1).trans ((Fk q a2).trans (F.2 q a1 a2))⟩ g2 ((hk2 26 (by omega)).trans c26) (fun i hi => ?_) ⟨fun i hi => ?_, fun g' hg' => ?_, by omega⟩
        · simp only [upd, un]
          by_cases q : i = sc
          · rw [if_pos q, if_pos q]
          · rw [if_neg q, if_neg q]; exact hf i (by omega)
        · by_cases q : i = sc
          · exact ⟨s, by omega, by rw [q, un_s]⟩
          · obtain ⟨g', y1, y2⟩ := H.1 i (by omega)
            exact ⟨g', by omega, by rw [un_n q]; exact y2⟩
        · by_cases q : g' = s
          · exact Or.inr ⟨sc, by omega, by rw [un_s, q]⟩
          · rcases H.2.1 g' (by omega) with y | ⟨i, y1, y2⟩
            · exact Or.inl y
            · exact Or.inr ⟨i, by omega, by rw [un_n (by omega)]; exact y2⟩
theorem s116 {X : ai_X} {h : ai_H} {N : Nat → Nat} {n2 : Int32} {xa xb : Value} (hN : HN N) (C : CH h 3 N) {n1 : Int32} (d24 : h[24]? = some (cSets n1 n2 xa xb)) (S26 : ShI h 26 10) : Mt X am_116 [.ref 24] h (Qv (fun h1 => h1.length = h.length ∧ (∀ q : Nat, q ≠ 24 → q ≠ 26 → h1[q]? = h[q]?) ∧ ∃ sc bs, h1[24]? = some (cSets (nI sc) n2 xa xb) ∧ BSg h1 bs sc ∧ SG N bs sc 10)) := by
  obtain ⟨f, c26⟩ := S26
  refine rk_aload_n rfl rfl ?_
  refine rk_iconst (v := nI 0) rfl (by decide) ?_
  refine rk_put rfl d24 (Nat.le_of_ble_eq_true rfl) ft_8_4 rfl (Or.inl rfl) rfl ?_
  refine hp_gen d24 (fun h2 g2 hk2 hl2 => ?_)
  refine rk_iconst (v := nI 0) rfl (by decide) ?_
  refine rk_istore_n rfl (Nat.le_of_ble_eq_true rfl) rfl ?_
  exact l116 (h := h) hN C 11 0 0 (fun _ => 0) f h2 _ _ (by omega) (by omega) ⟨hl2, fun q a1 _ => hk2 q a1⟩ g2 ((hk2 26 (by omega)).trans c26) (fun i hi => absurd hi (by omega)) ⟨fun i hi => absurd hi (by omega), fun g hg => absurd hg (by omega), by omega⟩
/-- a search of sets in which one is unsure -/
def SU (h : ai_H) (p m : Nat) (st : Nat → Nat) : Prop := ∃ base sl s1 s2 T, SX h 22 p 16384 16384 base m sl s1 s2 st T
def US (N : Nat → Nat) (m : Nat) (st : Nat → Nat) : Prop := (∀ i, i < m → 1 < pop (st i) 14 ∧ st i < 2 ^ N 0) ∧ ∀ i j, i < m → j < m → st i = st j → i = j
theorem US.m {N : Nat → Nat} {m : Nat} {st : Nat → Nat} (hN : HN N) (H : US N m st) : m < 16384 := by
  have hp := hN.p14
  have hpos : ∀ i, i < m → 0 < st i := fun i hi => by
    apply Decidable.byContradiction
    intro y
    have h1 := (H.1 i hi).1
    rw [show st i = 0 by omega, pop_z0] at h1
    omega
  have := php 16383 m (fun i => st i - 1) (fun i hi => by have := (H.1 i hi).2; have := hpos i hi; show st i - 1 < 16383; omega) (fun i j hi hj hij => H.2 i j hi hj (by have := hpos i hi; have := hpos j hj; have hij' : st i - 1 = st j - 1 := hij; omega))
  omega
def PPt (N : Nat → Nat) (m : Nat) (st : Nat → Nat) (x : Nat) : Prop := ∀ g, g < 10 → pop (x &&& sgn N g) 14 ≤ 1 ∨ ∃ i, i < m ∧ st i = x &&& sgn N g
theorem PPt.up {N : Nat → Nat} {m m1 x : Nat} {st st1 : Nat → Nat} (hm : m ≤ m1) (e : ∀ i, i < m → st1 i = st i) (H : PPt N m st x) : PPt N m1 st1 x := fun g hg => by
  rcases H g hg with y | ⟨i, y1, y2⟩
  · exact Or.inl y
  · exact Or.inr ⟨i, by omega, by rw [e i y1]; exact y2⟩
theorem SU.fr {h h1 : ai_H} {p m : Nat} {st : Nat → Nat} (h0 : h1[22]? = h[22]?) (hk : ∀ q : Nat, p ≤ q → q < p + 3 → h1[q]? = h[q]?) (S : SU h p m st) : SU h1 p m st := by
  obtain ⟨base, sl, s1, s2, T, a⟩ := S
  exact ⟨base, sl, s1, s2, T, a.fr h0 hk⟩
theorem SU.obj {h : ai_H} {p m : Nat} {st : Nat → Nat} (S : SU h p m st) : ∃ base, h[22]? = some (cSrch (nI 16384) (nI (16384 - 1)) (.ref p) (.ref (p + 1)) (.ref (p + 2)) (nI base) (nI m)) := by
  obtain ⟨base, sl, s1, s2, T, a⟩ := S
  exact ⟨base, a.1⟩
theorem s97U {X : ai_X} {h : ai_H} {p m : Nat} {st : Nat → Nat} (S : SU h p m st) : Mt X am_97 [.ref 22] h (Qe (nI m) h) := by
  obtain ⟨base, sl, s1, s2, T, a⟩ := S
  exact s97 a
theorem s98U {X : ai_X} {h : ai_H} {p m i : Nat} {st : Nat → Nat} (S : SU h p m st) (hi : i < m) : Mt X am_98 [.ref 22, .int (nI i)] h (Qe (nI (st i)) h) := by
  obtain ⟨base, sl, s1, s2, T, a⟩ := S
  exact s98 a hi
theorem s101U {X : ai_X} {h : ai_H} {p m x : Nat} {st : Nat → Nat} {par tn : Int32} (S : SU h p m st) (hx : x < 2 ^ 31) (hm : m < 16384) (hpar : par = -1 ∨ ∃ k t, k < 65536 ∧ par = nI k ∧ tn = nI t) : Mt X am_101 [.ref 22, .int (nI x), .int par, .int tn] h (Qi (fun _ h1 => (mem st x m = true ∧ h1 = h) ∨ (¬ mem st x m = true ∧ FrS 22 p h h1 ∧ SU h1 p (m + 1) (un st m x)))) := by
  obtain ⟨base, sl, s1, s2, T, a⟩ := S
  rcases hpar with rfl | ⟨k, t, hk, rfl, rfl⟩
  · refine (s101r (w := tn) a hx hm hm).mono ?_
    rintro o ⟨w, h1, rfl, ⟨m1, -, rfl⟩ | ⟨m1, -, F, sl1, T1, a1⟩⟩
    · exact ⟨_, _, rfl, Or.inl ⟨m1, rfl⟩⟩
    · exact ⟨_, _, rfl, Or.inr ⟨m1, F, _, _, _, _, _, a1⟩⟩
  · refine (s101 (t := t) a hx hm hm hk).mono ?_
    rintro o ⟨w, h1, rfl, ⟨m1, -, rfl⟩ | ⟨m1, -, F, sl1, T1, a1⟩⟩
    · exact ⟨_, _, rfl, Or.inl ⟨m1, rfl⟩⟩
    · exact ⟨_, _, rfl, Or.inr ⟨m1, F, _, _, _, _, _, a1⟩⟩
/-- the sets so far, beside those at first -/
def EXT (N : Nat → Nat) (x m0 m : Nat) (st0 st : Nat → Nat) : Prop := m0 ≤ m ∧ (∀ i, i < m0 → st i = st0 i) ∧ ∀ i, m0 ≤ i → i < m → ∃ g, g < 10 ∧ st i = x &&& sgn N g
theorem l117 {X : ai_X} {h : ai_H} {N bs : Nat → Nat} {sc p x m0 : Nat} {st0 : Nat → Nat} {n2 par tn : Int32} {xa xb : Value} (hN : HN N) (d24 : h[24]? = some (cSets (nI sc) n2 xa xb)) (B : BSg h bs sc) (hSG : SG N bs sc 10) (hp80 : 80 ≤ p) (hx : x < 2 ^ N 0) (hpar : par = -1 ∨ ∃ k t, k < 65536 ∧ par = nI k ∧ tn = nI t) : ∀ (d : Nat) (i m : Nat) (st : Nat → Nat) (g : ai_H) (c5 : Option Value), sc < i + d → (i ≤ sc) → (FrS 22 p h g) → (SU g p m st) → (US N m st) → (EXT N x m0 m st0 st) → (∀ i', i' < i → pop (x &&& bs i') 14 ≤ 1 ∨ ∃ j, j < m ∧ st j = x &&& bs i') → Rk X am_117 2 [some (.ref 24), some (.int (nI x)), some (.int par), some (.int tn), some (.int (nI i)), c5] [] g (Qv (fun h1 => FrS 22 p h h1 ∧ ∃ m st, SU h1 p m st ∧ US N m st ∧ EXT N x m0 m st0 st ∧ PPt N m st x)) := by
  intro d
  induction d with
  | zero => intro i m st g c5 hd hi F S U E D; exfalso; omega
  | succ d ih =>
    intro i m st g c5 hd hi F S U E D
    have e24 := (F.2 24 (by omega) (by omega)).trans d24
    obtain ⟨f26, c26, hf26⟩ := id B
    have e26 := (F.2 26 (by omega) (by omega)).trans c26
    obtain ⟨base, e22⟩ := S.obj
    have hp14 := hN.p14
    have hm := U.m hN
    have hsc := hSG.2.2
    have hpt : x &&& bs i < 2 ^ N 0 := sub.lt (fun k hk => (bt_and.mp hk).1) hx
    have hpop := pop_le (x &&& bs i) 14
    refine rk_iload rfl rfl ?_
    refine rk_aload_n rfl rfl ?_
    refine rk_get rfl (by assumption) rfl ?_
    refine rk_icmp_ge rfl rfl (fun hc5 => ?_) (fun hc5 => ?_)
    · replace hc5 := (nI_leI (by omega) (by omega)).mp hc5
      refine rk_return rfl rfl ⟨_, rfl, F, m, st, S, U, E, fun g' hg' => ?_⟩
      rcases hSG.2.1 g' hg' with y | ⟨j, y1, y2⟩
      · rw [y, Nat.and_zero, pop_z0]; exact Or.inl (by omega)
      · rw [← y2]; exact D j (by omega)
    · replace hc5 := mt (nI_leI (by omega) (by omega)).mpr hc5
      refine rk_iload_n rfl rfl ?_
      refine rk_aload_n rfl rfl ?_
      refine rk_get rfl (by assumption) rfl ?_
      refine rk_iload rfl rfl ?_
      refine rk_iald rfl (by assumption) (rfl) (by omega) (by decide) ?_
      rw [hf26 i (by omega)]
      refine rk_iand rfl (b_andU _ _) ?_
      refine rk_istore rfl (Nat.le_of_ble_eq_true rfl) rfl ?_
      refine rk_iload rfl rfl ?_
      refine rk_cs1e rfl rfl rfl (Nat.le_of_ble_eq_true rfl) (Nat.le_of_ble_eq_true rfl) (s290 (by omega)) ?_
      refine rk_iconst (v := nI 1) rfl (by decide) ?_
      refine rk_icmp_le rfl rfl (fun hc16 => ?_) (fun hc16 => ?_)
      · replace hc16 := (nI_leI (by omega) (by omega)).mp hc16
        refine rk_iinc rfl rfl (n_inc _) rfl ?_
        refine rk_goto rfl rfl ?_
        first
          | (refine ih (i + 1) m st g _ (by omega) (by omega) F S U E (fun i' y => ?_)
             by_cases q : i' = i
             · subst q; exact Or.inl hc16
             · exact D i' (by omega))
          | exact hgo
      · replace hc16 := mt (nI_leI (by omega) (by omega)).mpr hc16
        refine rk_aload_n rfl rfl ?_
        refine rk_get rfl (by assumption) rfl ?_
        refine rk_iload rfl rfl ?_
        refine rk_iload_n rfl rfl ?_
        refine rk_iload_n rfl rfl ?_
        refine rk_cv3i rfl rfl (by assumption) rfl rfl (Nat.le_of_ble_eq_true rfl) (Nat.le_of_ble_eq_true rfl) (s101U S (x := x &&& bs i) (by omega) hm hpar) (fun w h1 hF => ?_)
        obtain ⟨gi, hgi, hbi⟩ := hSG.1 i (by omega)
        have hgo : Rk X am_117 2 [some (.ref 24), some (.int (nI x)), some (.int par), some (.int tn), some (.int (nI (i + 1))), some (.int (nI (x &&& bs i)))] [] h1 (Qv (fun h1 => FrS 22 p h h1 ∧ ∃ m st, SU h1 p m st ∧ US N m st ∧ EXT N x m0 m st0 st ∧ PPt N m st x)) := by
          rcases hF with ⟨y1, rfl⟩ | ⟨y1, y2, y3⟩
          · refine ih (i + 1) m st _ _ (by omega) (by omega) F S U E (fun i' y => ?_)
            by_cases q : i' = i
            · subst q
              obtain ⟨j, j1, j2⟩ := (mem_iff m).mp y1
              exact Or.inr ⟨j, j1, j2⟩
            · exact D i' (by omega)
          · refine ih (i + 1) (m + 1) (un st m (x &&& bs i)) h1 _ (by omega) (by omega) (F.tr y2) y3 ⟨fun j hj => ?_, fun j1 j2 a1 a2 a3 => ?_⟩ ⟨by have := E.1; omega, fun j hj => ?_, fun j a1 a2 => ?_⟩ (fun i' y => ?_)
            · by_cases q : j = m
              · rw [q, un_s]; exact ⟨by omega, hpt⟩
              · rw [un_n q]; exact U.1 j (by omega)
            · have hno : ∀ j, j < m → ¬ st j = x &&& bs i := fun j hj z => y1 ((mem_iff m).mpr ⟨j, hj, z⟩)
              by_cases q1 : j1 = m
              · by_cases q2 : j2 = m
                · omega
                · rw [q1, un_s, un_n q2] at a3
                  exact absurd a3.symm (hno j2 (by omega))
              · by_cases q2 : j2 = m
                · rw [q2, un_s, un_n q1] at a3
                  exact absurd a3 (hno j1 (by omega))
                · rw [un_n q1, un_n q2] at a3
                  exact U.2 j1 j2 (by omega) (by omega) a3
            · rw [un_n (by have := E.1; omega)]; exact E.2.1 j hj
            · by_cases q : j = m
              · rw [q, un_s]; exact ⟨gi, hgi, by rw [hbi]⟩
              · rw [un_n q]; exact E.2.2 j a1 (by omega)
            · by_cases q : i' = i
              · subst q
                exact Or.inr ⟨m, by omega, un_s _ _ _⟩
              · rcases D i' (by omega) with w | ⟨j, w1, w2⟩
                · exact Or.inl w
                · exact Or.inr ⟨j, by omega, by rw [un_n (by omega)]; exact w2⟩
        refine rk_pop rfl ?_
        refine rk_iinc rfl rfl (n_inc _) rfl ?_
        refine rk_goto rfl rfl ?_
        first
          | (refine ih (i + 1) m st g _ (by omega) (by omega) F S U E (fun i' y => ?_)
             by_cases q : i' = i
             · subst q; exact Or.inl hc16
             · exact D i' (by omega))
          | exact hgo
theorem s117 {X : ai_X} {h : ai_H} {N bs : Nat → Nat} {sc p x m0 : Nat} {st0 : Nat → Nat} {n2 par tn : Int32} {xa xb : Value} (hN : HN N) (d24 : h[24]? = some (cSets (nI sc) n2 xa xb)) (B : BSg h bs sc) (hSG : SG N bs sc 10) (hp80 : 80 ≤ p) (hx : x < 2 ^ N 0) (hpar : par = -1 ∨ ∃ k t, k < 65536 ∧ par = nI k ∧ tn = nI t) (S : SU h p m0 st0) (U : US N m0 st0) : Mt X am_117 [.ref 24, .int (nI x), .int par, .int tn] h (Qv (fun h1 => FrS 22 p h h1 ∧ ∃ m st, SU h1 p m st ∧ US N m st ∧ EXT N x m0 m st0 st ∧ PPt N m st x)) := by
  refine rk_iconst (v := nI 0) rfl (by decide) ?_
  refine rk_istore rfl (Nat.le_of_ble_eq_true rfl) rfl ?_
  exact l117 hN d24 B hSG hp80 hx hpar (sc + 1) 0 m0 st0 h _ (by omega) (Nat.zero_le _) FrS.rfl' S U ⟨Nat.le_refl _, fun _ _ => rfl, fun i a b => absurd b (by omega)⟩ (fun i' y => absurd y (by omega))
/-- all that come about behind the heads so far -/
def CLO (N : Nat → Nat) (hd m : Nat) (st : Nat → Nat) : Prop := ∀ i t, i < hd → t < N 1 → PPt N m st (pimg N (st i) t)
theorem CLO.up {N : Nat → Nat} {hd m m1 : Nat} {st st1 : Nat → Nat} (hh : hd ≤ m) (hm : m ≤ m1) (e : ∀ i, i < m → st1 i = st i) (H : CLO N hd m st) : CLO N hd m1 st1 := fun i t hi ht => by
  rw [e i (by omega)]
  exact (H i t hi ht).up hm e
theorem l114t {X : ai_X} {h : ai_H} {N bs : Nat → Nat} {sc p ms S : Nat} {sts : Nat → Nat} {n2 : Int32} {xa xb : Value} (hN : HN N) (C : CH h 3 N) (d24 : h[24]? = some (cSets (nI sc) n2 xa xb)) (B : BSg h bs sc) (hSG : SG N bs sc 10) (hp80 : 80 ≤ p) (I : IM h (tf N false) (N 1)) {k : Nat} {P : ai_O → Prop} (z : ∀ g m st c4, FrS 22 p h g → SU g p m st → US N m st → (ms ≤ m ∧ ∀ i, i < ms → st i = sts i) → k < m → CLO N (k + 1) m st → Rk X am_114 47 [some (.ref 24), some (.int (nI S)), some (.int (nI ms)), some (.int (nI k)), c4] [] g P) : ∀ (d : Nat) (t m : Nat) (st : Nat → Nat) (g : ai_H), N 1 < t + d → (t ≤ N 1) → (FrS 22 p h g) → (SU g p m st) → (US N m st) → (ms ≤ m ∧ ∀ i, i < ms → st i = sts i) → (k < m) → (CLO N k m st) → (∀ t', t' < t → PPt N m st (pimg N (st k) t')) → Rk X am_114 29 [some (.ref 24), some (.int (nI S)), some (.int (nI ms)), some (.int (nI k)), some (.int (nI t))] [] g (P) := by
  intro d
  induction d with
  | zero => intro t m st g hd ht F S0 U E hk K D; exfalso; omega
  | succ d ih =>
    intro t m st g hd ht F S0 U E hk K D
    have C2 : CH g 3 N := C.fr (fun q _ _ => F.2 q (by omega) (by omega))
    have e3 := C2.1
    have e24 := (F.2 24 (by omega) (by omega)).trans d24
    have B2 : BSg g bs sc := by
      obtain ⟨f26, c26, hf26⟩ := B
      exact ⟨f26, (F.2 26 (by omega) (by omega)).trans c26, hf26⟩
    have I2 : IM g (tf N false) (N 1) := I.fr (F.2 25 (by omega) (by omega))
    obtain ⟨base, e22⟩ := S0.obj
    have hp14 := hN.p14
    have h6 := hN.t
    have hm := U.m hN
    have hsk := (U.1 k hk).2
    refine rk_iload rfl rfl ?_
    refine rk_aload_n rfl rfl ?_
    refine rk_get rfl (by assumption) rfl ?_
    refine rk_get rfl (by assumption) rfl ?_
    refine rk_icmp_ge rfl rfl (fun hc33 => ?_) (fun hc33 => ?_)
    · replace hc33 := (nI_leI (by omega) (by omega)).mp hc33
      have ht2 : t = N 1 := by omega
      subst ht2
      refine z g m st _ F S0 U E hk (fun i t' hi ht' => ?_)
      by_cases q : i = k
      · rw [q]; exact D t' ht'
      · exact K i t' (by omega) ht'
    · replace hc33 := mt (nI_leI (by omega) (by omega)).mpr hc33
      refine rk_aload_n rfl rfl ?_
      refine rk_aload_n rfl rfl ?_
      refine rk_aload_n rfl rfl ?_
      refine rk_get rfl (by assumption) rfl ?_
      refine rk_iload_n rfl rfl ?_
      refine rk_cv1e rfl rfl (by assumption) rfl rfl (Nat.le_of_ble_eq_true rfl) (Nat.le_of_ble_eq_true rfl) (s98U S0 hk) ?_
      refine rk_iload rfl rfl ?_
      refine rk_cv2e rfl rfl (by assumption) rfl rfl (Nat.le_of_ble_eq_true rfl) (Nat.le_of_ble_eq_true rfl) (s105 hN e24 I2 (show st k < 16384 by omega) (by omega)) ?_
      rw [if_neg (by decide)]
      have him := pimg_lt (s := st k) (t := t) hN (by omega)
      refine rk_iload_n rfl rfl ?_
      refine rk_iload rfl rfl ?_
      refine rk_cv3v rfl rfl (by assumption) rfl rfl (Nat.le_of_ble_eq_true rfl) (Nat.le_of_ble_eq_true rfl) (s117 (par := nI k) (tn := nI t) hN e24 B2 hSG hp80 him (Or.inr ⟨k, t, by omega, rfl, rfl⟩) S0 U) (fun h1 hF => ?_)
      obtain ⟨F2, m2, st2, S2, U2, E2, P2⟩ := hF
      refine rk_iinc rfl rfl (n_inc _) rfl ?_
      refine rk_goto rfl rfl ?_
      refine ih (t + 1) m2 st2 _ (by omega) (by omega) (F.tr F2) S2 U2 ⟨by have := E.1; have := E2.1; omega, fun i hi => (E2.2.1 i (by have := E.1; omega)).trans (E.2 i hi)⟩ (by have := E2.1; omega) (K.up (by omega) E2.1 E2.2.1) (fun t' y => ?_)
      rw [E2.2.1 k hk]
      by_cases q : t' = t
      · rw [q]; exact P2
      · exact (D t' (by omega)).up E2.1 E2.2.1
theorem l114h {X : ai_X} {h : ai_H} {N bs : Nat → Nat} {sc p ms S : Nat} {sts : Nat → Nat} {n2 : Int32} {xa xb : Value} (hN : HN N) (C : CH h 3 N) (d24 : h[24]? = some (cSets (nI sc) n2 xa xb)) (B : BSg h bs sc) (hSG : SG N bs sc 10) (hp80 : 80 ≤ p) (I : IM h (tf N false) (N 1)) {P : ai_O → Prop} (z : ∀ g m st c3 c4, FrS 22 p h g → SU g p m st → US N m st → (ms ≤ m ∧ ∀ i, i < ms → st i = sts i) → CLO N m m st → Rk X am_114 49 [some (.ref 24), some (.int (nI S)), some (.int (nI ms)), c3, c4] [] g P) : ∀ (d : Nat) (k m : Nat) (st : Nat → Nat) (g : ai_H) (c4 : Option Value), 16384 < k + d → (FrS 22 p h g) → (SU g p m st) → (US N m st) → (ms ≤ m ∧ ∀ i, i < ms → st i = sts i) → (k ≤ m) → (CLO N k m st) → (k < 16384) → Rk X am_114 19 [some (.ref 24), some (.int (nI S)), some (.int (nI ms)), some (.int (nI k)), c4] [] g (P) := by
  intro d
  induction d with
  | zero => intro k m st g c4 hd F S0 U E hk K hkb; exfalso; omega
  | succ d ih =>
    intro k m st g c4 hd F S0 U E hk K hkb
    have C2 : CH g 3 N := C.fr (fun q _ _ => F.2 q (by omega) (by omega))
    have e3 := C2.1
    have e24 := (F.2 24 (by omega) (by omega)).trans d24
    have B2 : BSg g bs sc := by
      obtain ⟨f26, c26, hf26⟩ := B
      exact ⟨f26, (F.2 26 (by omega) (by omega)).trans c26, hf26⟩
    have I2 : IM g (tf N false) (N 1) := I.fr (F.2 25 (by omega) (by omega))
    obtain ⟨base, e22⟩ := S0.obj
    have hp14 := hN.p14
    have h6 := hN.t
    have hm := U.m hN
    refine rk_iload_n rfl rfl ?_
    refine rk_sipush (v := nI 16384) rfl (by decide) ?_
    refine rk_icmp_ge rfl rfl (fun hc21 => ?_) (fun hc21 => ?_)
    · replace hc21 := (nI_leI (by omega) (by omega)).mp hc21
      omega
    · replace hc21 := mt (nI_leI (by omega) (by omega)).mpr hc21
      refine rk_iload_n rfl rfl ?_
      refine rk_aload_n rfl rfl ?_
      refine rk_get rfl (by assumption) rfl ?_
      refine rk_cv0e rfl rfl (by assumption) rfl rfl (Nat.le_of_ble_eq_true rfl) (Nat.le_of_ble_eq_true rfl) (s97U S0) ?_
      refine rk_icmp_ge rfl rfl (fun hc26 => ?_) (fun hc26 => ?_)
      · replace hc26 := (nI_leI (by omega) (by omega)).mp hc26
        have hk2 : k = m := by omega
        subst hk2
        exact z g k st _ _ F S0 U E K
      · replace hc26 := mt (nI_leI (by omega) (by omega)).mpr hc26
        refine rk_iconst (v := nI 0) rfl (by decide) ?_
        refine rk_istore rfl (Nat.le_of_ble_eq_true rfl) rfl ?_
        refine l114t (h := h) hN C d24 B hSG hp80 I (k := k) (fun g2 m2 st2 c4 F2 S2 U2 E2 hk2 K2 => ?_) (N 1 + 1) 0 m st g (by omega) (Nat.zero_le _) F S0 U E (by omega) K (fun t' y => absurd y (by omega))
        refine rk_iinc rfl rfl (n_inc _) rfl ?_
        refine rk_goto rfl rfl ?_
        exact ih (k + 1) m2 st2 g2 _ (by omega) F2 S2 U2 E2 (by omega) K2 (by have := U2.m hN; omega)
