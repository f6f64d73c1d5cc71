/-! WHAT HOLDS BEHIND A CALL THAT SEARCHES OR FINDS -/
theorem HC.cg {F : Nat → Int32} {G : Nat → Nat → Int32} {A A1 : Nat → Int32} {off : Nat} (e : ∀ q, off ≤ q → q < off + 281 → A1 q = A q) (hw : (F 4).toNatClampNeg ≤ 8) (H : HC F G A off) : HC F G A1 off := by
  obtain ⟨x0, x1, x2, x3, x4, x5, x6, x7, x8, x9, x10⟩ := H
  exact ⟨x0.trans (e _ (by omega) (by omega)).symm, x1.trans (e _ (by omega) (by omega)).symm, x2.trans (e _ (by omega) (by omega)).symm, x3.trans (e _ (by omega) (by omega)).symm, x4.trans (e _ (by omega) (by omega)).symm, x5.trans (e _ (by omega) (by omega)).symm, x6.trans (e _ (by omega) (by omega)).symm, fun k hk => (x7 k hk).trans (e _ (by omega) (by omega)).symm, fun k hk => (x8 k hk).trans (e _ (by omega) (by omega)).symm, fun w hw' => (x9 w hw').trans (e _ (by omega) (by omega)).symm, fun h k hk => ⟨(x10 h k hk).1.trans (e _ (by omega) (by omega)).symm, (x10 h k hk).2.trans (e _ (by omega) (by omega)).symm⟩⟩
theorem HC.w8 {F : Nat → Int32} {G : Nat → Nat → Int32} {A : Nat → Int32} {off n t w : Nat} (H : HC F G A off) (V : HV A off n t w) : (F 4).toNatClampNeg ≤ 8 := by
  obtain ⟨-, -, -, -, x4, -⟩ := H
  obtain ⟨-, -, y, z, -⟩ := V
  rw [x4, y, nI_clamp (by omega)]
  exact z
theorem HV.cg {A A1 : Nat → Int32} {off n t w : Nat} (e : ∀ q, off ≤ q → q < off + 281 → A1 q = A q) (H : HV A off n t w) : HV A1 off n t w := by
  obtain ⟨x0, x1, x2, x3, ⟨l, l1, l2⟩, x5, ⟨p, p1, p2⟩, ⟨b, b1, b2⟩, ⟨b', b1', b2'⟩, x9, x10, x11, x12⟩ := H
  have hn : n ≤ 14 := by omega
  refine ⟨(e _ (by omega) (by omega)).trans x0, (e _ (by omega) (by omega)).trans x1, (e _ (by omega) (by omega)).trans x2, x3, ⟨l, l1, (e _ (by omega) (by omega)).trans l2⟩, x5, ⟨p, (e _ (by omega) (by omega)).trans p1, p2⟩, ⟨b, (e _ (by omega) (by omega)).trans b1, b2⟩, ⟨b', (e _ (by omega) (by omega)).trans b1', b2'⟩, fun k hk => ?_, fun k hk => ?_, fun r i hr hi => ?_, fun r i hr hi => ?_⟩
  · obtain ⟨g, g1, g2⟩ := x9 k hk
    exact ⟨g, g1, (e _ (by omega) (by omega)).trans g2⟩
  · obtain ⟨g, g1, g2⟩ := x10 k hk
    exact ⟨g, g1, (e _ (by omega) (by omega)).trans g2⟩
  · obtain ⟨g, g1, g2⟩ := x11 r i hr hi
    exact ⟨g, g1, (e _ (by omega) (by omega)).trans g2⟩
  · obtain ⟨c, c1, c2, c3, c4⟩ := x12 r i hr hi
    rw [e (off + 170 + (6 * r + i)) (by omega) (by omega), e (off + 86 + (6 * r + i)) (by omega) (by omega)]
    exact ⟨c, c1, c2, c3, c4⟩
theorem FC.cg {n : Int32} {f A A1 : Nat → Int32} {off : Nat} (e : ∀ q, off ≤ q → A1 q = A q) (H : FC n f A off) : FC n f A1 off := by
  obtain ⟨a, b⟩ := H
  unfold FC
  rw [e (off + 281) (by omega)]
  exact ⟨a, fun i hi => (b i hi).trans (e _ (by omega)).symm⟩
theorem FV.cg {A A1 : Nat → Int32} {off t : Nat} (e : ∀ q, off ≤ q → A1 q = A q) (H : FV A off t) : FV A1 off t := by
  unfold FV at H ⊢
  rw [e (off + 281) (by omega)]
  rcases H with z | ⟨n, a, b, c⟩
  · exact Or.inl z
  · refine Or.inr ⟨n, a, b, fun i hi => ?_⟩
    rw [e (off + 282 + i) (by omega)]
    exact c i hi
/-- cells that such a call leaves as they were -/
abbrev KP (q : Nat) : Prop := q < 9 ∨ (19 ≤ q ∧ q < 22) ∨ q = 27 ∨ q = 36 ∨ q = 41 ∨ (44 ≤ q ∧ q < 52) ∨ q = 54 ∨ q = 55 ∨ 77 ≤ q
theorem InvM.len {h : ai_H} {m tp : Nat} {T A im rs rm : Nat → Int32} {nu : Nat → Int64} {fk fp : Int32} (H : InvM h m tp T A im rs rm nu fk fp) : 80 ≤ h.length := by
  have := H.2.2.2.2.2.2.1
  have := (List.getElem?_eq_some_iff.mp this).1
  omega
theorem Inv.srch {m c s c1 s1 : Nat} {h h2 : ai_H} {tp : Nat} {T A A1 im rs rm : Nat → Int32} {nu : Nat → Int64} {fk fp : Int32} {b b1 : Nat → Option Nat} (I : InvP m c s h tp T A im rs rm nu fk fp b) (k : ai_Sk h h2) (K : ∀ q : Nat, q < h.length → KP q → (∀ i p, 2 ≤ i → i < 5 → b i = some p → ¬ (p ≤ q ∧ q < p + blN i)) → h2[q]? = h[q]?) (hS : InvS h2 b1) (hb0 : b1 0 = b 0) (hb1 : b1 1 = b 1) (hD : DynOk h2 b1) (hc : c + c1 + pend b1 blN ≤ 104) (hs : s + s1 + pend b1 blS ≤ 534748) (R9 : ∃ F G, HouseAt h2 9 F G) (R15 : ∃ n f, RouteAt h2 15 n f ∧ FC n f A1 0) (R17 : ∃ n f, RouteAt h2 17 n f) (h33 : ∃ n, h2[33]? = some (.inr (1, [.ref 3, .ref 22, .ref 34, .ref 35, .int n]))) (w : ∃ v mk, h2[52]? = some (cMdl v) ∧ v 5 = nI tp ∧ v 13 = fk ∧ v 14 = fp ∧ v 22 = nI mk ∧ mk ≤ 4000 * (m + 1) ∧ ∃ sm, h2[62]? = some (cI 65536 sm) ∧ ∀ i, i < 65536 → ∃ x, x ≤ mk ∧ sm i = nI x) (c53 : h2[53]? = some (cI 2346 A1)) (hA : ∀ q, ¬ (281 ≤ q ∧ q < 782) → A1 q = A q) (hF : ∀ n t w, HV A 0 n t w → FV A 0 t → FV A1 0 t) : Inv (m + 1) (c + c1) (s + s1) h2 := by
  obtain ⟨hA', hB, hR, hI, hS', hO, hM, hV, hD', hc', hs'⟩ := I
  have hlen := hM.len
  have KK : ∀ q : Nat, q < 80 → KP q → h2[q]? = h[q]? := fun q hq hk => K q (by omega) hk (fun i p _ hi e z => by have := (hD' i p hi e).1; omega)
  have hA0 : ∀ q, 0 ≤ q → q < 0 + 281 → A1 q = A q := fun q _ hq => hA q (by omega)
  have hAi : ∀ i q, 782 * (i + 1) ≤ q → A1 q = A q := fun i q hq => hA q (by omega)
  refine ⟨tp, T, A1, im, rs, rm, nu, fk, fp, b1, hA'.fr (fun q hq => KK q (by omega) (by omega)), ⟨?_, R9, R15, R17⟩, hR.fr (fun q hq => KK q (by omega) (by omega)), ?_, hS, hO.sk k (KK 27 (by omega) (by omega)) (KK 36 (by omega) (by omega)) (KK 41 (by omega) (by omega)) h33, hM.up k w c53 ((KK 54 (by omega) (by omega)).trans hM.2.2.1) ((KK 55 (by omega) (by omega)).trans hM.2.2.2.1) ((KK 77 (by omega) (by omega)).trans hM.2.2.2.2.1) ((KK 78 (by omega) (by omega)).trans hM.2.2.2.2.2.1) ((KK 79 (by omega) (by omega)).trans hM.2.2.2.2.2.2.1), ?_, hD, hc, hs⟩
  · obtain ⟨⟨F, G, x1, x2⟩, -⟩ := hB
    obtain ⟨-, -, ⟨n, t, w, v1, -⟩, -⟩ := hV
    exact ⟨F, G, x1.fr (fun q _ _ => KK q (by omega) (by omega)), x2.cg hA0 (x2.w8 v1)⟩
  · obtain ⟨k1, k2, e1, e2, e3⟩ := hI
    refine ⟨k1, k2, (KK 20 (by omega) (by omega)).trans e1, (KK 21 (by omega) (by omega)).trans e2, fun i hi => ?_⟩
    have hbi : b1 i = b i := by
      rcases (show i = 0 ∨ i = 1 by omega) with rfl | rfl
      · exact hb0
      · exact hb1
    rw [hbi]
    rcases e3 i hi with z | ⟨p, p1, p2, p3, p4, ⟨F, G, y1, y2⟩, n, f, y3, y4⟩
    · exact Or.inl z
    · have hbl : blN i = 8 := by rw [blN, if_pos hi]
      have hdd := hD' i p (by omega) p1
      rw [hbl] at hdd
      have kq : ∀ q, p ≤ q → q < p + 8 → h2[q]? = h[q]? := fun q a c => K q (by omega) (by omega) (fun j p' hj1 hj2 e z => by
        have := hdd.2.2 j p' hj2 (by omega) e
        omega)
      obtain ⟨n', t', w', v1, -⟩ := hV.2.2.2 i hi p4
      exact Or.inr ⟨p, p1, p2, p3, p4, ⟨F, G, y1.fr (fun q a c => kq q a (by omega)), y2.cg (fun q a _ => hAi i q a) (y2.w8 v1)⟩, n, f, y3.fr (fun q a c => kq q (by omega) (by omega)), y4.cg (hAi i)⟩
  · obtain ⟨v1, v2, ⟨n, t, w, v3, v4⟩, v5⟩ := hV
    refine ⟨v1, v2, ⟨n, t, w, v3.cg hA0, hF n t w v3 v4⟩, fun i hi him => ?_⟩
    obtain ⟨n', t', w', y1, y2⟩ := v5 i hi him
    exact ⟨n', t', w', y1.cg (fun q a _ => hAi i q a), y2.cg (hAi i)⟩
def bu (b : Nat → Option Nat) (i p : Nat) : Nat → Option Nat := fun j => if j = i then some p else b j
theorem DynOk.new {h h2 : ai_H} {b : Nat → Option Nat} {i : Nat} (H : DynOk h b) (hb : b i = none) (hi : i < 5) (h80 : 80 ≤ h.length) (hl : h.length + blN i ≤ h2.length) : DynOk h2 (bu b i h.length) := by
  intro j p hj hp
  unfold bu at hp
  by_cases e : j = i
  · rw [if_pos e] at hp
    cases hp
    subst e
    refine ⟨h80, hl, fun j' q hj' hne hq => ?_⟩
    unfold bu at hq
    rw [if_neg hne] at hq
    exact Or.inr (H j' q hj' hq).2.1
  · rw [if_neg e] at hp
    obtain ⟨a, c, d⟩ := H j p hj hp
    refine ⟨a, by omega, fun j' q hj' hne hq => ?_⟩
    unfold bu at hq
    by_cases e2 : j' = i
    · rw [if_pos e2] at hq
      cases hq
      exact Or.inl c
    · rw [if_neg e2] at hq
      exact d j' q hj' hne hq
theorem pend_new {b : Nat → Option Nat} {i p : Nat} {w : Nat → Nat} (hb : b i = none) (hi : i < 5) : w i + pend (bu b i p) w = pend b w := by
  rcases (show i = 0 ∨ i = 1 ∨ i = 2 ∨ i = 3 ∨ i = 4 by omega) with rfl | rfl | rfl | rfl | rfl <;> (simp only [pend, bu, hb]; simp; try omega)
theorem ob_cells {X : ai_X} {Mc Mm : ai_M} {as : List Value} (hc : ∀ m c s h, m < 64 → Inv m c s h → ∃ (W : Int32) (c1 s1 : Nat) (E : ai_H → Prop), Mt X Mc (.ref 0 :: as) h (Qn c1 s1 (Qi (fun w h1 => w = W ∧ E h1))) ∧ ∀ h1, E h1 → ai_Sk h h1 → (∃ fs, h1[52]? = some (.inr (11, fs))) ∧ Mt X Mm (.ref 52 :: as) h1 (Qi (fun w h2 => w = W ∧ (ai_Sk h1 h2 → Inv (m + 1) (c + c1) (s + s1) h2)))) : Ob X Inv Mc Mm as := by
  intro m c s h hm I
  obtain ⟨W, c1, s1, E, hcl, hmd⟩ := hc m c s h hm I
  obtain ⟨n, o, hn, ⟨o1, ⟨w, h1, rfl, rfl, S⟩, rfl⟩, k1⟩ := hcl.sk
  obtain ⟨⟨fs, hf⟩, h3⟩ := hmd h1 S k1
  obtain ⟨n2, o2, hn2, ⟨w2, h2, rfl, rfl, S2⟩, k2⟩ := h3.sk
  exact ⟨n, _, hn, _, h1, c1, s1, fs, rfl, hf, n2, _, hn2, h2, rfl, S2 k2⟩
theorem og_cells {X : ai_X} {m c s : Nat} {h : ai_H} {Mc Mm : ai_M} {as : List Value} (H : OG X m c s h Mc Mm as) : ∃ (W : Int32) (c1 s1 : Nat) (E : ai_H → Prop), Mt X Mc (.ref 0 :: as) h (Qn c1 s1 (Qi (fun w h1 => w = W ∧ E h1))) ∧ ∀ h1, E h1 → ai_Sk h h1 → (∃ fs, h1[52]? = some (.inr (11, fs))) ∧ Mt X Mm (.ref 52 :: as) h1 (Qi (fun w h2 => w = W ∧ (ai_Sk h1 h2 → Inv (m + 1) (c + c1) (s + s1) h2))) := by
  obtain ⟨W, E, a, b⟩ := H
  exact ⟨W, 0, 0, E, Qn_0 a, b⟩
/-! WHAT A SEARCH FINDS: the first of which g holds, the row to it -/
def CF (h h1 : ai_H) (w : Int32) (B : Bf) (g : Nat → Bool) : Prop := (ffi (fun i => g (B.st i)) B.m 0 = B.m ∧ w = -1 ∧ h1[15]? = h[15]? ∧ h1[16]? = h[16]?) ∨ (ffi (fun i => g (B.st i)) B.m 0 < B.m ∧ w = nI (dep B.pa (ffi (fun i => g (B.st i)) B.m 0)) ∧ ((500 < dep B.pa (ffi (fun i => g (B.st i)) B.m 0) ∧ h1[15]? = h[15]? ∧ h1[16]? = h[16]?) ∨ (dep B.pa (ffi (fun i => g (B.st i)) B.m 0) ≤ 500 ∧ RtAt h1 15 (dep B.pa (ffi (fun i => g (B.st i)) B.m 0)) (rowTo B (ffi (fun i => g (B.st i)) B.m 0)))))
def MF (A A1 : Nat → Int32) (w : Int32) (B : Bf) (g : Nat → Bool) : Prop := (ffi (fun i => g (B.st i)) B.m 0 = B.m ∧ w = -1 ∧ A1 = A) ∨ (ffi (fun i => g (B.st i)) B.m 0 < B.m ∧ w = nI (dep B.pa (ffi (fun i => g (B.st i)) B.m 0)) ∧ ((500 < dep B.pa (ffi (fun i => g (B.st i)) B.m 0) ∧ A1 = A) ∨ (dep B.pa (ffi (fun i => g (B.st i)) B.m 0) ≤ 500 ∧ FD A A1 (dep B.pa (ffi (fun i => g (B.st i)) B.m 0)) (rowTo B (ffi (fun i => g (B.st i)) B.m 0)))))
/-- the answer -/
def ans (B : Bf) (g : Nat → Bool) : Int32 := if ffi (fun i => g (B.st i)) B.m 0 = B.m then -1 else nI (dep B.pa (ffi (fun i => g (B.st i)) B.m 0))
theorem CF.w {h h1 : ai_H} {w : Int32} {B : Bf} {g : Nat → Bool} (H : CF h h1 w B g) : w = ans B g := by
  unfold ans
  rcases H with ⟨a, b, -⟩ | ⟨a, b, -⟩
  · rw [if_pos a]; exact b
  · rw [if_neg (by omega)]; exact b
theorem MF.w {A A1 : Nat → Int32} {w : Int32} {B : Bf} {g : Nat → Bool} (H : MF A A1 w B g) : w = ans B g := by
  unfold ans
  rcases H with ⟨a, b, -⟩ | ⟨a, b, -⟩
  · rw [if_pos a]; exact b
  · rw [if_neg (by omega)]; exact b
theorem ffi_pre {B C : Bf} {g : Nat → Bool} {k : Nat} (P : Pre B C) (hk : k < B.m) (hg : g (B.st k) = true) (hn : ∀ i, i < k → ¬ g (B.st i) = true) : ffi (fun i => g (C.st i)) C.m 0 = k := by
  refine ffi_at C.m 0 k (by omega) (by have := P.1; omega) ?_ (fun i _ hi => ?_)
  · show g (C.st k) = true
    rw [(P.2 k hk).1]; exact hg
  · show ¬ g (C.st i) = true
    rw [(P.2 i (by omega)).1]; exact hn i hi
theorem CF.found {h h1 : ai_H} {w : Int32} {B C : Bf} {g : Nat → Bool} {k T x : Nat} {nx : Nat → Nat → Nat} {ok : Nat → Bool} (P : Pre B C) (H : BI nx ok T x B) (hk : k < B.m) (hg : g (B.st k) = true) (hn : ∀ i, i < k → ¬ g (B.st i) = true) (hw : w = nI (dep B.pa k)) (z : (500 < dep B.pa k ∧ h1[15]? = h[15]? ∧ h1[16]? = h[16]?) ∨ (dep B.pa k ≤ 500 ∧ RtAt h1 15 (dep B.pa k) (rowTo B k))) : CF h h1 w C g := by
  unfold CF
  rw [ffi_pre P hk hg hn, P.dep H hk]
  refine Or.inr ⟨by have := P.1; omega, hw, ?_⟩
  rcases z with z | ⟨z1, f, z2, z3⟩
  · exact Or.inl z
  · exact Or.inr ⟨z1, f, z2, fun i hi => by rw [P.row H hk]; exact z3 i hi⟩
theorem MF.found {A A1 : Nat → Int32} {w : Int32} {B C : Bf} {g : Nat → Bool} {k T x : Nat} {nx : Nat → Nat → Nat} {ok : Nat → Bool} (P : Pre B C) (H : BI nx ok T x B) (hk : k < B.m) (hg : g (B.st k) = true) (hn : ∀ i, i < k → ¬ g (B.st i) = true) (hw : w = nI (dep B.pa k)) (z : (500 < dep B.pa k ∧ A1 = A) ∨ (dep B.pa k ≤ 500 ∧ FD A A1 (dep B.pa k) (rowTo B k))) : MF A A1 w C g := by
  unfold MF
  rw [ffi_pre P hk hg hn, P.dep H hk]
  refine Or.inr ⟨by have := P.1; omega, hw, ?_⟩
  rcases z with z | ⟨z1, z2, z3, z4⟩
  · exact Or.inl z
  · exact Or.inr ⟨z1, z2, fun i hi => by rw [P.row H hk]; exact z3 i hi, z4⟩
theorem CF.none {h h1 : ai_H} {B : Bf} {g : Nat → Bool} (hn : ∀ i, i < B.m → ¬ g (B.st i) = true) (e1 : h1[15]? = h[15]?) (e2 : h1[16]? = h[16]?) : CF h h1 (-1) B g :=
  Or.inl ⟨(ffi_no B.m 0 (fun i _ hi => hn i (by omega))).trans (by omega), rfl, e1, e2⟩
theorem MF.none {A : Nat → Int32} {B : Bf} {g : Nat → Bool} (hn : ∀ i, i < B.m → ¬ g (B.st i) = true) : MF A A (-1) B g :=
  Or.inl ⟨(ffi_no B.m 0 (fun i _ hi => hn i (by omega))).trans (by omega), rfl, rfl⟩
/-- both leave the same row FOUND -/
theorem found_FC {h h1 h2 : ai_H} {A A1 : Nat → Int32} {w w' : Int32} {B : Bf} {g : Nat → Bool} (C : CF h h1 w B g) (M : MF A A1 w' B g) (R : ∃ n f, RouteAt h 15 n f ∧ FC n f A 0) (e1 : h2[15]? = h1[15]?) (e2 : h2[16]? = h1[16]?) : ∃ n f, RouteAt h2 15 n f ∧ FC n f A1 0 := by
  obtain ⟨n, f, r, c⟩ := R
  rcases C with ⟨a, -, b1, b2⟩ | ⟨a, -, ⟨d, b1, b2⟩ | ⟨d, f', r', c'⟩⟩
  · rcases M with ⟨-, -, rfl⟩ | ⟨a', -⟩
    · exact ⟨n, f, ⟨(e1.trans b1).trans r.1, (e2.trans b2).trans r.2⟩, c⟩
    · omega
  · rcases M with ⟨a', -⟩ | ⟨-, -, ⟨-, rfl⟩ | ⟨d', -⟩⟩
    · omega
    · exact ⟨n, f, ⟨(e1.trans b1).trans r.1, (e2.trans b2).trans r.2⟩, c⟩
    · omega
  · rcases M with ⟨a', -⟩ | ⟨-, -, ⟨d', -⟩ | ⟨-, y1, y2, -⟩⟩
    · omega
    · omega
    · refine ⟨_, f', ⟨e1.trans r'.1, e2.trans r'.2⟩, y1.symm, fun i hi => ?_⟩
      rw [Nat.zero_add, y1, nI_clamp (by omega)] at hi
      rw [c' i hi, Nat.zero_add, y2 i hi]
theorem found_FV {A A1 : Nat → Int32} {w : Int32} {B : Bf} {g : Nat → Bool} {T x : Nat} {nx : Nat → Nat → Nat} {ok : Nat → Bool} (M : MF A A1 w B g) (H : BI nx ok T x B) (V : FV A 0 T) : FV A1 0 T := by
  rcases M with ⟨-, -, rfl⟩ | ⟨a, -, ⟨-, rfl⟩ | ⟨d, y1, y2, -⟩⟩
  · exact V
  · exact V
  · exact Or.inr ⟨_, d, by rw [Nat.zero_add]; exact y1, fun i hi => ⟨_, rowTo_lt H a hi, by rw [Nat.zero_add]; exact y2 i hi⟩⟩
theorem MF.keep {A A1 : Nat → Int32} {w : Int32} {B : Bf} {g : Nat → Bool} (M : MF A A1 w B g) : ∀ q, ¬ (281 ≤ q ∧ q < 782) → A1 q = A q := by
  rcases M with ⟨-, -, rfl⟩ | ⟨a, -, ⟨-, rfl⟩ | ⟨d, -, -, y3⟩⟩
  · exact fun _ _ => rfl
  · exact fun _ _ => rfl
  · exact y3
