/-! WHAT HOLDS, OVER CHANGES ELSEWHERE -/
section FRAMES
variable {h h1 : ai_H}
theorem HouseAt.fr {p : Nat} {F : Nat → Int32} {G : Nat → Nat → Int32} (hk : ∀ q, p ≤ q → q < p + 6 → h1[q]? = h[q]?) (H : HouseAt h p F G) : HouseAt h1 p F G := by
  obtain ⟨c0, c1, c2, c3, c4, c5⟩ := H
  exact ⟨(hk _ (by omega) (by omega)).trans c0, (hk _ (by omega) (by omega)).trans c1, (hk _ (by omega) (by omega)).trans c2, (hk _ (by omega) (by omega)).trans c3, (hk _ (by omega) (by omega)).trans c4, (hk _ (by omega) (by omega)).trans c5⟩
theorem RouteAt.fr {p : Nat} {n : Int32} {f : Nat → Int32} (hk : ∀ q, p ≤ q → q < p + 2 → h1[q]? = h[q]?) (H : RouteAt h p n f) : RouteAt h1 p n f :=
  ⟨(hk _ (by omega) (by omega)).trans H.1, (hk _ (by omega) (by omega)).trans H.2⟩
theorem NumAt.fr {p : Nat} {a b : Int32} {f : Nat → Int64} (hk : ∀ q, p ≤ q → q < p + 2 → h1[q]? = h[q]?) (H : NumAt h p a b f) : NumAt h1 p a b f :=
  ⟨(hk _ (by omega) (by omega)).trans H.1, (hk _ (by omega) (by omega)).trans H.2⟩
theorem ShI.fr {i n : Nat} (hk : h1[i]? = h[i]?) (a : ShI h i n) : ShI h1 i n := by obtain ⟨f, hf⟩ := a; exact ⟨f, hk.trans hf⟩
theorem ShJ.fr {i n : Nat} (hk : h1[i]? = h[i]?) (a : ShJ h i n) : ShJ h1 i n := by obtain ⟨f, hf⟩ := a; exact ⟨f, hk.trans hf⟩
theorem ShZ.fr {i n : Nat} (hk : h1[i]? = h[i]?) (a : ShZ h i n) : ShZ h1 i n := by obtain ⟨f, hf⟩ := a; exact ⟨f, hk.trans hf⟩
theorem InvA.fr {tp : Nat} {T : Nat → Int32} {fk fp : Int32} (hk : ∀ q, q < 3 → h1[q]? = h[q]?) (H : InvA h tp T fk fp) : InvA h1 tp T fk fp := by
  obtain ⟨a, b, rf, g, c, d⟩ := H
  exact ⟨(hk 0 (by omega)).trans a, (hk 1 (by omega)).trans b, rf, g, (hk 2 (by omega)).trans c, d⟩
theorem InvB.fr {A : Nat → Int32} (hk : ∀ q, 3 ≤ q → q < 19 → h1[q]? = h[q]?) (H : InvB h A) : InvB h1 A := by
  obtain ⟨⟨F, G, a1, a2⟩, ⟨F', G', b1⟩, ⟨n, f, c1, c2⟩, n', f', d1⟩ := H
  exact ⟨⟨F, G, a1.fr (fun q _ _ => hk q (by omega) (by omega)), a2⟩, ⟨F', G', b1.fr (fun q _ _ => hk q (by omega) (by omega))⟩, ⟨n, f, c1.fr (fun q _ _ => hk q (by omega) (by omega)), c2⟩, n', f', d1.fr (fun q _ _ => hk q (by omega) (by omega))⟩
theorem InvR.fr {rs rm : Nat → Int32} {nu : Nat → Int64} (hk : ∀ q, q = 19 ∨ (44 ≤ q ∧ q < 52) → h1[q]? = h[q]?) (H : InvR h rs rm nu) : InvR h1 rs rm nu := by
  obtain ⟨⟨ro, a1, a2⟩, b⟩ := H
  refine ⟨⟨ro, (hk 19 (Or.inl rfl)).trans a1, a2⟩, fun i hi => ?_⟩
  obtain ⟨sz, so, f, c1, c2⟩ := b i hi
  exact ⟨sz, so, f, c1.fr (fun q _ _ => hk q (by omega)), c2⟩
theorem InvI.fr {A im : Nat → Int32} {b : Nat → Option Nat} (h0 : h1[20]? = h[20]?) (h2 : h1[21]? = h[21]?) (hk : ∀ i p, i < 2 → b i = some p → ∀ q, p ≤ q → q < p + 8 → h1[q]? = h[q]?) (H : InvI h A im b) : InvI h1 A im b := by
  obtain ⟨k1, k2, a1, a2, a3⟩ := H
  refine ⟨k1, k2, h0.trans a1, h2.trans a2, fun i hi => ?_⟩
  rcases a3 i hi with z | ⟨p, e1, e2, e3, e4, ⟨F, G, g1, g2⟩, n, f, r1, r2⟩
  · exact Or.inl z
  · exact Or.inr ⟨p, e1, e2, e3, e4, ⟨F, G, g1.fr (fun q _ _ => hk i p hi e1 q (by omega) (by omega)), g2⟩, n, f, r1.fr (fun q _ _ => hk i p hi e1 q (by omega) (by omega)), r2⟩
theorem SrchAt.fr {o cap slots : Nat} {b : Option Nat} (h0 : h1[o]? = h[o]?) (hk : ∀ p, b = some p → ∀ q, p ≤ q → q < p + 3 → h1[q]? = h[q]?) (H : SrchAt h o cap slots b) : SrchAt h1 o cap slots b := by
  rcases H with ⟨a, c⟩ | ⟨p, base, many, sl, s1, s2, e, a1, a2, a3, a4, a5⟩
  · exact Or.inl ⟨a, h0.trans c⟩
  · exact Or.inr ⟨p, base, many, sl, s1, s2, e, h0.trans a1, (hk p e _ (by omega) (by omega)).trans a2, (hk p e _ (by omega) (by omega)).trans a3, (hk p e _ (by omega) (by omega)).trans a4, a5⟩
theorem InvS.fr {b : Nat → Option Nat} (h0 : ∀ q, 22 ≤ q → q < 26 → h1[q]? = h[q]?) (hk : ∀ i p, 2 ≤ i → i < 5 → b i = some p → ∀ q, p ≤ q → q < p + blN i → h1[q]? = h[q]?) (H : InvS h b) : InvS h1 b := by
  obtain ⟨a, c, ⟨n1, n2, x, y, d1, d2⟩, f25, g1, g2⟩ := H
  refine ⟨a.fr (h0 22 (by omega) (by omega)) (fun p e => hk 2 p (by omega) (by omega) e), c.fr (h0 23 (by omega) (by omega)) (fun p e => hk 3 p (by omega) (by omega) e), ⟨n1, n2, x, y, (h0 24 (by omega) (by omega)).trans d1, ?_⟩, f25, (h0 25 (by omega) (by omega)).trans g1, g2⟩
  rcases d2 with z | ⟨p, e1, e2, e3, e4, e5⟩
  · exact Or.inl z
  · have hq := hk 4 p (by omega) (by omega) e1
    exact Or.inr ⟨p, e1, e2, e3, e4.fr (hq p (by omega) (by simp [blN])), e5.fr (hq (p + 1) (by omega) (by simp [blN]))⟩
theorem InvO.fr (hk : ∀ q, 25 ≤ q → q < 44 → h1[q]? = h[q]?) (H : InvO h) : InvO h1 := by
  obtain ⟨a1, ⟨n, a2⟩, a3, a4, s1, s2, s3, s4, s5, s6, s7, s8, s9, s10, s11, s12, s13, s14, s15⟩ := H
  have k : ∀ q, 25 ≤ q → q < 44 → h1[q]? = h[q]? := hk
  exact ⟨(k 27 (by omega) (by omega)).trans a1, ⟨n, (k 33 (by omega) (by omega)).trans a2⟩, (k 36 (by omega) (by omega)).trans a3, (k 41 (by omega) (by omega)).trans a4, s1.fr (k _ (by omega) (by omega)), s2.fr (k _ (by omega) (by omega)), s3.fr (k _ (by omega) (by omega)), s4.fr (k _ (by omega) (by omega)), s5.fr (k _ (by omega) (by omega)), s6.fr (k _ (by omega) (by omega)), s7.fr (k _ (by omega) (by omega)), s8.fr (k _ (by omega) (by omega)), s9.fr (k _ (by omega) (by omega)), s10.fr (k _ (by omega) (by omega)), s11.fr (k _ (by omega) (by omega)), s12.fr (k _ (by omega) (by omega)), s13.fr (k _ (by omega) (by omega)), s14.fr (k _ (by omega) (by omega)), s15.fr (k _ (by omega) (by omega))⟩
theorem DynOk.fr {b : Nat → Option Nat} (hl : h.length ≤ h1.length) (H : DynOk h b) : DynOk h1 b := fun i p hi hb => by
  obtain ⟨a, c, d⟩ := H i p hi hb
  exact ⟨a, by omega, d⟩
/-- the model's part, its object written -/
theorem InvM.ob {m tp : Nat} {T A im rs rm : Nat → Int32} {nu : Nat → Int64} {fk fp : Int32} (hk : ∀ q : Nat, q ≠ 52 → h1[q]? = h[q]?) (w : ∀ v : Nat → Int32, h[52]? = some (cMdl v) → ∃ v1 : Nat → Int32, h1[52]? = some (cMdl v1) ∧ v1 5 = v 5 ∧ v1 13 = v 13 ∧ v1 14 = v 14 ∧ v1 22 = v 22) (H : InvM h m tp T A im rs rm nu fk fp) : InvM h1 m tp T A im rs rm nu fk fp := by
  obtain ⟨⟨v, mk, e1, e2, e3, e4, e5, e6, sm, e7, e8⟩, a1, a2, a3, a4, a5, a6, s1, s2, s3, s4, s5, s6, s7, s8, s9, s10, s11, s12, s13, s14, s15, s16, s17, s18, s19, s20⟩ := H
  obtain ⟨v1, f1, f2, f3, f4, f5⟩ := w v e1
  have k : ∀ q : Nat, q ≠ 52 → h1[q]? = h[q]? := hk
  exact ⟨⟨v1, mk, f1, f2.trans e2, f3.trans e3, f4.trans e4, f5.trans e5, e6, sm, (k _ (by omega)).trans e7, e8⟩, (k _ (by omega)).trans a1, (k _ (by omega)).trans a2, (k _ (by omega)).trans a3, (k _ (by omega)).trans a4, (k _ (by omega)).trans a5, (k _ (by omega)).trans a6, s1.fr (k _ (by omega)), s2.fr (k _ (by omega)), s3.fr (k _ (by omega)), s4.fr (k _ (by omega)), s5.fr (k _ (by omega)), s6.fr (k _ (by omega)), s7.fr (k _ (by omega)), s8.fr (k _ (by omega)), s9.fr (k _ (by omega)), s10.fr (k _ (by omega)), s11.fr (k _ (by omega)), s12.fr (k _ (by omega)), s13.fr (k _ (by omega)), s14.fr (k _ (by omega)), s15.fr (k _ (by omega)), s16.fr (k _ (by omega)), s17.fr (k _ (by omega)), s18.fr (k _ (by omega)), s19.fr (k _ (by omega)), s20.fr (k _ (by omega))⟩
/-- nothing but the model's object was written, and of it what shows nowhere -/
theorem Inv.ob {m c s : Nat} (hk : ∀ q : Nat, q ≠ 52 → h1[q]? = h[q]?) (hl : h1.length = h.length) (w : ∀ v : Nat → Int32, h[52]? = some (cMdl v) → ∃ v1 : Nat → Int32, h1[52]? = some (cMdl v1) ∧ v1 5 = v 5 ∧ v1 13 = v 13 ∧ v1 14 = v 14 ∧ v1 22 = v 22) (I : Inv m c s h) : Inv (m + 1) (c + 0) (s + 0) h1 := by
  obtain ⟨tp, T, A, im, rs, rm, nu, fk, fp, b, hA, hB, hR, hI, hS, hO, hM, hV, hD, hc, hs⟩ := Inv_1 I
  refine ⟨tp, T, A, im, rs, rm, nu, fk, fp, b, hA.fr (fun q _ => hk q (by omega)), hB.fr (fun q _ _ => hk q (by omega)), hR.fr (fun q _ => hk q (by omega)), hI.fr (hk 20 (by omega)) (hk 21 (by omega)) (fun i p hi e q _ _ => hk q ?_), hS.fr (fun q _ _ => hk q (by omega)) (fun i p _ hi e q _ _ => hk q ?_), hO.fr (fun q _ _ => hk q (by omega)), hM.ob hk w, hV, hD.fr (by omega), hc, hs⟩
  · have := (hD i p (by omega) e).1; omega
  · have := (hD i p hi e).1; omega
end FRAMES
