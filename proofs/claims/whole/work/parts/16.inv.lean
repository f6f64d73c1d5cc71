/-! WHAT HOLDS BETWEEN TWO CALLS -/
/-- blocks of cells that are made late: two images, the two searches, the values -/
def blN (i : Nat) : Nat := if i < 2 then 8 else if i < 4 then 3 else 2
def blS (i : Nat) : Nat := if i < 2 then 788 else if i = 2 then 49152 else if i = 3 then 125538 else 32768
def DynOk (h : ai_H) (b : Nat → Option Nat) : Prop := ∀ i p, i < 5 → b i = some p → 80 ≤ p ∧ p + blN i ≤ h.length ∧ ∀ j q, j < 5 → j ≠ i → b j = some q → p + blN i ≤ q ∨ q + blN j ≤ p
def pend (b : Nat → Option Nat) (w : Nat → Nat) : Nat := (if b 0 = none then w 0 else 0) + (if b 1 = none then w 1 else 0) + (if b 2 = none then w 2 else 0) + (if b 3 = none then w 3 else 0) + (if b 4 = none then w 4 else 0)
/-- the tape, the fault -/
def InvA (h : ai_H) (tp : Nat) (T : Nat → Int32) (fk fp : Int32) : Prop :=
  h[0]? = some (cOne (nI tp)) ∧ h[1]? = some (cI 600 T) ∧ ∃ rf g, h[2]? = some (cRead rf g) ∧ g 0 = fk ∧ g 1 = fp
/-- the house that is told, the one that is drafted, the row that was found, the row that is tried -/
def InvB (h : ai_H) (A : Nat → Int32) : Prop :=
  (∃ F G, HouseAt h 3 F G ∧ HC F G A 0) ∧ (∃ F G, HouseAt h 9 F G) ∧ (∃ n f, RouteAt h 15 n f ∧ FC n f A 0) ∧ ∃ n f, RouteAt h 17 n f
/-- a row of numbers, beside the model's -/
def NC (i : Nat) (sz so : Int32) (f : Nat → Int64) (rs rm : Nat → Int32) (nu : Nat → Int64) : Prop :=
  (rs i = -1 ∧ sz = -1 ∧ rm i = 0) ∨ ∃ n, n ≤ 40 ∧ sz = nI n ∧ rm i = nI n ∧ so = rs i ∧ (so = 0 ∨ so = 1 ∨ so = 2 ∨ so = 3) ∧ ∀ k, k < n → f k = nu (40 * i + k)
def InvR (h : ai_H) (rs rm : Nat → Int32) (nu : Nat → Int64) : Prop :=
  (∃ ro, h[19]? = some (cR 3 4 ro) ∧ ∀ i, i < 4 → ro i = some (44 + 2 * i)) ∧ ∀ i, i < 4 → ∃ sz so f, NumAt h (44 + 2 * i) sz so f ∧ NC i sz so f rs rm nu
/-- the images -/
def InvI (h : ai_H) (A im : Nat → Int32) (b : Nat → Option Nat) : Prop :=
  ∃ k1 k2, h[20]? = some (cR 4 2 k1) ∧ h[21]? = some (cR 5 2 k2) ∧ ∀ i, i < 2 → (b i = none ∧ k1 i = none ∧ k2 i = none ∧ im i = 0) ∨ ∃ p, b i = some p ∧ k1 i = some p ∧ k2 i = some (p + 6) ∧ im i = 1 ∧ (∃ F G, HouseAt h p F G ∧ HC F G A (782 * (i + 1))) ∧ ∃ n f, RouteAt h (p + 6) n f ∧ FC n f A (782 * (i + 1))
/-- a search: not begun yet, or its three rows, old entries not above its base and what is in it -/
def SrchAt (h : ai_H) (o cap slots : Nat) (b : Option Nat) : Prop :=
  (b = none ∧ h[o]? = some (cSrch (nI cap) (nI (slots - 1)) .null .null .null 0 0)) ∨ ∃ p base many sl s1 s2, b = some p ∧ h[o]? = some (cSrch (nI cap) (nI (slots - 1)) (.ref p) (.ref (p + 1)) (.ref (p + 2)) (nI base) (nI many)) ∧ h[p]? = some (cI slots sl) ∧ h[p + 1]? = some (cI cap s1) ∧ h[p + 2]? = some (cI cap s2) ∧ base ≤ 1000000000 ∧ many ≤ cap ∧ ∀ i, i < slots → ∃ x, x ≤ base + many ∧ sl i = nI x
def InvS (h : ai_H) (b : Nat → Option Nat) : Prop :=
  SrchAt h 22 16384 16384 (b 2) ∧ SrchAt h 23 30001 65536 (b 3) ∧ (∃ n1 n2 x y, h[24]? = some (cSets n1 n2 x y) ∧ ((b 4 = none ∧ x = .null ∧ y = .null) ∨ ∃ p, b 4 = some p ∧ x = .ref p ∧ y = .ref (p + 1) ∧ ShI h p 16384 ∧ ShI h (p + 1) 16384)) ∧ ∃ f25, h[25]? = some (cI 1536 f25) ∧ ∀ j, j < 12 → f25 (128 * j) = 0
/-- the class's helpers and what they write into -/
def InvO (h : ai_H) : Prop :=
  h[27]? = some (.inr (4, [.ref 28, .ref 29, .ref 30, .ref 31, .ref 32])) ∧ (∃ n, h[33]? = some (.inr (1, [.ref 3, .ref 22, .ref 34, .ref 35, .int n]))) ∧ h[36]? = some (.inr (9, [.ref 3, .ref 37, .ref 38, .ref 39, .ref 40])) ∧ h[41]? = some (.inr (0, [.ref 3, .ref 42, .ref 43])) ∧
  ShI h 25 1536 ∧ ShI h 26 10 ∧ ShI h 28 196 ∧ ShI h 29 14 ∧ ShI h 30 196 ∧ ShI h 31 196 ∧ ShJ h 32 196 ∧ ShI h 34 8 ∧ ShI h 35 3 ∧ ShI h 37 84 ∧ ShI h 38 84 ∧ ShI h 39 10 ∧ ShI h 40 14 ∧ ShJ h 42 14 ∧ ShJ h 43 14
/-- the model -/
def InvM (h : ai_H) (m tp : Nat) (T A im rs rm : Nat → Int32) (nu : Nat → Int64) (fk fp : Int32) : Prop :=
  (∃ v mk, h[52]? = some (cMdl v) ∧ v 5 = nI tp ∧ v 13 = fk ∧ v 14 = fp ∧ v 22 = nI mk ∧ mk ≤ 4000 * m ∧ ∃ sm, h[62]? = some (cI 65536 sm) ∧ ∀ i, i < 65536 → ∃ x, x ≤ mk ∧ sm i = nI x) ∧
  h[53]? = some (cI 2346 A) ∧ h[54]? = some (cZ 2 im) ∧ h[55]? = some (cI 600 T) ∧ h[77]? = some (cI 4 rs) ∧ h[78]? = some (cI 4 rm) ∧ h[79]? = some (cJ 160 nu) ∧
  ShI h 56 281 ∧ ShI h 57 30002 ∧ ShI h 58 30002 ∧ ShI h 59 30002 ∧ ShI h 60 30002 ∧ ShI h 61 65536 ∧ ShI h 63 700 ∧ ShZ h 64 196 ∧ ShJ h 65 16384 ∧ ShJ h 66 16384 ∧ ShI h 67 14 ∧ ShI h 68 14 ∧ ShI h 69 14 ∧ ShI h 70 16384 ∧ ShJ h 71 8036 ∧ ShZ h 72 8036 ∧ ShJ h 73 14 ∧ ShJ h 74 14 ∧ ShI h 75 4 ∧ ShI h 76 8
/-- houses and found rows are as they can be -/
def InvV (tp : Nat) (T A im : Nat → Int32) : Prop :=
  tp ≤ 600 ∧ (∀ i, i < 600 → ∃ x, x < 256 ∧ T i = nI x) ∧ (∃ n t w, HV A 0 n t w ∧ FV A 0 t) ∧ ∀ i, i < 2 → im i = 1 → ∃ n t w, HV A (782 * (i + 1)) n t w ∧ FV A (782 * (i + 1)) t
def Inv (m c s : Nat) (h : ai_H) : Prop := ∃ tp T A im rs rm nu fk fp b, InvA h tp T fk fp ∧ InvB h A ∧ InvR h rs rm nu ∧ InvI h A im b ∧ InvS h b ∧ InvO h ∧ InvM h m tp T A im rs rm nu fk fp ∧ InvV tp T A im ∧ DynOk h b ∧ c + pend b blN ≤ 104 ∧ s + pend b blS ≤ 534748
theorem Inv_0 {m c s : Nat} {h : ai_H} (I : Inv m c s h) : (∃ fs, h[0]? = some (.inr (10, fs))) ∧ c ≤ 600000 ∧ s ≤ 7302249 := by
  obtain ⟨tp, T, A, im, rs, rm, nu, fk, fp, b, hA, -, -, -, -, -, -, -, -, h1, h2⟩ := I
  exact ⟨⟨_, hA.1⟩, by omega, by omega⟩
theorem Inv_1 {m c s : Nat} {h : ai_H} (I : Inv m c s h) : Inv (m + 1) c s h := by
  obtain ⟨tp, T, A, im, rs, rm, nu, fk, fp, b, hA, hB, hR, hI, hS, hO, hM, rest⟩ := I
  obtain ⟨⟨v, mk, e1, e2, e3, e4, e5, e6, e7⟩, hM⟩ := hM
  exact ⟨tp, T, A, im, rs, rm, nu, fk, fp, b, hA, hB, hR, hI, hS, hO, ⟨⟨v, mk, e1, e2, e3, e4, e5, by omega, e7⟩, hM⟩, rest⟩
/-- at the start -/
theorem Inv_start : Inv 0 80 325714 (hpA ++ hpB) := by
  refine ⟨0, fun _ => 0, upd (fun _ => 0) 281 (-1), fun _ => 0, upd (upd (upd (upd (fun _ => 0) 0 (-1)) 1 (-1)) 2 (-1)) 3 (-1), fun _ => 0, fun _ => 0, 0, -1, fun _ => none, ?_, ?_, ?_, ?_, ?_, ?_, ?_, ?_, ?_, by decide, by decide⟩
  · exact ⟨rfl, rfl, .null, upd (fun _ => 0) 1 (-1), rfl, rfl, rfl⟩
  · refine ⟨⟨fun _ => 0, fun _ _ => 0, ⟨rfl, rfl, rfl, rfl, rfl, rfl⟩, ?_⟩, ⟨fun _ => 0, fun _ _ => 0, rfl, rfl, rfl, rfl, rfl, rfl⟩, ⟨-1, fun _ => 0, ⟨rfl, rfl⟩, rfl, ?_⟩, ⟨-1, fun _ => 0, rfl, rfl⟩⟩
    · refine ⟨rfl, rfl, rfl, rfl, rfl, rfl, rfl, fun k hk => ?_, fun k hk => ?_, fun w hw => ?_, fun hz => absurd rfl hz⟩
      · simp only [upd]; rw [if_neg (by omega)]
      · simp only [upd]; rw [if_neg (by omega)]
      · exact absurd hw (by decide +revert)
    · intro i hi
      exact absurd hi (by decide +revert)
  · refine ⟨⟨_, rfl, fun i hi => ?_⟩, fun i hi => ?_⟩
    · rcases (show i = 0 ∨ i = 1 ∨ i = 2 ∨ i = 3 by omega) with rfl | rfl | rfl | rfl <;> rfl
    · rcases (show i = 0 ∨ i = 1 ∨ i = 2 ∨ i = 3 by omega) with rfl | rfl | rfl | rfl <;> exact ⟨-1, 0, fun _ => 0, ⟨rfl, rfl⟩, Or.inl ⟨rfl, rfl, rfl⟩⟩
  · exact ⟨fun _ => none, fun _ => none, rfl, rfl, fun i _ => Or.inl ⟨rfl, rfl, rfl, rfl⟩⟩
  · exact ⟨Or.inl ⟨rfl, rfl⟩, Or.inl ⟨rfl, rfl⟩, ⟨0, 0, .null, .null, rfl, Or.inl ⟨rfl, rfl, rfl⟩⟩, _, rfl, fun _ _ => rfl⟩
  · exact ⟨rfl, ⟨0, rfl⟩, rfl, rfl, ⟨_, rfl⟩, ⟨_, rfl⟩, ⟨_, rfl⟩, ⟨_, rfl⟩, ⟨_, rfl⟩, ⟨_, rfl⟩, ⟨_, rfl⟩, ⟨_, rfl⟩, ⟨_, rfl⟩, ⟨_, rfl⟩, ⟨_, rfl⟩, ⟨_, rfl⟩, ⟨_, rfl⟩, ⟨_, rfl⟩, ⟨_, rfl⟩⟩
  · refine ⟨⟨upd (fun _ => 0) 14 (-1), 0, rfl, rfl, rfl, rfl, rfl, by omega, _, rfl, fun i _ => ⟨0, by omega, rfl⟩⟩, rfl, rfl, rfl, rfl, rfl, rfl, ⟨_, rfl⟩, ⟨_, rfl⟩, ⟨_, rfl⟩, ⟨_, rfl⟩, ⟨_, rfl⟩, ⟨_, rfl⟩, ⟨_, rfl⟩, ⟨_, rfl⟩, ⟨_, rfl⟩, ⟨_, rfl⟩, ⟨_, rfl⟩, ⟨_, rfl⟩, ⟨_, rfl⟩, ⟨_, rfl⟩, ⟨_, rfl⟩, ⟨_, rfl⟩, ⟨_, rfl⟩, ⟨_, rfl⟩, ⟨_, rfl⟩, ⟨_, rfl⟩⟩
  · refine ⟨by omega, fun i _ => ⟨0, by omega, rfl⟩, ⟨0, 0, 0, ?_, Or.inl rfl⟩, fun i _ hz => absurd hz (show ¬ (0 : Int32) = 1 by decide)⟩
    refine ⟨rfl, rfl, rfl, by omega, ⟨0, by omega, rfl⟩, Or.inl ⟨rfl, rfl, rfl⟩, ⟨0, rfl, Or.inr ⟨rfl, rfl⟩⟩, ⟨0, rfl, by decide⟩, ⟨0, rfl, by decide⟩, fun k hk => ⟨0, by omega, ?_⟩, fun k hk => absurd hk (by omega), fun r i hr => absurd hr (by omega), fun r i hr hi => ⟨0, by omega, ?_, Or.inl rfl, fun z => absurd z (by omega)⟩⟩
    · simp only [upd]; rw [if_neg (by omega)]; rfl
    · simp only [upd]; rw [if_neg (by omega)]; rfl
  · intro i p hi hb
    cases hb
