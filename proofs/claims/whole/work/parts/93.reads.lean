/-! HOUSE: what a text tells -/
theorem updS {A : Nat → Int32} {i : Nat} {x : Int32} : upd A i x i = x := if_pos rfl
theorem updE {A : Nat → Int32} {i q : Nat} {x : Int32} (h : q ≠ i) : upd A i x q = A q := if_neg h
def RR : Type := Nat × Nat × (Nat → Int32) × Nat
def RR.k (r : RR) : Nat := r.1
def RR.pl (r : RR) : Nat := r.2.1
def RR.c (r : RR) : Nat → Int32 := r.2.2.1
def RR.q (r : RR) : Nat := r.2.2.2
def okR (c : Nat → Int32) (q : Nat) : RR := (0, 0, c, q)
def fR (k pl : Nat) : RR := (k, pl, fun _ => 0, 0)
def c3 (c : Nat → Int32) (d x : Nat) : Nat → Int32 := upd (upd (upd c (2 + d) (nI x)) (86 + d) (-1)) (170 + d) 0
def c2 (c : Nat → Int32) (d x y : Nat) : Nat → Int32 := upd (upd c (86 + d) (nI x)) (170 + d) (nI y)
def cw (c : Nat → Int32) (w x : Nat) : Nat → Int32 := upd (upd c (272 + w) (nI x)) 271 (nI (w + 1))
section RD
variable (b : Nat → Nat) (n : Nat)
def num (lo hi q : Nat) (g : Nat → Nat → RR) : RR := if nf b n lo hi q = 0 then g (tv b n q) (te b n q) else fR (nf b n lo hi q) (ts b n q)
def leadL (N r : Nat) : Nat → Nat → (Nat → Int32) → Nat → RR
  | 0, _, c, q => okR c q
  | m + 1, i, c, q => num b n 0 (N - 1) q (fun x q' => leadL N r m (i + 1) (c3 c (6 * r + i) x) q')
def lnN (N t w k : Nat) (c : Nat → Int32) (q : Nat) : RR :=
  if k = 0 then num b n 2 14 q (fun x q => okR (upd c 0 (nI x)) q)
  else if k = 1 then num b n 1 6 q (fun x q => okR (upd c 1 (nI x)) q)
  else if k = 2 then num b n 0 (N - 1) q (fun r q => leadL b n N r t 0 c q)
  else if k = 3 then num b n 0 (N - 1) q (fun r q => num b n 0 (t - 1) q (fun i q => num b n 0 (N - 1) q (fun x q' => if c (2 + (6 * r + i)) = nI x then fR 3 (ts b n q) else num b n 1 99 q' (fun y q'' => okR (c2 c (6 * r + i) x y) q''))))
  else if k = 4 then num b n 0 (N - 1) q (fun r q => num b n 0 (t - 1) q (fun i q => okR (c3 c (6 * r + i) r) q))
  else if k = 7 then num b n 0 (N - 1) q (fun r q => num b n 0 9 q (fun s q => okR (upd c (254 + r) (nI s)) q))
  else num b n 0 (N - 1) q (fun r q => okR (if k = 5 then upd c 268 (c 268 ||| nI (2 ^ r)) else if k = 6 then upd c 269 (c 269 ||| nI (2 ^ r)) else if k = 8 then upd c 270 (nI r) else cw c w r) q)
def lnF (N t w k : Nat) : Nat := if 10 ≤ k then 2 else if k = 0 then (if 0 < N then 4 else 0) else if k = 1 ∧ 0 < N then (if 0 < t then 4 else 0) else if N = 0 ∨ t = 0 then 2 else if k = 9 ∧ 8 ≤ w then 4 else 0
/-- behind the numbers -/
def semi (c : Nat → Int32) (q : Nat) : RR := if tkd b n q = 12 then okR (upd c 280 (c 280 + 1)) (te b n q) else fR (if tkd b n q = 14 then 1 else 2) (ts b n q)
def RR.bd (r : RR) (g : (Nat → Int32) → Nat → RR) : RR := if r.k = 0 then g r.c r.q else r
/-- the line at q; f: its fault -/
def lnL (N t w : Nat) (c : Nat → Int32) (q : Nat) : RR :=
  if 10 < tkd b n q then fR (if tkd b n q = 14 then 1 else 2) (ts b n q)
  else if ¬ lnF N t w (tkd b n q) = 0 then fR (lnF N t w (tkd b n q)) (ts b n q)
  else (lnN b n N t w (tkd b n q) c (te b n q)).bd (semi b n)
def nn (c : Nat → Int32) (i : Nat) : Nat := (c i).toNatClampNeg
def rdL : Nat → (Nat → Int32) → Nat → RR
  | 0, c, q => okR c q
  | d + 1, c, q => if tkd b n q = 13 then (if 0 < nn c 0 ∧ nn c 1 = 0 then fR 2 n else okR c q) else (lnL b n (nn c 0) (nn c 1) (nn c 271) c q).bd (rdL d)
end RD
theorem num_y {b : Nat → Nat} {n lo hi q : Nat} {g : Nat → Nat → RR} (h : nf b n lo hi q = 0) : num b n lo hi q g = g (tv b n q) (te b n q) := if_pos h
theorem num_n {b : Nat → Nat} {n lo hi q : Nat} {g : Nat → Nat → RR} (h : ¬ nf b n lo hi q = 0) : num b n lo hi q g = fR (nf b n lo hi q) (ts b n q) := if_neg h
theorem nf_le {b : Nat → Nat} {n lo hi q : Nat} : nf b n lo hi q ≤ 3 := by
  unfold nf
  split
  · omega
  · split
    · omega
    · split <;> omega
/-- the house as it is cleared -/
def clr (q : Nat) : Int32 := if 2 ≤ q ∧ q < 86 then nI ((q - 2) / 6) else if 86 ≤ q ∧ q < 170 then -1 else 0
theorem HV.mk2 {A A1 : Nat → Int32} {n t w w1 : Nat} (h0 : A1 0 = nI n) (h1 : A1 1 = nI t) (hn : 2 ≤ n) (hn2 : n ≤ 14) (ht : 1 ≤ t) (ht2 : t ≤ 6) (hw : A1 271 = nI w1) (hw1 : w1 ≤ 8) (hl : ∃ l, l ≤ 600 ∧ A1 280 = nI l) (hp : ∃ p, p < n ∧ A1 270 = nI p) (hb : ∃ b, A1 268 = nI b ∧ b < 2 ^ n) (hb2 : ∃ b, A1 269 = nI b ∧ b < 2 ^ n) (hs : ∀ k, k < 14 → ∃ g, g < 10 ∧ A1 (254 + k) = nI g) (hwt : ∀ k, k < w1 → ∃ r, r < n ∧ A1 (272 + k) = nI r) (hy : ∀ r i, r < n → i < t → ∃ q, q < n ∧ A1 (2 + (6 * r + i)) = nI q) (hc : ∀ r i, r < 14 → i < 6 → ∃ c, c < 100 ∧ A1 (170 + (6 * r + i)) = nI c ∧ (c = 0 ↔ A1 (86 + (6 * r + i)) = -1) ∧ (0 < c → r < n ∧ i < t ∧ ∃ q, q < n ∧ A1 (86 + (6 * r + i)) = nI q)) : HV A1 0 n t w1 := by
  obtain ⟨p, hp1, hp2⟩ := hp
  refine ⟨h0, h1, hw, hw1, hl, Or.inr ⟨hn, hn2, ht, ht2⟩, ⟨p, hp2, Or.inl hp1⟩, hb, hb2, ?_, ?_, ?_, ?_⟩
  · exact fun k hk => by rw [show 0 + 254 + k = 254 + k by omega]; exact hs k hk
  · exact fun k hk => by rw [show 0 + 272 + k = 272 + k by omega]; exact hwt k hk
  · exact fun r i hr hi => by rw [show 0 + 2 + (6 * r + i) = 2 + (6 * r + i) by omega]; exact hy r i hr hi
  · intro r i hr hi
    rw [show 0 + 170 + (6 * r + i) = 170 + (6 * r + i) by omega, show 0 + 86 + (6 * r + i) = 86 + (6 * r + i) by omega]
    obtain ⟨c, a1, a2, a3, a4⟩ := hc r i hr hi
    exact ⟨c, a1, a2, Or.inr a3, a4⟩
/-- the parts of a house that is told -/
def HP (A : Nat → Int32) (n t w : Nat) : Prop :=
  (A 0 = nI n) ∧ (A 1 = nI t) ∧ (2 ≤ n) ∧ (n ≤ 14) ∧ (1 ≤ t) ∧ (t ≤ 6) ∧ (A 271 = nI w) ∧ (w ≤ 8) ∧ (∃ p, p < n ∧ A 270 = nI p) ∧ (∃ b, A 268 = nI b ∧ b < 2 ^ n) ∧ (∃ b, A 269 = nI b ∧ b < 2 ^ n) ∧ (∀ k, k < 14 → ∃ g, g < 10 ∧ A (254 + k) = nI g) ∧ (∀ k, k < w → ∃ r, r < n ∧ A (272 + k) = nI r) ∧ (∀ r i, r < n → i < t → ∃ q, q < n ∧ A (2 + (6 * r + i)) = nI q) ∧ (∀ r i, r < 14 → i < 6 → ∃ c, c < 100 ∧ A (170 + (6 * r + i)) = nI c ∧ (c = 0 ↔ A (86 + (6 * r + i)) = -1) ∧ (0 < c → r < n ∧ i < t ∧ ∃ q, q < n ∧ A (86 + (6 * r + i)) = nI q))
theorem HP.h0 {A : Nat → Int32} {n t w : Nat} (H : HP A n t w) : A 0 = nI n := H.1
theorem HP.h1 {A : Nat → Int32} {n t w : Nat} (H : HP A n t w) : A 1 = nI t := H.2.1
theorem HP.hn {A : Nat → Int32} {n t w : Nat} (H : HP A n t w) : 2 ≤ n := H.2.2.1
theorem HP.hn2 {A : Nat → Int32} {n t w : Nat} (H : HP A n t w) : n ≤ 14 := H.2.2.2.1
theorem HP.ht {A : Nat → Int32} {n t w : Nat} (H : HP A n t w) : 1 ≤ t := H.2.2.2.2.1
theorem HP.ht2 {A : Nat → Int32} {n t w : Nat} (H : HP A n t w) : t ≤ 6 := H.2.2.2.2.2.1
theorem HP.hw {A : Nat → Int32} {n t w : Nat} (H : HP A n t w) : A 271 = nI w := H.2.2.2.2.2.2.1
theorem HP.hw1 {A : Nat → Int32} {n t w : Nat} (H : HP A n t w) : w ≤ 8 := H.2.2.2.2.2.2.2.1
theorem HP.hp {A : Nat → Int32} {n t w : Nat} (H : HP A n t w) : ∃ p, p < n ∧ A 270 = nI p := H.2.2.2.2.2.2.2.2.1
theorem HP.hb {A : Nat → Int32} {n t w : Nat} (H : HP A n t w) : ∃ b, A 268 = nI b ∧ b < 2 ^ n := H.2.2.2.2.2.2.2.2.2.1
theorem HP.hb2 {A : Nat → Int32} {n t w : Nat} (H : HP A n t w) : ∃ b, A 269 = nI b ∧ b < 2 ^ n := H.2.2.2.2.2.2.2.2.2.2.1
theorem HP.hs {A : Nat → Int32} {n t w : Nat} (H : HP A n t w) : ∀ k, k < 14 → ∃ g, g < 10 ∧ A (254 + k) = nI g := H.2.2.2.2.2.2.2.2.2.2.2.1
theorem HP.hwt {A : Nat → Int32} {n t w : Nat} (H : HP A n t w) : ∀ k, k < w → ∃ r, r < n ∧ A (272 + k) = nI r := H.2.2.2.2.2.2.2.2.2.2.2.2.1
theorem HP.hy {A : Nat → Int32} {n t w : Nat} (H : HP A n t w) : ∀ r i, r < n → i < t → ∃ q, q < n ∧ A (2 + (6 * r + i)) = nI q := H.2.2.2.2.2.2.2.2.2.2.2.2.2.1
theorem HP.hc {A : Nat → Int32} {n t w : Nat} (H : HP A n t w) : ∀ r i, r < 14 → i < 6 → ∃ c, c < 100 ∧ A (170 + (6 * r + i)) = nI c ∧ (c = 0 ↔ A (86 + (6 * r + i)) = -1) ∧ (0 < c → r < n ∧ i < t ∧ ∃ q, q < n ∧ A (86 + (6 * r + i)) = nI q) := H.2.2.2.2.2.2.2.2.2.2.2.2.2.2
theorem HP.hv {A : Nat → Int32} {n t w l : Nat} (H : HP A n t w) (hl : A 280 = nI l) (h6 : l ≤ 600) : HV A 0 n t w :=
  HV.mk2 (A := A) (w := w) H.h0 H.h1 H.hn H.hn2 H.ht H.ht2 H.hw H.hw1 ⟨l, h6, hl⟩ H.hp H.hb H.hb2 H.hs H.hwt H.hy H.hc
/-- one place behind the ways is changed -/
theorem HP.one {A : Nat → Int32} {n t w q : Nat} {x : Int32} (H : HP A n t w) (hq : 254 ≤ q) (hq2 : q < 271 ∨ q = 280) (h1 : q < 268 → ∃ g, g < 10 ∧ x = nI g) (h2 : q = 268 ∨ q = 269 → ∃ b, x = nI b ∧ b < 2 ^ n) (h3 : q = 270 → ∃ p, p < n ∧ x = nI p) : HP (upd A q x) n t w := by
  have hn2 := H.hn2
  have ht2 := H.ht2
  have hw1 := H.hw1
  refine ⟨?_, ?_, H.hn, H.hn2, H.ht, H.ht2, ?_, H.hw1, ?_, ?_, ?_, fun k hk => ?_, fun k hk => ?_, fun r i hr hi => ?_, fun r i hr hi => ?_⟩
  · rw [updE (by omega)]; exact H.h0
  · rw [updE (by omega)]; exact H.h1
  · rw [updE (by clear h1 h2 h3; omega)]; exact H.hw
  · by_cases z : q = 270
    · subst z; rw [updS]; exact h3 rfl
    · rw [updE (Ne.symm z)]; exact H.hp
  · by_cases z : q = 268
    · subst z; rw [updS]; exact h2 (Or.inl rfl)
    · rw [updE (Ne.symm z)]; exact H.hb
  · by_cases z : q = 269
    · subst z; rw [updS]; exact h2 (Or.inr rfl)
    · rw [updE (Ne.symm z)]; exact H.hb2
  · by_cases z : q = 254 + k
    · rw [z, updS]; exact h1 (by omega)
    · rw [updE (Ne.symm z)]; exact H.hs k hk
  · rw [updE (by clear h1 h2 h3; omega)]; exact H.hwt k hk
  · rw [updE (by omega)]; exact H.hy r i hr hi
  · rw [updE (by omega), updE (by omega)]; exact H.hc r i hr hi
theorem HP.lead {A : Nat → Int32} {n t w r i x : Nat} (H : HP A n t w) (hr : r < n) (hi : i < t) (hx : x < n) : HP (c3 A (6 * r + i) x) n t w := by
  have hn2 := H.hn2
  have ht2 := H.ht2
  have hw1 := H.hw1
  have e : ∀ q, q ≠ 2 + (6 * r + i) → q ≠ 86 + (6 * r + i) → q ≠ 170 + (6 * r + i) → c3 A (6 * r + i) x q = A q := fun q a c d => by rw [c3, updE d, updE c, updE a]
  refine ⟨?_, ?_, H.hn, H.hn2, H.ht, H.ht2, ?_, H.hw1, ?_, ?_, ?_, fun k hk => ?_, fun k hk => ?_, fun r' i' hr' hi' => ?_, fun r' i' hr' hi' => ?_⟩
  · rw [e 0 (by omega) (by omega) (by omega)]; exact H.h0
  · rw [e 1 (by omega) (by omega) (by omega)]; exact H.h1
  · rw [e 271 (by omega) (by omega) (by omega)]; exact H.hw
  · rw [e 270 (by omega) (by omega) (by omega)]; exact H.hp
  · rw [e 268 (by omega) (by omega) (by omega)]; exact H.hb
  · rw [e 269 (by omega) (by omega) (by omega)]; exact H.hb2
  · rw [e (254 + k) (by omega) (by omega) (by omega)]; exact H.hs k hk
  · rw [e (272 + k) (by omega) (by omega) (by omega)]; exact H.hwt k hk
  · by_cases z : 6 * r' + i' = 6 * r + i
    · rw [z]
      exact ⟨x, hx, by rw [c3, updE (by omega), updE (by omega), updS]⟩
    · rw [e (2 + (6 * r' + i')) (by omega) (by omega) (by omega)]; exact H.hy r' i' hr' hi'
  · by_cases z : 6 * r' + i' = 6 * r + i
    · rw [z]
      refine ⟨0, by omega, by rw [c3, updS]; rfl, ?_, fun y => absurd y (by omega)⟩
      rw [c3, updE (by omega), updS]
      exact ⟨fun _ => rfl, fun _ => rfl⟩
    · rw [e (170 + (6 * r' + i')) (by omega) (by omega) (by omega), e (86 + (6 * r' + i')) (by omega) (by omega) (by omega)]; exact H.hc r' i' hr' hi'
theorem HP.chance {A : Nat → Int32} {n t w r i x y : Nat} (H : HP A n t w) (hr : r < n) (hi : i < t) (hx : x < n) (hy : 1 ≤ y) (hy2 : y ≤ 99) : HP (c2 A (6 * r + i) x y) n t w := by
  have hn2 := H.hn2
  have ht2 := H.ht2
  have hw1 := H.hw1
  have e : ∀ q, q ≠ 86 + (6 * r + i) → q ≠ 170 + (6 * r + i) → c2 A (6 * r + i) x y q = A q := fun q c d => by rw [c2, updE d, updE c]
  refine ⟨?_, ?_, H.hn, H.hn2, H.ht, H.ht2, ?_, H.hw1, ?_, ?_, ?_, fun k hk => ?_, fun k hk => ?_, fun r' i' hr' hi' => ?_, fun r' i' hr' hi' => ?_⟩
  · rw [e 0 (by omega) (by omega)]; exact H.h0
  · rw [e 1 (by omega) (by omega)]; exact H.h1
  · rw [e 271 (by omega) (by omega)]; exact H.hw
  · rw [e 270 (by omega) (by omega)]; exact H.hp
  · rw [e 268 (by omega) (by omega)]; exact H.hb
  · rw [e 269 (by omega) (by omega)]; exact H.hb2
  · rw [e (254 + k) (by omega) (by omega)]; exact H.hs k hk
  · rw [e (272 + k) (by omega) (by omega)]; exact H.hwt k hk
  · rw [e (2 + (6 * r' + i')) (by omega) (by omega)]; exact H.hy r' i' hr' hi'
  · by_cases z : 6 * r' + i' = 6 * r + i
    · rw [z]
      refine ⟨y, by omega, by rw [c2, updS], ?_, fun _ => ⟨by omega, by omega, x, hx, by rw [c2, updE (by omega), updS]⟩⟩
      rw [c2, updE (by omega), updS]
      exact ⟨fun q => by omega, fun q => absurd q (nI_m1 (by omega))⟩
    · rw [e (170 + (6 * r' + i')) (by omega) (by omega), e (86 + (6 * r' + i')) (by omega) (by omega)]; exact H.hc r' i' hr' hi'
theorem HP.waiter {A : Nat → Int32} {n t w x : Nat} (H : HP A n t w) (hw : w < 8) (hx : x < n) : HP (cw A w x) n t (w + 1) := by
  have hn2 := H.hn2
  have ht2 := H.ht2
  have e : ∀ q, q ≠ 272 + w → q ≠ 271 → cw A w x q = A q := fun q c d => by rw [cw, updE d, updE c]
  refine ⟨?_, ?_, H.hn, H.hn2, H.ht, H.ht2, ?_, by omega, ?_, ?_, ?_, fun k hk => ?_, fun k hk => ?_, fun r' i' hr' hi' => ?_, fun r' i' hr' hi' => ?_⟩
  · rw [e 0 (by omega) (by omega)]; exact H.h0
  · rw [e 1 (by omega) (by omega)]; exact H.h1
  · rw [cw, updS]
  · rw [e 270 (by omega) (by omega)]; exact H.hp
  · rw [e 268 (by omega) (by omega)]; exact H.hb
  · rw [e 269 (by omega) (by omega)]; exact H.hb2
  · rw [e (254 + k) (by omega) (by omega)]; exact H.hs k hk
  · by_cases z : k = w
    · subst z
      exact ⟨x, hx, by rw [cw, updE (by omega), updS]⟩
    · rw [e (272 + k) (by omega) (by omega)]; exact H.hwt k (by omega)
  · rw [e (2 + (6 * r' + i')) (by omega) (by omega)]; exact H.hy r' i' hr' hi'
  · rw [e (170 + (6 * r' + i')) (by omega) (by omega), e (86 + (6 * r' + i')) (by omega) (by omega)]; exact H.hc r' i' hr' hi'
/-- what is told so far: n rooms, t tones, w waiters, l lines -/
def VC (c : Nat → Int32) (n t w l : Nat) : Prop := c 0 = nI n ∧ c 1 = nI t ∧ c 271 = nI w ∧ c 280 = nI l ∧ w ≤ 8 ∧ n ≤ 14 ∧ t ≤ 6 ∧ ((t = 0 ∧ (n = 0 ∨ 2 ≤ n) ∧ ∀ q, 2 ≤ q → q < 280 → c q = clr q) ∨ HP c n t w)
theorem VC.tone {c : Nat → Int32} {n t w l x : Nat} (H : VC c n t w l) (ht : t = 0) (hn : 0 < n) (hx : 1 ≤ x) (hx2 : x ≤ 6) : VC (upd c 1 (nI x)) n x 0 l := by
  obtain ⟨a0, a1, a2, a3, a4, a5, a6, a7⟩ := H
  rcases a7 with ⟨-, h2, hq⟩ | hp
  · have hw : c 271 = nI 0 := (hq 271 (by omega) (by omega)).trans rfl
    have e : ∀ q, 2 ≤ q → q < 280 → upd c 1 (nI x) q = clr q := fun q a d => by rw [updE (by omega)]; exact hq q a d
    have p2 : 0 < 2 ^ n := Nat.pow_pos (by decide)
    refine ⟨by rw [updE (by omega)]; exact a0, updS, by rw [updE (by omega)]; exact hw, by rw [updE (by omega)]; exact a3, by omega, a5, hx2, Or.inr ⟨by rw [updE (by omega)]; exact a0, updS, by omega, a5, hx, hx2, by rw [updE (by omega)]; exact hw, by omega, ⟨0, hn, e 270 (by omega) (by omega)⟩, ⟨0, e 268 (by omega) (by omega), p2⟩, ⟨0, e 269 (by omega) (by omega), p2⟩, fun k hk => ⟨0, by omega, ?_⟩, fun k hk => absurd hk (by omega), fun r i hr hi => ⟨r, hr, ?_⟩, fun r i hr hi => ⟨0, by omega, ?_, ?_, fun y => absurd y (by omega)⟩⟩⟩
    · rw [e _ (by omega) (by omega), clr, if_neg (by omega), if_neg (by omega)]; rfl
    · rw [e _ (by omega) (by omega), clr, if_pos (by omega), show (2 + (6 * r + i) - 2) / 6 = r by omega]
    · rw [e _ (by omega) (by omega), clr, if_neg (by omega), if_neg (by omega)]; rfl
    · rw [e _ (by omega) (by omega), clr, if_neg (by omega), if_pos (by omega)]
      exact ⟨fun _ => rfl, fun _ => rfl⟩
  · have := hp.ht; omega
theorem VC.hp {c : Nat → Int32} {n t w l : Nat} (H : VC c n t w l) (ht : 0 < t) : HP c n t w := by
  obtain ⟨a0, a1, a2, a3, a4, a5, a6, a7⟩ := H
  rcases a7 with ⟨h, -⟩ | hp
  · omega
  · exact hp
theorem VC.of {c : Nat → Int32} {n t w l : Nat} (hp : HP c n t w) (hl : c 280 = nI l) : VC c n t w l := ⟨hp.h0, hp.h1, hp.hw, hl, hp.hw1, hp.hn2, hp.ht2, Or.inr hp⟩
theorem nf_b {b : Nat → Nat} {n lo hi q : Nat} (h : nf b n lo hi q = 0) : lo ≤ tv b n q ∧ tv b n q ≤ hi := (nf_0.mp h).2
/-- a result that keeps what was told, at q or behind -/
def OKV (n l q : Nat) (r : RR) : Prop := r.k ≤ 4 ∧ (r.k = 0 → q ≤ r.q ∧ r.q ≤ n ∧ ∃ N t w, VC r.c N t w l)
theorem OKV.f {n l q k pl : Nat} (h : ¬ k = 0) (h4 : k ≤ 4) : OKV n l q (fR k pl) := ⟨h4, fun y => absurd y h⟩
theorem OKV.ok {n l q q1 : Nat} {c : Nat → Int32} {N t w : Nat} (h : q ≤ q1) (h2 : q1 ≤ n) (hv : VC c N t w l) : OKV n l q (okR c q1) := ⟨Nat.zero_le _, fun _ => ⟨h, h2, _, _, _, hv⟩⟩
theorem OKV.num {b : Nat → Nat} {n lo hi l q0 q : Nat} {g : Nat → Nat → RR} (hq : q ≤ n) (hq0 : q0 ≤ q) (h : nf b n lo hi q = 0 → lo ≤ tv b n q → tv b n q ≤ hi → te b n q ≤ n → q0 ≤ te b n q → OKV n l q0 (g (tv b n q) (te b n q))) : OKV n l q0 (num b n lo hi q g) := by
  obtain ⟨h1, h2, -⟩ := te_b (b := b) hq
  obtain ⟨h3, -⟩ := ts_b (b := b) hq
  by_cases z : nf b n lo hi q = 0
  · rw [num_y z]
    exact h z (nf_b z).1 (nf_b z).2 h2 (by omega)
  · rw [num_n z]
    have := nf_le (b := b) (n := n) (lo := lo) (hi := hi) (q := q)
    exact OKV.f z (by omega)
theorem or_b {n r : Nat} {x : Int32} (h : ∃ b, x = nI b ∧ b < 2 ^ n) (hr : r < n) : ∃ b, x ||| nI (2 ^ r) = nI b ∧ b < 2 ^ n := by
  obtain ⟨b, rfl, hb⟩ := h
  exact ⟨b ||| 2 ^ r, b_orU _ _, Nat.or_lt_two_pow hb (Nat.pow_lt_pow_right (by decide) hr)⟩
theorem c3_n {c : Nat → Int32} {d x q : Nat} (h : q < 2 ∨ 254 ≤ q) (hd : d < 84) : c3 c d x q = c q := by rw [c3, updE (by omega), updE (by omega), updE (by omega)]
theorem leadL_v {b : Nat → Nat} {n N t w r l q0 : Nat} (hr : r < N) : ∀ m i c q, i + m = t → q ≤ n → q0 ≤ q → HP c N t w → c 280 = nI l → OKV n l q0 (leadL b n N r m i c q)
  | 0, i, c, q, _, hq, hq0, hp, hl => OKV.ok hq0 hq (VC.of hp hl)
  | m + 1, i, c, q, hi, hq, hq0, hp, hl => by
    have := hp.hn2
    have := hp.ht2
    refine OKV.num hq hq0 (fun _ _ h2 h3 h4 => ?_)
    exact leadL_v hr m (i + 1) _ _ (by omega) h3 h4 (hp.lead hr (by omega) (by omega)) (by rw [c3_n (by omega) (by omega)]; exact hl)
theorem lnN_v {b : Nat → Nat} {n N t w k l q : Nat} {c : Nat → Int32} (hf : lnF N t w k = 0) (hq : q ≤ n) (hv : VC c N t w l) : OKV n l q (lnN b n N t w k c q) := by
  obtain ⟨a0, a1, a2, a3, a4, a5, a6, a7⟩ := id hv
  unfold lnF at hf
  unfold lnN
  have hk : ¬ 10 ≤ k := fun y => by rw [if_pos y] at hf; omega
  rw [if_neg hk] at hf
  by_cases k0 : k = 0
  · rw [if_pos k0] at hf ⊢
    have hN : N = 0 := by split at hf <;> omega
    refine OKV.num hq (Nat.le_refl _) (fun _ h1 h2 h3 h4 => OKV.ok h4 h3 (N := tv b n q) (t := t) (w := w) ?_)
    rcases a7 with ⟨ht, -, hc⟩ | hp
    · exact ⟨updS, by rw [updE (by omega)]; exact a1, by rw [updE (by omega)]; exact a2, by rw [updE (by omega)]; exact a3, a4, h2, a6, Or.inl ⟨ht, Or.inr h1, fun q' x y => by rw [updE (by omega)]; exact hc q' x y⟩⟩
    · have := hp.hn; omega
  rw [if_neg k0] at hf ⊢
  by_cases k1 : k = 1
  · rw [if_pos k1]
    have h : 0 < N ∧ t = 0 := by
      by_cases z : k = 1 ∧ 0 < N
      · rw [if_pos z] at hf
        split at hf
        · omega
        · exact ⟨z.2, by omega⟩
      · rw [if_neg z] at hf
        split at hf
        · omega
        · omega
    exact OKV.num hq (Nat.le_refl _) (fun _ h1 h2 h3 h4 => OKV.ok h4 h3 (hv.tone h.2 h.1 h1 h2))
  rw [if_neg k1]
  rw [if_neg (fun y => k1 y.1)] at hf
  have hnt : ¬ (N = 0 ∨ t = 0) := fun y => by rw [if_pos y] at hf; omega
  rw [if_neg hnt] at hf
  have hp := hv.hp (by omega)
  have hN := hp.hn
  by_cases k2 : k = 2
  · rw [if_pos k2]
    exact OKV.num hq (Nat.le_refl _) (fun _ h1 h2 h3 h4 => leadL_v (by omega) t 0 c _ (by omega) h3 h4 hp a3)
  rw [if_neg k2]
  by_cases k3 : k = 3
  · rw [if_pos k3]
    refine OKV.num hq (Nat.le_refl _) (fun _ h1 h2 h3 h4 => OKV.num h3 h4 (fun _ h5 h6 h7 h8 => OKV.num h7 h8 (fun _ h9 h10 h11 h12 => ?_)))
    split
    · exact OKV.f (by decide) (by decide)
    · refine OKV.num h11 h12 (fun _ h13 h14 h15 h16 => OKV.ok h16 h15 (VC.of (hp.chance (by omega) (by omega) (by omega) h13 h14) ?_))
      rw [c2, updE (by omega), updE (by omega)]
      exact a3
  rw [if_neg k3]
  by_cases k4 : k = 4
  · rw [if_pos k4]
    refine OKV.num hq (Nat.le_refl _) (fun _ h1 h2 h3 h4 => OKV.num h3 h4 (fun _ h5 h6 h7 h8 => OKV.ok h8 h7 (VC.of (hp.lead (by omega) (by omega) (by omega)) ?_)))
    rw [c3_n (by omega) (by omega)]
    exact a3
  rw [if_neg k4]
  by_cases k7 : k = 7
  · rw [if_pos k7]
    refine OKV.num hq (Nat.le_refl _) (fun _ h1 h2 h3 h4 => OKV.num h3 h4 (fun _ h5 h6 h7 h8 => OKV.ok h8 h7 (VC.of (hp.one (by omega) (by omega) (fun _ => ⟨_, by omega, rfl⟩) (fun y => by omega) (fun y => by omega)) ?_)))
    rw [updE (by omega)]
    exact a3
  rw [if_neg k7]
  refine OKV.num hq (Nat.le_refl _) (fun _ h1 h2 h3 h4 => ?_)
  by_cases k5 : k = 5
  · rw [if_pos k5]
    exact OKV.ok h4 h3 (VC.of (hp.one (by omega) (by omega) (fun y => by omega) (fun _ => or_b hp.hb (by omega)) (fun y => by omega)) (by rw [updE (by omega)]; exact a3))
  rw [if_neg k5]
  by_cases k6 : k = 6
  · rw [if_pos k6]
    exact OKV.ok h4 h3 (VC.of (hp.one (by omega) (by omega) (fun y => by omega) (fun _ => or_b hp.hb2 (by omega)) (fun y => by omega)) (by rw [updE (by omega)]; exact a3))
  rw [if_neg k6]
  by_cases k8 : k = 8
  · rw [if_pos k8]
    exact OKV.ok h4 h3 (VC.of (hp.one (by omega) (by omega) (fun y => by omega) (fun y => by omega) (fun _ => ⟨_, by omega, rfl⟩)) (by rw [updE (by omega)]; exact a3))
  rw [if_neg k8]
  have hw : ¬ (k = 9 ∧ 8 ≤ w) := fun y => by rw [if_pos y] at hf; omega
  exact OKV.ok h4 h3 (VC.of (hp.waiter (by omega) (by omega)) (by rw [cw, updE (by omega), updE (by omega)]; exact a3))
/-- one more line -/
theorem VC.line {c : Nat → Int32} {n t w l : Nat} (H : VC c n t w l) : VC (upd c 280 (c 280 + 1)) n t w (l + 1) := by
  obtain ⟨a0, a1, a2, a3, a4, a5, a6, a7⟩ := H
  refine ⟨by rw [updE (by omega)]; exact a0, by rw [updE (by omega)]; exact a1, by rw [updE (by omega)]; exact a2, by rw [updS, a3]; exact nI_add _ _, a4, a5, a6, ?_⟩
  rcases a7 with ⟨x, y, z⟩ | hp
  · exact Or.inl ⟨x, y, fun q i j => by rw [updE (by omega)]; exact z q i j⟩
  · exact Or.inr (hp.one (by omega) (by omega) (fun y => by omega) (fun y => by omega) (fun y => by omega))
theorem VC.nx {c : Nat → Int32} {n t w l : Nat} (H : VC c n t w l) : nn c 0 = n ∧ nn c 1 = t ∧ nn c 271 = w := by
  obtain ⟨a0, a1, a2, a3, a4, a5, a6, a7⟩ := H
  exact ⟨by rw [nn, a0, nI_clamp (by omega)], by rw [nn, a1, nI_clamp (by omega)], by rw [nn, a2, nI_clamp (by omega)]⟩
theorem lnL_v {b : Nat → Nat} {n N t w l q : Nat} {c : Nat → Int32} (hq : q ≤ n) (h13 : ¬ tkd b n q = 13) (hv : VC c N t w l) : (lnL b n N t w c q).k ≤ 4 ∧ ((lnL b n N t w c q).k = 0 → q + 1 ≤ (lnL b n N t w c q).q ∧ (lnL b n N t w c q).q ≤ n ∧ ∃ N1 t1 w1, VC (lnL b n N t w c q).c N1 t1 w1 (l + 1)) := by
  obtain ⟨h1, h2, h3⟩ := te_b (b := b) hq
  obtain ⟨h4, h5⟩ := ts_b (b := b) hq
  have h6 := h3 (by
    rcases Nat.lt_or_ge (ts b n q) n with z | z
    · exact z
    · exact absurd (tkd_13.mpr z) h13)
  unfold lnL
  by_cases hk : 10 < tkd b n q
  · rw [if_pos hk]
    exact ⟨by show (if _ then 1 else 2) ≤ 4; split <;> omega, fun y => absurd y (by show ¬ (if _ then 1 else 2) = 0; split <;> omega)⟩
  rw [if_neg hk]
  by_cases hf : lnF N t w (tkd b n q) = 0
  · rw [if_neg (fun y => y hf)]
    obtain ⟨o1, o2⟩ := lnN_v (b := b) hf h2 hv
    unfold RR.bd
    by_cases z : (lnN b n N t w (tkd b n q) c (te b n q)).k = 0
    · rw [if_pos z]
      obtain ⟨p1, p2, N1, t1, w1, p3⟩ := o2 z
      unfold semi
      by_cases s : tkd b n (lnN b n N t w (tkd b n q) c (te b n q)).q = 12
      · rw [if_pos s]
        obtain ⟨u1, u2, -⟩ := te_b (b := b) p2
        obtain ⟨u3, -⟩ := ts_b (b := b) p2
        exact ⟨Nat.zero_le _, fun _ => ⟨by show q + 1 ≤ te b n _; omega, u2, N1, t1, w1, p3.line⟩⟩
      · rw [if_neg s]
        exact ⟨by show (if _ then 1 else 2) ≤ 4; split <;> omega, fun y => absurd y (by show ¬ (if _ then 1 else 2) = 0; split <;> omega)⟩
    · rw [if_neg z]
      exact ⟨o1, fun y => absurd y z⟩
  · rw [if_pos hf]
    refine ⟨?_, fun y => absurd y hf⟩
    show lnF N t w (tkd b n q) ≤ 4
    unfold lnF
    repeat' split
    all_goals omega
