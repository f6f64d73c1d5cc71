/-! APART: rows that never bring two together, counted on and counted back -/
theorem sm_add (f : Nat → Nat) (a : Nat) : ∀ b, sm f (a + b) = sm f a + sm (fun i => f (a + i)) b
  | 0 => rfl
  | b + 1 => by rw [← Nat.add_assoc, sm, sm, sm_add f a b]; omega
theorem sm_zero {f : Nat → Nat} : ∀ n, (∀ i, i < n → f i = 0) → sm f n = 0
  | 0, _ => rfl
  | n + 1, h => by rw [sm, sm_zero n (fun i hi => h i (by omega)), h n (by omega)]
theorem sm_trunc {f : Nat → Nat} {n m : Nat} (h : n ≤ m) (hz : ∀ i, n ≤ i → i < m → f i = 0) : sm f m = sm f n := by
  obtain ⟨d, rfl⟩ : ∃ d, m = n + d := ⟨m - n, by omega⟩
  rw [sm_add, sm_zero d (fun i _ => hz _ (by omega) (by omega)), Nat.add_zero]
theorem sm_two (f : Nat → Nat) : ∀ m, sm f (m * 14) = sm (fun r => sm (fun s => f (r * 14 + s)) 14) m
  | 0 => by rw [Nat.zero_mul]; rfl
  | m + 1 => by rw [Nat.add_mul, Nat.one_mul, sm_add, sm_two f m]; rfl
/-- only pairs of rooms -/
abbrev On (n : Nat) (f : Nat → Nat) : Prop := ∀ p, ¬ (p / 14 < n ∧ p % 14 < n) → f p = 0
abbrev s2m (n : Nat) (f : Nat → Nat) : Nat := sm (fun r => sm (fun s => f (r * 14 + s)) n) n
theorem sm_on {n : Nat} {f : Nat → Nat} (hn : n ≤ 14) (h : On n f) : sm f 196 = s2m n f := by
  rw [show 196 = 14 * 14 from rfl, sm_two f 14, sm_trunc hn (fun r hr _ => sm_zero 14 (fun s hs => h _ (by omega)))]
  exact sm_cg n (fun r hr => sm_trunc hn (fun s hs hs2 => h _ (by omega)))
/-- counted on: what comes from one pair by the tones below t, from the pairs below s, from the rooms below r -/
def ftA (N Q : Nat → Nat) (r s : Nat) (F : Nat → Nat) : Nat → Nat → Nat
  | 0 => F
  | t + 1 => if pl N r t = pl N s t then ftA N Q r s F t else un (ftA N Q r s F t) (pl N r t * 14 + pl N s t) (ftA N Q r s F t (pl N r t * 14 + pl N s t) + Q (r * 14 + s))
def fsA (N Q : Nat → Nat) (r : Nat) (F : Nat → Nat) : Nat → Nat → Nat
  | 0 => F
  | s + 1 => ftA N Q r s (fsA N Q r F s) (N 1)
def frA (N Q : Nat → Nat) : Nat → Nat → Nat
  | 0 => fun _ => 0
  | r + 1 => fsA N Q r (frA N Q r) (N 0)
def fA (N : Nat → Nat) (a : Nat) : Nat → Nat → Nat
  | 0 => fun p => if p = a then 1 else 0
  | k + 1 => frA N (fA N a k) (N 0)
/-- counted back -/
def wsA (N W : Nat → Nat) (r s : Nat) : Nat → Nat
  | 0 => 0
  | t + 1 => if pl N r t = pl N s t then wsA N W r s t else wsA N W r s t + W (pl N r t * 14 + pl N s t)
def wA (N : Nat → Nat) : Nat → Nat → Nat
  | 0 => fun _ => 1
  | k + 1 => fun p => wsA N (wA N k) (p / 14) (p % 14) (N 1)
theorem ft_sum {N Q F W : Nat → Nat} {r s : Nat} (hN : HN N) (hr : r < N 0) (hs : s < N 0) : ∀ t, t ≤ N 1 → sm (fun p => ftA N Q r s F t p * W p) 196 = sm (fun p => F p * W p) 196 + Q (r * 14 + s) * wsA N W r s t
  | 0, _ => by rw [ftA, wsA, Nat.mul_zero, Nat.add_zero]
  | t + 1, ht => by
    have ih := ft_sum (Q := Q) (F := F) (W := W) hN hr hs t (by omega)
    have hn := hN.n
    have h1 := hN.xpl hr (show t < N 1 by omega)
    have h2 := hN.xpl hs (show t < N 1 by omega)
    rw [ftA, wsA]
    by_cases e : pl N r t = pl N s t
    · rw [if_pos e, if_pos e, ih]
    · rw [if_neg e, if_neg e, sm_un 196 (by omega), ih, Nat.mul_add, Nat.add_assoc]
theorem fs_sumA {N Q F W : Nat → Nat} {r : Nat} (hN : HN N) (hr : r < N 0) : ∀ s, s ≤ N 0 → sm (fun p => fsA N Q r F s p * W p) 196 = sm (fun p => F p * W p) 196 + sm (fun s => Q (r * 14 + s) * wsA N W r s (N 1)) s
  | 0, _ => by rw [fsA, sm, Nat.add_zero]
  | s + 1, hs => by
    rw [fsA, ft_sum hN hr (by omega) (N 1) (Nat.le_refl _), fs_sumA hN hr s (by omega), Nat.add_assoc]
    rfl
theorem fr_sum {N Q W : Nat → Nat} (hN : HN N) : ∀ r, r ≤ N 0 → sm (fun p => frA N Q r p * W p) 196 = sm (fun r => sm (fun s => Q (r * 14 + s) * wsA N W r s (N 1)) (N 0)) r
  | 0, _ => sm_z W 196
  | r + 1, hr => by
    rw [frA, fs_sumA hN (by omega) (N 0) (Nat.le_refl _), fr_sum hN r (by omega), sm]
theorem ft_on {N Q F : Nat → Nat} {r s : Nat} (hN : HN N) (hr : r < N 0) (hs : s < N 0) (hF : On (N 0) F) : ∀ t, t ≤ N 1 → On (N 0) (ftA N Q r s F t)
  | 0, _ => hF
  | t + 1, ht => by
    have ih := ft_on (Q := Q) hN hr hs hF t (by omega)
    have hn := hN.n
    have h1 := hN.xpl hr (show t < N 1 by omega)
    have h2 := hN.xpl hs (show t < N 1 by omega)
    intro p hp
    rw [ftA]
    by_cases e : pl N r t = pl N s t
    · rw [if_pos e]; exact ih p hp
    · rw [if_neg e, un_n (by intro z; subst z; exact hp ⟨by omega, by omega⟩)]
      exact ih p hp
theorem fs_on {N Q F : Nat → Nat} {r : Nat} (hN : HN N) (hr : r < N 0) (hF : On (N 0) F) : ∀ s, s ≤ N 0 → On (N 0) (fsA N Q r F s)
  | 0, _ => hF
  | s + 1, hs => ft_on hN hr (by omega) (fs_on hN hr hF s (by omega)) (N 1) (Nat.le_refl _)
theorem fr_on {N Q : Nat → Nat} (hN : HN N) : ∀ r, r ≤ N 0 → On (N 0) (frA N Q r)
  | 0, _ => fun _ _ => rfl
  | r + 1, hr => fs_on hN (by omega) (fr_on hN r (by omega)) (N 0) (Nat.le_refl _)
theorem fA_on {N : Nat → Nat} {a : Nat} (hN : HN N) (ha : a / 14 < N 0 ∧ a % 14 < N 0) : ∀ k, On (N 0) (fA N a k)
  | 0 => fun p hp => if_neg (fun z : p = a => by subst z; exact hp ha)
  | k + 1 => fr_on hN (N 0) (Nat.le_refl _)
theorem fwA {N : Nat → Nat} {a L : Nat} (hN : HN N) (ha : a / 14 < N 0 ∧ a % 14 < N 0) : ∀ k, k ≤ L → sm (fun p => fA N a k p * wA N (L - k) p) 196 = wA N L a
  | 0, _ => by
    have hn := hN.n
    exact (sm_one (P := wA N L) (a := a) 196).2 (by omega)
  | k + 1, hk => by
    rw [← fwA hN ha k (by omega), fA, fr_sum hN (N 0) (Nat.le_refl _), sm_on hN.n (fun p hp => by rw [fA_on hN ha k p hp, Nat.zero_mul])]
    have hn := hN.n
    refine sm_cg (N 0) (fun r hr => sm_cg (N 0) (fun s hs => ?_))
    have e : L - k = (L - (k + 1)) + 1 := by omega
    rw [e]
    show fA N a k (r * 14 + s) * wsA N (wA N (L - (k + 1))) r s (N 1) = fA N a k (r * 14 + s) * wsA N (wA N (L - (k + 1))) ((r * 14 + s) / 14) ((r * 14 + s) % 14) (N 1)
    rw [show (r * 14 + s) / 14 = r by omega, show (r * 14 + s) % 14 = s by omega]
/-- in all: as many counted on as counted back -/
theorem fA_wA {N : Nat → Nat} {a L : Nat} (hN : HN N) (ha : a / 14 < N 0 ∧ a % 14 < N 0) : sm (fA N a L) 196 = wA N L a := by
  rw [← fwA hN ha L (Nat.le_refl _), Nat.sub_self]
  exact sm_cg 196 (fun p _ => (Nat.mul_one _).symm)
/-- by the great number -/
abbrev MP : Nat := 1000000007
theorem mp_skip {x q : Nat} (h : q % MP = 0) : (x + q) % MP = x % MP := by
  rw [Nat.add_mod, h, Nat.add_zero, Nat.mod_mod]
theorem mp_add (x q : Nat) : (x % MP + q % MP) % MP = (x + q) % MP := (Nat.add_mod x q MP).symm
