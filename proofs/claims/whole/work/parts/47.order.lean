/-! THE ORDER IN WHICH ALL COMES ABOUT: rows as numbers, pure -/
/-- earlier: by the one out of which, then by the tone -/
abbrev lx (a b c d : Nat) : Prop := a < c ∨ (a = c ∧ b < d)
/-- a row as a number -/
def rv (x : Nat → Nat) : Nat → Nat
  | 0 => 0
  | d + 1 => rv x d * 8 + x d
theorem rv_inj {x y : Nat → Nat} : ∀ d, (∀ i, i < d → x i < 8) → (∀ i, i < d → y i < 8) → rv x d = rv y d → ∀ i, i < d → x i = y i
  | 0, _, _, _, i, hi => absurd hi (by omega)
  | d + 1, hx, hy, e, i, hi => by
    have h1 := hx d (by omega)
    have h2 := hy d (by omega)
    rw [rv, rv] at e
    by_cases z : i = d
    · subst z; omega
    · exact rv_inj d (fun j hj => hx j (by omega)) (fun j hj => hy j (by omega)) (by omega) i (by omega)
theorem rv_cg {x y : Nat → Nat} : ∀ d, (∀ i, i < d → x i = y i) → rv x d = rv y d
  | 0, _ => rfl
  | d + 1, h => by rw [rv, rv, rv_cg d (fun i hi => h i (by omega)), h d (by omega)]
/-- where a row leads -/
def run (nx : Nat → Nat → Nat) (s : Nat) (x : Nat → Nat) : Nat → Nat
  | 0 => s
  | d + 1 => nx (run nx s x d) (x d)
theorem run_cg {nx : Nat → Nat → Nat} {s : Nat} {x y : Nat → Nat} : ∀ d, (∀ i, i < d → x i = y i) → run nx s x d = run nx s y d
  | 0, _ => rfl
  | d + 1, h => by rw [run, run, run_cg d (fun i hi => h i (by omega)), h d (by omega)]
theorem run_front {nx : Nat → Nat → Nat} {s : Nat} {x : Nat → Nat} : ∀ d, run nx s x (d + 1) = run nx (nx s (x 0)) (fun i => x (i + 1)) d
  | 0 => rfl
  | d + 1 => by rw [run, run_front d]; rfl
/-- in order, and all that was asked so far came about early enough -/
def BO (nx : Nat → Nat → Nat) (T k t : Nat) (B : Bf) : Prop :=
  (∀ i, 0 < i → i < B.m → lx (B.pa i) (B.to i) k t) ∧ (∀ i j, 0 < i → i < j → j < B.m → lx (B.pa i) (B.to i) (B.pa j) (B.to j)) ∧
  ∀ i s, i < B.m → s < T → lx i s k t → ∃ j, j < B.m ∧ B.st j = nx (B.st i) s ∧ (j = 0 ∨ B.pa j < i ∨ (B.pa j = i ∧ B.to j ≤ s))
theorem BO.zero {nx : Nat → Nat → Nat} {T x : Nat} : BO nx T 0 0 (bf0 x) := by
  refine ⟨fun i h0 hi => ?_, fun i j h0 hij hj => ?_, fun i s hi hs h => ?_⟩
  · have h1 : i < 1 := hi
    omega
  · have h1 : j < 1 := hj
    omega
  · rcases h with z | ⟨-, z⟩ <;> omega
theorem BO.step {nx : Nat → Nat → Nat} {T x k t : Nat} {ok : Nat → Bool} {B : Bf} (hok : ∀ y, ok y = true) (H : BO nx T k t B) (I : BI nx ok T x B) (hk : k < B.m) : BO nx T k (t + 1) (bfS nx ok k B t) := by
  rw [bfS, if_pos (hok _)]
  obtain ⟨h1, h2, h3⟩ := H
  have hold : ∀ i s, i < B.m → s < T → lx i s k (t + 1) → (i = k ∧ s = t) ∨ lx i s k t := fun i s _ _ h => by
    rcases h with z | ⟨z1, z2⟩
    · exact Or.inr (Or.inl z)
    · by_cases e : s = t
      · exact Or.inl ⟨z1, e⟩
      · exact Or.inr (Or.inr ⟨z1, by omega⟩)
  have hup : ∀ i, 0 < i → i < B.m → lx (B.pa i) (B.to i) k (t + 1) := fun i a b => by
    rcases h1 i a b with z | ⟨z1, z2⟩
    · exact Or.inl z
    · exact Or.inr ⟨z1, by omega⟩
  unfold bfA
  split
  · rename_i hm
    refine ⟨hup, h2, fun i s hi hs h => ?_⟩
    rcases hold i s hi hs h with ⟨rfl, rfl⟩ | z
    · obtain ⟨j, a, b⟩ := (mem_iff _).mp hm
      refine ⟨j, a, b, ?_⟩
      by_cases e : j = 0
      · exact Or.inl e
      · rcases h1 j (by omega) a with z | ⟨z1, z2⟩
        · exact Or.inr (Or.inl z)
        · exact Or.inr (Or.inr ⟨z1, by omega⟩)
    · exact h3 i s hi hs z
  · rename_i hm
    refine ⟨fun i a b => ?_, fun i j a b c => ?_, fun i s hi hs h => ?_⟩
    · have b' : i < B.m + 1 := b
      show lx (un B.pa B.m k i) (un B.to B.m t i) k (t + 1)
      by_cases e : i = B.m
      · rw [e, un_s, un_s]; exact Or.inr ⟨rfl, by omega⟩
      · rw [un_n e, un_n e]; exact hup i a (by omega)
    · have c' : j < B.m + 1 := c
      show lx (un B.pa B.m k i) (un B.to B.m t i) (un B.pa B.m k j) (un B.to B.m t j)
      rw [un_n (by omega), un_n (by omega)]
      by_cases e : j = B.m
      · rw [e, un_s, un_s]; exact h1 i a (by omega)
      · rw [un_n e, un_n e]; exact h2 i j a b (by omega)
    · have hi' : i < B.m + 1 := hi
      show ∃ j, j < B.m + 1 ∧ un B.st B.m (nx (B.st k) t) j = nx (un B.st B.m (nx (B.st k) t) i) s ∧ (j = 0 ∨ un B.pa B.m k j < i ∨ (un B.pa B.m k j = i ∧ un B.to B.m t j ≤ s))
      have him : i < B.m := by rcases h with z | ⟨z, -⟩ <;> omega
      rw [un_n (show i ≠ B.m by omega)]
      rcases hold i s him hs h with ⟨rfl, rfl⟩ | z
      · exact ⟨B.m, by omega, un_s _ _ _, Or.inr (Or.inr ⟨un_s _ _ _, by rw [un_s]; exact Nat.le_refl _⟩)⟩
      · obtain ⟨j, a, b, c⟩ := h3 i s him hs z
        refine ⟨j, by omega, ?_, ?_⟩
        · rw [un_n (by omega)]; exact b
        · rw [un_n (by omega), un_n (by omega)]; exact c
theorem BO.tones {nx : Nat → Nat → Nat} {T x k : Nat} {ok : Nat → Bool} {B : Bf} (hok : ∀ y, ok y = true) (H : BO nx T k 0 B) (I : BI nx ok T x B) (hk : k < B.m) : ∀ t, t ≤ T → BO nx T k t (bfT nx ok B k t)
  | 0, _ => H
  | t + 1, h => (BO.tones hok H I hk t (by omega)).step hok (I.tones hk t (by omega)) (Nat.lt_of_lt_of_le hk (bfT_pre nx ok B k t).1)
theorem BO.next {nx : Nat → Nat → Nat} {T k : Nat} {B : Bf} (hT : ∀ i, 0 < i → i < B.m → B.to i < T) (H : BO nx T k T B) : BO nx T (k + 1) 0 B := by
  obtain ⟨h1, h2, h3⟩ := H
  refine ⟨fun i a b => ?_, h2, fun i s hi hs h => h3 i s hi hs ?_⟩
  · rcases h1 i a b with z | ⟨z, -⟩
    · exact Or.inl (by omega)
    · exact Or.inl (by omega)
  · rcases h with z | ⟨-, z⟩
    · by_cases e : i = k
      · exact Or.inr ⟨e, hs⟩
      · exact Or.inl (by omega)
    · omega
theorem BO.heads {nx : Nat → Nat → Nat} {T x : Nat} {ok : Nat → Bool} (hok : ∀ y, ok y = true) : ∀ k, BO nx T k 0 (bfK nx ok T x k) ∨ (bfK nx ok T x k).m ≤ k ∧ ∃ k', BO nx T k' 0 (bfK nx ok T x k) ∧ (bfK nx ok T x k).m ≤ k'
  | 0 => Or.inl BO.zero
  | k + 1 => by
    have hI := BI.heads (nx := nx) (ok := ok) (T := T) (x := x) k
    by_cases hk : k < (bfK nx ok T x k).m
    · rcases BO.heads hok k with H | ⟨z, -⟩
      · left
        rw [bfK, if_pos hk]
        have h1 := H.tones hok hI hk T (Nat.le_refl _)
        have h2 := hI.tones hk T (Nat.le_refl _)
        exact h1.next (fun i a b => (h2.2.2.2 i a b).2.1)
      · omega
    · have e : bfK nx ok T x (k + 1) = bfK nx ok T x k := by rw [bfK, if_neg hk]
      right
      rw [e]
      rcases BO.heads hok k with H | ⟨-, k', H, z⟩
      · exact ⟨by omega, k, H, by omega⟩
      · exact ⟨by omega, k', H, z⟩
/-- what is finished: in order, and closed -/
def BC (nx : Nat → Nat → Nat) (T : Nat) (B : Bf) : Prop :=
  (∀ i j, 0 < i → i < j → j < B.m → lx (B.pa i) (B.to i) (B.pa j) (B.to j)) ∧
  ∀ i s, i < B.m → s < T → ∃ j, j < B.m ∧ B.st j = nx (B.st i) s ∧ (j = 0 ∨ B.pa j < i ∨ (B.pa j = i ∧ B.to j ≤ s))
theorem BC.of {nx : Nat → Nat → Nat} {T x k : Nat} {ok : Nat → Bool} (hok : ∀ y, ok y = true) (h : (bfK nx ok T x k).m ≤ k) : BC nx T (bfK nx ok T x k) := by
  rcases BO.heads (nx := nx) (T := T) (x := x) hok k with H | ⟨-, k', H, z⟩
  · exact ⟨H.2.1, fun i s hi hs => H.2.2 i s hi hs (Or.inl (by omega))⟩
  · exact ⟨H.2.1, fun i s hi hs => H.2.2 i s hi hs (Or.inl (by omega))⟩
/-- the row to an entry, as a number -/
def vlF (B : Bf) : Nat → Nat → Nat
  | 0, _ => 0
  | f + 1, k => if k = 0 then 0 else vlF B f (B.pa k) * 8 + B.to k
theorem dep_mono {nx : Nat → Nat → Nat} {T x : Nat} {ok : Nat → Bool} {B : Bf} (I : BI nx ok T x B) (C : BC nx T B) : ∀ j, j < B.m → ∀ i, i ≤ j → dep B.pa i ≤ dep B.pa j := by
  intro j
  induction j using Nat.strongRecOn with
  | _ j ih =>
    intro hj i hi
    by_cases e0 : i = 0
    · subst e0; rw [dep_0]; omega
    by_cases e : i = j
    · subst e; exact Nat.le_refl _
    have h1 := I.par i (by omega) (by omega)
    have h2 := I.par j (by omega) hj
    rw [dep_s I.par (by omega) (show i < B.m by omega), dep_s I.par (by omega) hj]
    have hle : B.pa i ≤ B.pa j := by
      rcases C.1 i j (by omega) (by omega) hj with z | ⟨z, -⟩ <;> omega
    have := ih (B.pa j) h2 (by omega) (B.pa i) hle
    omega
abbrev vl (B : Bf) (k : Nat) : Nat := rv (rowTo B k) (dep B.pa k)
theorem vl_s {nx : Nat → Nat → Nat} {T x : Nat} {ok : Nat → Bool} {B : Bf} (I : BI nx ok T x B) {k : Nat} (h0 : 0 < k) (hk : k < B.m) : vl B k = vl B (B.pa k) * 8 + B.to k := by
  have hd := dep_s I.par h0 hk
  unfold vl
  rw [hd, rv]
  have e1 : rowTo B k (dep B.pa (B.pa k)) = B.to k := by
    unfold rowTo
    rw [hd, show dep B.pa (B.pa k) + 1 - 1 - dep B.pa (B.pa k) = 0 by omega]
    rfl
  have e2 : ∀ i, i < dep B.pa (B.pa k) → rowTo B k i = rowTo B (B.pa k) i := fun i hi => by
    unfold rowTo
    rw [anc_pa, hd, show dep B.pa (B.pa k) + 1 - 1 - i = dep B.pa (B.pa k) - 1 - i + 1 by omega]
  rw [e1, rv_cg _ e2]
theorem vl_mono {nx : Nat → Nat → Nat} {T x : Nat} {ok : Nat → Bool} {B : Bf} (hT : T ≤ 8) (I : BI nx ok T x B) (C : BC nx T B) : ∀ j, j < B.m → ∀ i, i < j → dep B.pa i = dep B.pa j → vl B i < vl B j := by
  intro j
  induction j using Nat.strongRecOn with
  | _ j ih =>
    intro hj i hi hd
    have h2 := I.par j (by omega) hj
    have hdj := dep_s I.par (show 0 < j by omega) hj
    have e0 : i ≠ 0 := fun z => by subst z; rw [dep_0] at hd; omega
    have h1 := I.par i (by omega) (show i < B.m by omega)
    have hdi := dep_s I.par (show 0 < i by omega) (show i < B.m by omega)
    rw [vl_s I (by omega) (show i < B.m by omega), vl_s I (by omega) hj]
    have ti := (I.2.2.2 i (by omega) (by omega)).2.1
    rcases C.1 i j (by omega) hi hj with z | ⟨z1, z2⟩
    · have := ih (B.pa j) h2 (by omega) (B.pa i) z (by omega)
      omega
    · rw [z1]; omega
/-- a row comes to an entry that is no later than it -/
theorem row_in {nx : Nat → Nat → Nat} {T x : Nat} {ok : Nat → Bool} {B : Bf} (hT : T ≤ 8) (I : BI nx ok T x B) (C : BC nx T B) {r : Nat → Nat} : ∀ d, (∀ i, i < d → r i < T) → ∃ j, j < B.m ∧ B.st j = run nx x r d ∧ dep B.pa j ≤ d ∧ (dep B.pa j = d → vl B j ≤ rv r d)
  | 0, _ => ⟨0, I.1, I.2.1, by rw [dep_0]; exact Nat.le_refl _, fun _ => Nat.le_refl _⟩
  | d + 1, hr => by
    obtain ⟨i, hi, e1, e2, e3⟩ := row_in hT I C d (fun j hj => hr j (by omega))
    have ht := hr d (by omega)
    obtain ⟨j, hj, f1, f2⟩ := C.2 i (r d) hi ht
    refine ⟨j, hj, by rw [f1, e1]; rfl, ?_⟩
    by_cases j0 : j = 0
    · subst j0
      rw [dep_0]
      exact ⟨by omega, fun z => by omega⟩
    have hdj := dep_s I.par (show 0 < j by omega) hj
    have hpj := I.par j (by omega) hj
    have tj := (I.2.2.2 j (by omega) hj).2.1
    have hle : B.pa j ≤ i := by rcases f2 with z | z | z <;> omega
    have hdd := dep_mono I C i hi (B.pa j) hle
    refine ⟨by omega, fun hz => ?_⟩
    have hdi : dep B.pa i = d := by omega
    have hv := e3 hdi
    rw [vl_s I (by omega) hj, rv]
    rcases f2 with z | z | ⟨z1, z2⟩
    · omega
    · have := vl_mono hT I C i hi (B.pa j) z (by omega)
      omega
    · rw [z1]; omega
/-- the row to an entry leads there -/
theorem row_run {nx : Nat → Nat → Nat} {T x : Nat} {ok : Nat → Bool} {B : Bf} (I : BI nx ok T x B) : ∀ k, k < B.m → run nx x (rowTo B k) (dep B.pa k) = B.st k := by
  intro k
  induction k using Nat.strongRecOn with
  | _ k ih =>
    intro hk
    by_cases e : k = 0
    · subst e; rw [dep_0]; exact I.2.1.symm
    have hd := dep_s I.par (show 0 < k by omega) hk
    have hp := I.par k (by omega) hk
    rw [hd, run]
    have e1 : rowTo B k (dep B.pa (B.pa k)) = B.to k := by
      unfold rowTo
      rw [hd, show dep B.pa (B.pa k) + 1 - 1 - dep B.pa (B.pa k) = 0 by omega]
      rfl
    have e2 : ∀ i, i < dep B.pa (B.pa k) → rowTo B k i = rowTo B (B.pa k) i := fun i hi => by
      unfold rowTo
      rw [anc_pa, hd, show dep B.pa (B.pa k) + 1 - 1 - i = dep B.pa (B.pa k) - 1 - i + 1 by omega]
    rw [e1, run_cg _ e2, ih (B.pa k) hp (by omega)]
    exact (I.2.2.2 k (by omega) hk).2.2.1.symm
/-- the first of a sort: no row of that sort is shorter, or as long and earlier -/
theorem first_least {nx : Nat → Nat → Nat} {T x k : Nat} {ok : Nat → Bool} {B : Bf} {g : Nat → Bool} (hT : T ≤ 8) (I : BI nx ok T x B) (C : BC nx T B) (hk : k < B.m) (hn : ∀ i, i < k → ¬ g (B.st i) = true) {r : Nat → Nat} {d : Nat} (hr : ∀ i, i < d → r i < T) (hg : g (run nx x r d) = true) : dep B.pa k ≤ d ∧ (dep B.pa k = d → vl B k ≤ rv r d) := by
  obtain ⟨j, hj, e1, e2, e3⟩ := row_in hT I C d hr
  have hkj : k ≤ j := by
    apply Decidable.byContradiction
    intro z
    exact hn j (by omega) (by rw [e1]; exact hg)
  have h1 := dep_mono I C j hj k hkj
  refine ⟨by omega, fun z => ?_⟩
  have hdj : dep B.pa j = d := by omega
  by_cases e : k = j
  · subst e; exact e3 hdj
  · have := vl_mono hT I C j hj k (by omega) (by omega)
    have := e3 hdj
    omega
/-- none of a sort: no row comes to one -/
theorem none_none {nx : Nat → Nat → Nat} {T x : Nat} {ok : Nat → Bool} {B : Bf} {g : Nat → Bool} (hT : T ≤ 8) (I : BI nx ok T x B) (C : BC nx T B) (hn : ∀ i, i < B.m → ¬ g (B.st i) = true) {r : Nat → Nat} {d : Nat} (hr : ∀ i, i < d → r i < T) : ¬ g (run nx x r d) = true := by
  obtain ⟨j, hj, e1, -⟩ := row_in hT I C d hr
  rw [← e1]
  exact hn j hj
/-! THE LEAST NUMBER OF TONES, for two rooms: by steps from the end -/
def any (p : Nat → Bool) : Nat → Bool
  | 0 => false
  | n + 1 => any p n || p n
theorem any_iff {p : Nat → Bool} : ∀ n, any p n = true ↔ ∃ i, i < n ∧ p i = true
  | 0 => ⟨fun h => absurd h (by simp [any]), fun ⟨i, h, _⟩ => absurd h (by omega)⟩
  | n + 1 => by
    simp only [any, Bool.or_eq_true, any_iff n]
    constructor
    · rintro (⟨i, a, b⟩ | h)
      · exact ⟨i, by omega, b⟩
      · exact ⟨n, by omega, h⟩
    · rintro ⟨i, a, b⟩
      by_cases e : i = n
      · subst e; exact Or.inr b
      · exact Or.inl ⟨i, by omega, b⟩
/-- some row of k tones leads from x to one of the sort -/
def rch (nx : Nat → Nat → Nat) (T : Nat) (g : Nat → Bool) : Nat → Nat → Bool
  | 0, x => g x
  | k + 1, x => any (fun t => rch nx T g k (nx x t)) T
theorem rch_row {nx : Nat → Nat → Nat} {T : Nat} {g : Nat → Bool} : ∀ k x, rch nx T g k x = true ↔ ∃ r : Nat → Nat, (∀ i, i < k → r i < T) ∧ g (run nx x r k) = true
  | 0, x => ⟨fun h => ⟨fun _ => 0, fun i hi => absurd hi (by omega), h⟩, fun ⟨_, _, h⟩ => h⟩
  | k + 1, x => by
    rw [rch, any_iff]
    constructor
    · rintro ⟨t, ht, h⟩
      obtain ⟨r, hr, hg⟩ := (rch_row k _).mp h
      refine ⟨fun i => if i = 0 then t else r (i - 1), fun i hi => ?_, ?_⟩
      · show (if i = 0 then t else r (i - 1)) < T
        split
        · exact ht
        · exact hr _ (by omega)
      · rw [run_front]
        have : run nx (nx x t) (fun i => if i + 1 = 0 then t else r (i + 1 - 1)) k = run nx (nx x t) r k := run_cg k (fun i _ => by show (if i + 1 = 0 then t else r (i + 1 - 1)) = r i; rw [if_neg (by omega), Nat.add_sub_cancel])
        show g (run nx (nx x t) (fun i => if i + 1 = 0 then t else r (i + 1 - 1)) k) = true
        rw [this]
        exact hg
    · rintro ⟨r, hr, hg⟩
      refine ⟨r 0, hr 0 (by omega), (rch_row k _).mpr ⟨fun i => r (i + 1), fun i hi => hr (i + 1) (by omega), ?_⟩⟩
      rw [run_front] at hg
      exact hg
/-- k is the least -/
def lst (nx : Nat → Nat → Nat) (T : Nat) (g : Nat → Bool) (k x : Nat) : Prop := rch nx T g k x = true ∧ ∀ j, j < k → ¬ rch nx T g j x = true
theorem lst.uniq {nx : Nat → Nat → Nat} {T : Nat} {g : Nat → Bool} {k j x : Nat} (a : lst nx T g k x) (b : lst nx T g j x) : k = j := by
  rcases Nat.lt_trichotomy k j with z | z | z
  · exact absurd a.1 (b.2 k z)
  · exact z
  · exact absurd b.1 (a.2 j z)
theorem lst.next {nx : Nat → Nat → Nat} {T : Nat} {g : Nat → Bool} {k x : Nat} (a : lst nx T g (k + 1) x) : ∃ t, t < T ∧ lst nx T g k (nx x t) := by
  obtain ⟨t, ht, h⟩ := (any_iff T).mp a.1
  refine ⟨t, ht, h, fun j hj z => a.2 (j + 1) (by omega) ((any_iff T).mpr ⟨t, ht, z⟩)⟩
theorem lst.ge {nx : Nat → Nat → Nat} {T : Nat} {g : Nat → Bool} {k x t : Nat} (a : lst nx T g (k + 1) x) (ht : t < T) (h : rch nx T g k (nx x t) = true) : lst nx T g k (nx x t) := ⟨h, fun j hj z => a.2 (j + 1) (by omega) ((any_iff T).mpr ⟨t, ht, z⟩)⟩
theorem lst_ex {nx : Nat → Nat → Nat} {T : Nat} {g : Nat → Bool} {x : Nat} : ∀ k, rch nx T g k x = true → ∃ j, j ≤ k ∧ lst nx T g j x := by
  intro k
  induction k using Nat.strongRecOn with
  | _ k ih =>
    intro h
    by_cases z : ∃ j, j < k ∧ rch nx T g j x = true
    · obtain ⟨j, hj, hr⟩ := z
      obtain ⟨i, hi, hl⟩ := ih j hj hr
      exact ⟨i, by omega, hl⟩
    · exact ⟨k, Nat.le_refl _, h, fun j hj y => z ⟨j, hj, y⟩⟩
/-- the least is below the number of all that there are -/
theorem lst_lt {nx : Nat → Nat → Nat} {T W : Nat} {g : Nat → Bool} {v : Nat → Prop} (hv : ∀ x, v x → x < W) (hs : ∀ x t, v x → t < T → v (nx x t)) : ∀ k x, v x → lst nx T g k x → k < W := by
  intro k x hx hl
  have key : ∀ k x, v x → lst nx T g k x → ∃ f : Nat → Nat, ∀ i, i ≤ k → v (f i) ∧ lst nx T g i (f i) := by
    intro k
    induction k with
    | zero => exact fun x hx hl => ⟨fun _ => x, fun i hi => by rw [show i = 0 by omega]; exact ⟨hx, hl⟩⟩
    | succ k ih =>
      intro x hx hl
      obtain ⟨t, ht, h⟩ := hl.next
      obtain ⟨f, hf⟩ := ih _ (hs x t hx ht) h
      refine ⟨fun i => if i = k + 1 then x else f i, fun i hi => ?_⟩
      by_cases e : i = k + 1
      · show v (if i = k + 1 then x else f i) ∧ lst nx T g i (if i = k + 1 then x else f i)
        rw [if_pos e, e]
        exact ⟨hx, hl⟩
      · show v (if i = k + 1 then x else f i) ∧ lst nx T g i (if i = k + 1 then x else f i)
        rw [if_neg e]
        exact hf i (by omega)
  obtain ⟨f, hf⟩ := key k x hx hl
  have := php W (k + 1) f (fun i hi => hv _ (hf i (by omega)).1) (fun i j hi hj e => (hf i (by omega)).2.uniq (by rw [e]; exact (hf j (by omega)).2))
  omega
/-- the first of the least rows -/
def gr (nx : Nat → Nat → Nat) (T : Nat) (g : Nat → Bool) : Nat → Nat → Nat → Nat
  | 0, _, _ => 0
  | k + 1, x, i => if i = 0 then ffi (fun t => rch nx T g k (nx x t)) T 0 else gr nx T g k (nx x (ffi (fun t => rch nx T g k (nx x t)) T 0)) (i - 1)
theorem ffi_ex {p : Nat → Bool} : ∀ d k, (∃ i, k ≤ i ∧ i < k + d ∧ p i = true) → ffi p d k < k + d ∧ k ≤ ffi p d k ∧ p (ffi p d k) = true ∧ ∀ i, k ≤ i → i < ffi p d k → ¬ p i = true
  | 0, k, ⟨i, a, b, _⟩ => by omega
  | d + 1, k, ⟨i, a, b, c⟩ => by
    rw [ffi]
    by_cases h : p k = true
    · rw [if_pos h]
      exact ⟨by omega, Nat.le_refl _, h, fun j x y => by omega⟩
    · rw [if_neg h]
      have hik : i ≠ k := fun z => h (by rw [← z]; exact c)
      obtain ⟨h1, h2, h3, h4⟩ := ffi_ex d (k + 1) ⟨i, by omega, by omega, c⟩
      refine ⟨by omega, by omega, h3, fun j x y => ?_⟩
      by_cases e : j = k
      · subst e; exact h
      · exact h4 j (by omega) y
theorem gr_row {nx : Nat → Nat → Nat} {T : Nat} {g : Nat → Bool} : ∀ k x, rch nx T g k x = true → (∀ i, i < k → gr nx T g k x i < T) ∧ g (run nx x (gr nx T g k x) k) = true
  | 0, x, h => ⟨fun i hi => absurd hi (by omega), h⟩
  | k + 1, x, h => by
    obtain ⟨t, ht, hr⟩ := (any_iff T).mp h
    obtain ⟨h1, -, h3, -⟩ := ffi_ex (p := fun t => rch nx T g k (nx x t)) T 0 ⟨t, by omega, by omega, hr⟩
    obtain ⟨a, b⟩ := gr_row k _ h3
    refine ⟨fun i hi => ?_, ?_⟩
    · rw [gr]
      split
      · omega
      · exact a (i - 1) (by omega)
    · rw [run_front]
      have e0 : gr nx T g (k + 1) x 0 = ffi (fun t => rch nx T g k (nx x t)) T 0 := by rw [gr, if_pos rfl]
      rw [e0]
      have : run nx (nx x (ffi (fun t => rch nx T g k (nx x t)) T 0)) (fun i => gr nx T g (k + 1) x (i + 1)) k = run nx (nx x (ffi (fun t => rch nx T g k (nx x t)) T 0)) (gr nx T g k (nx x (ffi (fun t => rch nx T g k (nx x t)) T 0))) k := run_cg k (fun i _ => by show gr nx T g (k + 1) x (i + 1) = _; rw [gr, if_neg (by omega), Nat.add_sub_cancel])
      rw [this]
      exact b
theorem rv_front {x : Nat → Nat} : ∀ d, rv x (d + 1) = x 0 * 8 ^ d + rv (fun i => x (i + 1)) d
  | 0 => by show 0 * 8 + x 0 = x 0 * 1 + 0; omega
  | d + 1 => by
    rw [rv, rv_front d, rv, Nat.pow_succ]
    have : x 0 * (8 ^ d * 8) = x 0 * 8 ^ d * 8 := by rw [Nat.mul_assoc]
    omega
theorem rv_lt {x : Nat → Nat} : ∀ d, (∀ i, i < d → x i < 8) → rv x d < 8 ^ d
  | 0, _ => by show 0 < 1; omega
  | d + 1, h => by
    have h1 := rv_lt d (fun i hi => h i (by omega))
    have h2 := h d (by omega)
    rw [rv, Nat.pow_succ]
    omega
theorem gr_least {nx : Nat → Nat → Nat} {T : Nat} {g : Nat → Bool} (hT : T ≤ 8) : ∀ k x (r : Nat → Nat), (∀ i, i < k → r i < T) → g (run nx x r k) = true → rv (gr nx T g k x) k ≤ rv r k
  | 0, x, r, _, _ => Nat.le_refl _
  | k + 1, x, r, hr, hg => by
    rw [run_front] at hg
    have hr0 : rch nx T g k (nx x (r 0)) = true := (rch_row k _).mpr ⟨fun i => r (i + 1), fun i hi => hr (i + 1) (by omega), hg⟩
    obtain ⟨h1, -, h3, h4⟩ := ffi_ex (p := fun t => rch nx T g k (nx x t)) T 0 ⟨r 0, by omega, by have := hr 0 (by omega); omega, hr0⟩
    rw [rv_front, rv_front]
    have e0 : gr nx T g (k + 1) x 0 = ffi (fun t => rch nx T g k (nx x t)) T 0 := by rw [gr, if_pos rfl]
    have e1 : rv (fun i => gr nx T g (k + 1) x (i + 1)) k = rv (gr nx T g k (nx x (ffi (fun t => rch nx T g k (nx x t)) T 0))) k := rv_cg k (fun i _ => by show gr nx T g (k + 1) x (i + 1) = _; rw [gr, if_neg (by omega), Nat.add_sub_cancel])
    rw [e0, e1]
    have hle : ffi (fun t => rch nx T g k (nx x t)) T 0 ≤ r 0 := by
      apply Decidable.byContradiction
      intro z
      exact h4 (r 0) (by omega) (by omega) hr0
    by_cases e : ffi (fun t => rch nx T g k (nx x t)) T 0 = r 0
    · rw [e]
      have := gr_least hT k (nx x (r 0)) (fun i => r (i + 1)) (fun i hi => hr (i + 1) (by omega)) hg
      omega
    · have hb : ∀ i, i < k → gr nx T g k (nx x (ffi (fun t => rch nx T g k (nx x t)) T 0)) i < 8 := fun i hi => Nat.lt_of_lt_of_le ((gr_row k _ h3).1 i hi) hT
      have h5 := rv_lt k hb
      have h6 : (ffi (fun t => rch nx T g k (nx x t)) T 0 + 1) * 8 ^ k ≤ r 0 * 8 ^ k := Nat.mul_le_mul (by omega) (Nat.le_refl _)
      rw [Nat.add_mul] at h6
      omega
/-- the search's first row is that one -/
theorem bfs_gr {nx : Nat → Nat → Nat} {T x k : Nat} {ok : Nat → Bool} {B : Bf} {g : Nat → Bool} (hT : T ≤ 8) (I : BI nx ok T x B) (C : BC nx T B) (hk : k < B.m) (hg : g (B.st k) = true) (hn : ∀ i, i < k → ¬ g (B.st i) = true) : lst nx T g (dep B.pa k) x ∧ ∀ i, i < dep B.pa k → rowTo B k i = gr nx T g (dep B.pa k) x i := by
  have hrow : ∀ i, i < dep B.pa k → rowTo B k i < T := fun i hi => rowTo_lt I hk hi
  have hrun : g (run nx x (rowTo B k) (dep B.pa k)) = true := by rw [row_run I k hk]; exact hg
  have hr : rch nx T g (dep B.pa k) x = true := (rch_row _ _).mpr ⟨_, hrow, hrun⟩
  have hl : lst nx T g (dep B.pa k) x := ⟨hr, fun j hj z => by
    obtain ⟨r, a, b⟩ := (rch_row j x).mp z
    have := (first_least hT I C hk hn a b).1
    omega⟩
  refine ⟨hl, ?_⟩
  obtain ⟨a, b⟩ := gr_row _ _ hr
  have h1 := (first_least hT I C hk hn a b).2 rfl
  have h2 := gr_least hT (dep B.pa k) x (rowTo B k) hrow hrun
  exact rv_inj _ (fun i hi => Nat.lt_of_lt_of_le (hrow i hi) hT) (fun i hi => Nat.lt_of_lt_of_le (a i hi) hT) (Nat.le_antisymm h1 h2)
theorem bfs_no {nx : Nat → Nat → Nat} {T x : Nat} {ok : Nat → Bool} {B : Bf} {g : Nat → Bool} (hT : T ≤ 8) (I : BI nx ok T x B) (C : BC nx T B) (hn : ∀ i, i < B.m → ¬ g (B.st i) = true) : ∀ k, ¬ rch nx T g k x = true := by
  intro k z
  obtain ⟨r, a, b⟩ := (rch_row k x).mp z
  exact none_none hT I C hn a b
