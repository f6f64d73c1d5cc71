/-! PLACES THAT ARE PROBED ONE BY ONE: pure -/
theorem php : ∀ (K m : Nat) (f : Nat → Nat), (∀ i, i < m → f i < K) → (∀ i j, i < m → j < m → f i = f j → i = j) → m ≤ K := by
  intro K
  induction K with
  | zero =>
    intro m f hf _
    apply Decidable.byContradiction
    intro h
    exact absurd (hf 0 (by omega)) (by omega)
  | succ K ih =>
    intro m f hf hi
    by_cases h : ∃ i, i < m ∧ f i = K
    · obtain ⟨i0, h0, e0⟩ := h
      have hlt : ∀ i, i < m - 1 → (if i < i0 then i else i + 1) < m := fun i hi' => by split <;> omega
      have hne : ∀ i, (if i < i0 then i else i + 1) ≠ i0 := fun i => by split <;> omega
      have h1 : ∀ i, i < m - 1 → f (if i < i0 then i else i + 1) < K := by
        intro i hi'
        have h3 := hf _ (hlt i hi')
        have h4 : f (if i < i0 then i else i + 1) ≠ K := fun z => hne i (hi _ _ (hlt i hi') h0 (z.trans e0.symm))
        exact Nat.lt_of_le_of_ne (Nat.le_of_lt_succ h3) h4
      have h2 : ∀ i j, i < m - 1 → j < m - 1 → f (if i < i0 then i else i + 1) = f (if j < i0 then j else j + 1) → i = j := by
        intro i j hi' hj' e
        have h3 := hi _ _ (hlt i hi') (hlt j hj') e
        split at h3 <;> split at h3 <;> omega
      have := ih (m - 1) (fun i => f (if i < i0 then i else i + 1)) h1 h2
      omega
    · have h1 : ∀ i, i < m → f i < K := fun i hi' => by
        have h1 := hf i hi'
        have h2 : f i ≠ K := fun z => h ⟨i, hi', z⟩
        omega
      have := ih m f h1 hi
      omega
def un (T : Nat → Nat) (s v : Nat) : Nat → Nat := fun j => if j = s then v else T j
theorem un_s (T : Nat → Nat) (s v : Nat) : un T s v s = v := if_pos rfl
theorem un_n {T : Nat → Nat} {s v j : Nat} (h : j ≠ s) : un T s v j = T j := if_neg h
/-- how many places are taken -/
def ocn (T : Nat → Nat) : Nat → Nat
  | 0 => 0
  | n + 1 => ocn T n + if T n = 0 then 0 else 1
theorem ocn_ge {T : Nat → Nat} {s v : Nat} : ∀ n, n ≤ s → ocn (un T s v) n = ocn T n
  | 0, _ => rfl
  | n + 1, h => by
    simp only [ocn]
    rw [ocn_ge n (by omega), un_n (by omega)]
theorem ocn_un {T : Nat → Nat} {s v : Nat} (h0 : T s = 0) (hv : v ≠ 0) : ∀ n, s < n → ocn (un T s v) n = ocn T n + 1
  | 0, h => by omega
  | n + 1, h => by
    simp only [ocn]
    by_cases e : n = s
    · subst e
      rw [ocn_ge n (Nat.le_refl _), un_s, if_neg hv, h0, if_pos rfl]
    · rw [ocn_un h0 hv n (by omega), un_n e]
      omega
theorem ocn_full {T : Nat → Nat} : ∀ n, (∀ j, j < n → T j ≠ 0) → ocn T n = n
  | 0, _ => rfl
  | n + 1, h => by
    simp only [ocn]
    rw [ocn_full n (fun j hj => h j (by omega)), if_neg (h n (by omega))]
theorem ocn_zero {T : Nat → Nat} : ∀ n, (∀ j, j < n → T j = 0) → ocn T n = 0
  | 0, _ => rfl
  | n + 1, h => by
    simp only [ocn]
    rw [ocn_zero n (fun j hj => h j (by omega)), if_pos (h n (by omega))]
/-- n places, by hf; m numbers st are in them, T: 0 or one more than whose place it is -/
def LPr (n : Nat) (hf st : Nat → Nat) (m : Nat) (T : Nat → Nat) : Prop :=
  ocn T n = m ∧ (∀ j, j < n → T j ≤ m) ∧ ∀ i, i < m → ∃ d, d < n ∧ T ((hf (st i) + d) % n) = i + 1 ∧ ∀ e, e < d → T ((hf (st i) + e) % n) ≠ 0
theorem LPr.nil {n : Nat} {hf st T : Nat → Nat} (h : ∀ j, j < n → T j = 0) : LPr n hf st 0 T :=
  ⟨ocn_zero n h, fun j hj => by rw [h j hj]; exact Nat.le_refl _, fun i hi => absurd hi (by omega)⟩
theorem LPr.miss {n m x d : Nat} {hf st T : Nat → Nat} (H : LPr n hf st m T) (hp : ∀ e, e < d → T ((hf x + e) % n) ≠ 0 ∧ st (T ((hf x + e) % n) - 1) ≠ x) (h0 : T ((hf x + d) % n) = 0) : ∀ i, i < m → st i ≠ x := by
  intro i hi e
  obtain ⟨d', h1, h2, h3⟩ := H.2.2 i hi
  rw [e] at h2 h3
  rcases Nat.lt_trichotomy d d' with z | z | z
  · exact h3 d z h0
  · subst z; omega
  · have := (hp d' z).2
    rw [h2, Nat.add_sub_cancel] at this
    exact this e
theorem LPr.free {n m x : Nat} {hf st T : Nat → Nat} (H : LPr n hf st m T) (hm : m < n) (hx : hf x < n) : ∃ d, d < n ∧ T ((hf x + d) % n) = 0 := by
  have : ∃ j, j < n ∧ T j = 0 := by
    apply Classical.byContradiction
    intro z
    have := ocn_full (T := T) n (fun j hj h => z ⟨j, hj, h⟩)
    rw [H.1] at this
    omega
  obtain ⟨j, hj, h0⟩ := this
  by_cases e : hf x ≤ j
  · refine ⟨j - hf x, by omega, ?_⟩
    rw [show hf x + (j - hf x) = j by omega, Nat.mod_eq_of_lt hj, h0]
  · refine ⟨j + n - hf x, by omega, ?_⟩
    rw [show hf x + (j + n - hf x) = j + n by omega, Nat.add_mod_right, Nat.mod_eq_of_lt hj, h0]
theorem LPr.ins {n m x d : Nat} {hf st T : Nat → Nat} (H : LPr n hf st m T) (hd : d < n) (hp : ∀ e, e < d → T ((hf x + e) % n) ≠ 0) (h0 : T ((hf x + d) % n) = 0) : LPr n hf (un st m x) (m + 1) (un T ((hf x + d) % n) (m + 1)) := by
  have hs : (hf x + d) % n < n := Nat.mod_lt _ (by omega)
  refine ⟨by rw [ocn_un h0 (by omega) n hs, H.1], fun j hj => ?_, fun i hi => ?_⟩
  · unfold un
    split
    · exact Nat.le_refl _
    · have := H.2.1 j hj; omega
  · by_cases e : i = m
    · subst e
      rw [un_s]
      refine ⟨d, hd, un_s _ _ _, fun e he => ?_⟩
      have hne : (hf x + e) % n ≠ (hf x + d) % n := fun z => hp e he (by rw [z]; exact h0)
      rw [un_n hne]
      exact hp e he
    · rw [un_n e]
      obtain ⟨d', h1, h2, h3⟩ := H.2.2 i (by omega)
      refine ⟨d', h1, ?_, fun e he => ?_⟩
      · rw [un_n (fun z => by rw [z, h0] at h2; omega), h2]
      · unfold un
        split
        · omega
        · exact h3 e he
theorem LPr.stp {n a d : Nat} : ((a + d) % n + 1) % n = (a + (d + 1)) % n := by
  rw [Nat.mod_add_mod]; rfl
/-! WHAT COMES ABOUT, EACH BUT ONCE, IN ORDER: how many, which, out of which, by what -/
abbrev Bf : Type := Nat × (Nat → Nat) × (Nat → Nat) × (Nat → Nat)
abbrev Bf.m (B : Bf) : Nat := B.1
abbrev Bf.st (B : Bf) : Nat → Nat := B.2.1
abbrev Bf.pa (B : Bf) : Nat → Nat := B.2.2.1
abbrev Bf.to (B : Bf) : Nat → Nat := B.2.2.2
def mem (f : Nat → Nat) (x : Nat) : Nat → Bool
  | 0 => false
  | m + 1 => mem f x m || decide (f m = x)
theorem mem_iff {f : Nat → Nat} {x : Nat} : ∀ m, mem f x m = true ↔ ∃ i, i < m ∧ f i = x
  | 0 => ⟨fun h => absurd h (by simp [mem]), fun ⟨i, h, _⟩ => absurd h (by omega)⟩
  | m + 1 => by
    simp only [mem, Bool.or_eq_true, decide_eq_true_eq, mem_iff m]
    constructor
    · rintro (⟨i, a, b⟩ | h)
      · exact ⟨i, by omega, b⟩
      · exact ⟨m, by omega, h⟩
    · rintro ⟨i, a, b⟩
      by_cases e : i = m
      · subst e; exact Or.inr b
      · exact Or.inl ⟨i, by omega, b⟩
theorem mem_no {f : Nat → Nat} {x m : Nat} (h : ∀ i, i < m → f i ≠ x) : ¬ mem f x m = true := fun z => by
  obtain ⟨i, a, b⟩ := (mem_iff m).mp z
  exact h i a b
def bfA (B : Bf) (x k t : Nat) : Bf := if mem B.st x B.m = true then B else (B.m + 1, un B.st B.m x, un B.pa B.m k, un B.to B.m t)
def bfS (nx : Nat → Nat → Nat) (ok : Nat → Bool) (k : Nat) (B : Bf) (t : Nat) : Bf := if ok (nx (B.st k) t) = true then bfA B (nx (B.st k) t) k t else B
/-- behind t tones of the k-th -/
def bfT (nx : Nat → Nat → Nat) (ok : Nat → Bool) (B : Bf) (k : Nat) : Nat → Bf
  | 0 => B
  | t + 1 => bfS nx ok k (bfT nx ok B k t) t
/-- behind k of them -/
def bf0 (x : Nat) : Bf := (1, fun _ => x, fun _ => 0, fun _ => 0)
def bfK (nx : Nat → Nat → Nat) (ok : Nat → Bool) (T x : Nat) : Nat → Bf
  | 0 => bf0 x
  | k + 1 => if k < (bfK nx ok T x k).m then bfT nx ok (bfK nx ok T x k) k T else bfK nx ok T x k
/-- the first part of another -/
def Pre (B C : Bf) : Prop := B.m ≤ C.m ∧ ∀ i, i < B.m → C.st i = B.st i ∧ C.pa i = B.pa i ∧ C.to i = B.to i
theorem Pre.rfl' (B : Bf) : Pre B B := ⟨Nat.le_refl _, fun _ _ => ⟨rfl, rfl, rfl⟩⟩
theorem Pre.tr {B C D : Bf} (a : Pre B C) (b : Pre C D) : Pre B D := ⟨Nat.le_trans a.1 b.1, fun i hi => by
  obtain ⟨x1, x2, x3⟩ := a.2 i hi
  obtain ⟨y1, y2, y3⟩ := b.2 i (Nat.lt_of_lt_of_le hi a.1)
  exact ⟨y1.trans x1, y2.trans x2, y3.trans x3⟩⟩
theorem bfA_pre (B : Bf) (x k t : Nat) : Pre B (bfA B x k t) := by
  unfold bfA
  split
  · exact Pre.rfl' B
  · exact ⟨Nat.le_succ _, fun i hi => ⟨un_n (Nat.ne_of_lt hi), un_n (Nat.ne_of_lt hi), un_n (Nat.ne_of_lt hi)⟩⟩
theorem bfS_pre (nx : Nat → Nat → Nat) (ok : Nat → Bool) (k : Nat) (B : Bf) (t : Nat) : Pre B (bfS nx ok k B t) := by
  unfold bfS
  split
  · exact bfA_pre _ _ _ _
  · exact Pre.rfl' B
theorem bfT_pre (nx : Nat → Nat → Nat) (ok : Nat → Bool) (B : Bf) (k : Nat) : ∀ t, Pre B (bfT nx ok B k t)
  | 0 => Pre.rfl' B
  | t + 1 => (bfT_pre nx ok B k t).tr (bfS_pre _ _ _ _ _)
theorem bfT_mono (nx : Nat → Nat → Nat) (ok : Nat → Bool) (B : Bf) (k t : Nat) : ∀ d, Pre (bfT nx ok B k t) (bfT nx ok B k (t + d))
  | 0 => Pre.rfl' _
  | d + 1 => (bfT_mono nx ok B k t d).tr (bfS_pre _ _ _ _ _)
theorem bfK_1 (nx : Nat → Nat → Nat) (ok : Nat → Bool) (T x k : Nat) : Pre (bfK nx ok T x k) (bfK nx ok T x (k + 1)) := by
  rw [bfK]
  split
  · exact bfT_pre _ _ _ _ _
  · exact Pre.rfl' _
theorem bfK_mono (nx : Nat → Nat → Nat) (ok : Nat → Bool) (T x k : Nat) : ∀ d, Pre (bfK nx ok T x k) (bfK nx ok T x (k + d))
  | 0 => Pre.rfl' _
  | d + 1 => (bfK_mono nx ok T x k d).tr (bfK_1 _ _ _ _ _)
theorem bfK_stop {nx : Nat → Nat → Nat} {ok : Nat → Bool} {T x k : Nat} (h : (bfK nx ok T x k).m ≤ k) : ∀ d, bfK nx ok T x (k + d) = bfK nx ok T x k
  | 0 => rfl
  | d + 1 => by
    show bfK nx ok T x (k + d + 1) = _
    rw [bfK, bfK_stop h d, if_neg (by omega)]
/-- each but once, and each out of an earlier one -/
def BI (nx : Nat → Nat → Nat) (ok : Nat → Bool) (T x : Nat) (B : Bf) : Prop :=
  0 < B.m ∧ B.st 0 = x ∧ (∀ i j, i < B.m → j < B.m → B.st i = B.st j → i = j) ∧ ∀ i, 0 < i → i < B.m → B.pa i < i ∧ B.to i < T ∧ B.st i = nx (B.st (B.pa i)) (B.to i) ∧ ok (B.st i) = true
theorem BI.zero {nx : Nat → Nat → Nat} {ok : Nat → Bool} {T x : Nat} : BI nx ok T x (bf0 x) := by
  refine ⟨Nat.one_pos, rfl, fun i j hi hj _ => ?_, fun i h0 hi => ?_⟩
  · have h1 : i < 1 := hi
    have h2 : j < 1 := hj
    omega
  · have h1 : i < 1 := hi
    omega
theorem BI.step {nx : Nat → Nat → Nat} {ok : Nat → Bool} {T x k t : Nat} {B : Bf} (H : BI nx ok T x B) (hk : k < B.m) (ht : t < T) : BI nx ok T x (bfS nx ok k B t) := by
  unfold bfS
  split
  · rename_i hok
    unfold bfA
    split
    · exact H
    · rename_i hm
      have hn : ∀ i, i < B.m → B.st i ≠ nx (B.st k) t := fun i hi e => hm ((mem_iff _).mpr ⟨i, hi, e⟩)
      obtain ⟨h1, h2, h3, h4⟩ := H
      refine ⟨Nat.succ_pos _, (un_n (by omega)).trans h2, fun i j hi hj e => ?_, fun i h0 hi => ?_⟩
      · have hi' : i < B.m + 1 := hi
        have hj' : j < B.m + 1 := hj
        have e' : un B.st B.m (nx (B.st k) t) i = un B.st B.m (nx (B.st k) t) j := e
        by_cases a : i = B.m
        · by_cases b : j = B.m
          · omega
          · rw [a, un_s, un_n b] at e'
            exact absurd e'.symm (hn j (by omega))
        · by_cases b : j = B.m
          · rw [b, un_s, un_n a] at e'
            exact absurd e' (hn i (by omega))
          · rw [un_n a, un_n b] at e'
            exact h3 i j (by omega) (by omega) e'
      · have hi' : i < B.m + 1 := hi
        show un B.pa B.m k i < i ∧ un B.to B.m t i < T ∧ un B.st B.m (nx (B.st k) t) i = nx (un B.st B.m (nx (B.st k) t) (un B.pa B.m k i)) (un B.to B.m t i) ∧ ok (un B.st B.m (nx (B.st k) t) i) = true
        by_cases a : i = B.m
        · rw [a, un_s, un_s, un_s, un_n (by omega)]
          exact ⟨hk, ht, rfl, hok⟩
        · rw [un_n a, un_n a, un_n a]
          obtain ⟨x1, x2, x3, x4⟩ := h4 i h0 (by omega)
          rw [un_n (by omega)]
          exact ⟨x1, x2, x3, x4⟩
  · exact H
theorem BI.tones {nx : Nat → Nat → Nat} {ok : Nat → Bool} {T x k : Nat} {B : Bf} (H : BI nx ok T x B) (hk : k < B.m) : ∀ t, t ≤ T → BI nx ok T x (bfT nx ok B k t)
  | 0, _ => H
  | t + 1, h => (BI.tones H hk t (by omega)).step (Nat.lt_of_lt_of_le hk (bfT_pre nx ok B k t).1) (by omega)
theorem BI.heads {nx : Nat → Nat → Nat} {ok : Nat → Bool} {T x : Nat} : ∀ k, BI nx ok T x (bfK nx ok T x k)
  | 0 => BI.zero
  | k + 1 => by
    rw [bfK]
    split
    · rename_i h
      exact (BI.heads k).tones h T (Nat.le_refl _)
    · exact BI.heads k
/-- what holds of the first and goes on holds of all -/
theorem BI.all {nx : Nat → Nat → Nat} {ok : Nat → Bool} {T x : Nat} {B : Bf} {P : Nat → Prop} (H : BI nx ok T x B) (h0 : P x) (hs : ∀ y t, P y → t < T → ok (nx y t) = true → P (nx y t)) : ∀ i, i < B.m → P (B.st i) := by
  intro i
  induction i using Nat.strongRecOn with
  | _ i ih =>
    intro hi
    by_cases e : i = 0
    · subst e
      rw [H.2.1]
      exact h0
    · obtain ⟨a, b, c, d⟩ := H.2.2.2 i (by omega) hi
      rw [c] at d ⊢
      exact hs _ _ (ih _ a (by omega)) b d
/-- there are no more than there can be -/
theorem BI.le {nx : Nat → Nat → Nat} {ok : Nat → Bool} {T x W : Nat} {B : Bf} (H : BI nx ok T x B) (h : ∀ i, i < B.m → B.st i < W) : B.m ≤ W := php W B.m B.st h H.2.2.1
/-- the way back: its length, what lies d steps back -/
def anc (pa : Nat → Nat) (k : Nat) : Nat → Nat
  | 0 => k
  | d + 1 => pa (anc pa k d)
theorem anc_pa (pa : Nat → Nat) (k : Nat) : ∀ d, anc pa (pa k) d = anc pa k (d + 1)
  | 0 => rfl
  | d + 1 => by rw [anc, anc_pa pa k d]; rfl
def depF (pa : Nat → Nat) : Nat → Nat → Nat
  | 0, _ => 0
  | f + 1, k => if k = 0 then 0 else depF pa f (pa k) + 1
theorem depF_ge {pa : Nat → Nat} {m : Nat} (hp : ∀ i, 0 < i → i < m → pa i < i) : ∀ k, k < m → ∀ f, k ≤ f → depF pa f k = depF pa k k := by
  intro k
  induction k using Nat.strongRecOn with
  | _ k ih =>
    intro hk f hf
    by_cases e : k = 0
    · subst e
      cases f with
      | zero => rfl
      | succ f => show depF pa (f + 1) 0 = 0; simp [depF]
    · have h1 := hp k (by omega) hk
      obtain ⟨f', rfl⟩ : ∃ f', f = f' + 1 := ⟨f - 1, by omega⟩
      obtain ⟨k', hk'⟩ : ∃ k', k = k' + 1 := ⟨k - 1, by omega⟩
      rw [depF, if_neg e, ih (pa k) h1 (by omega) f' (by omega)]
      have : depF pa k k = depF pa k' (pa k) + 1 := by
        conv => lhs; arg 2; rw [hk']
        rw [depF, if_neg e]
      rw [this, ih (pa k) h1 (by omega) k' (by omega)]
def dep (pa : Nat → Nat) (k : Nat) : Nat := depF pa k k
theorem dep_0 (pa : Nat → Nat) : dep pa 0 = 0 := rfl
theorem dep_s {pa : Nat → Nat} {m k : Nat} (hp : ∀ i, 0 < i → i < m → pa i < i) (h0 : 0 < k) (hk : k < m) : dep pa k = dep pa (pa k) + 1 := by
  have h1 := hp k h0 hk
  unfold dep
  obtain ⟨k', hk'⟩ : ∃ k', k = k' + 1 := ⟨k - 1, by omega⟩
  have : depF pa k k = depF pa k' (pa k) + 1 := by
    conv => lhs; arg 2; rw [hk']
    rw [depF, if_neg (by omega)]
  rw [this, depF_ge hp (pa k) (by omega) k' (by omega)]
theorem dep_le {pa : Nat → Nat} {m : Nat} (hp : ∀ i, 0 < i → i < m → pa i < i) : ∀ k, k < m → dep pa k ≤ k := by
  intro k
  induction k using Nat.strongRecOn with
  | _ k ih =>
    intro hk
    by_cases e : k = 0
    · subst e; exact Nat.le_refl _
    · have h1 := hp k (by omega) hk
      rw [dep_s hp (by omega) hk]
      have := ih (pa k) h1 (by omega)
      omega
theorem dep_anc {pa : Nat → Nat} {m k : Nat} (hp : ∀ i, 0 < i → i < m → pa i < i) (hk : k < m) : ∀ d, d ≤ dep pa k → anc pa k d < m ∧ dep pa (anc pa k d) = dep pa k - d
  | 0, _ => ⟨hk, rfl⟩
  | d + 1, h => by
    obtain ⟨a, b⟩ := dep_anc hp hk d (by omega)
    have h0 : 0 < anc pa k d := by
      apply Nat.pos_of_ne_zero
      intro z
      rw [z, dep_0] at b
      omega
    have h1 := hp _ h0 a
    have h2 := dep_s hp h0 a
    refine ⟨?_, ?_⟩
    · show pa (anc pa k d) < m
      omega
    · show dep pa (pa (anc pa k d)) = _
      omega
theorem dep_end {pa : Nat → Nat} {m k d : Nat} (hp : ∀ i, 0 < i → i < m → pa i < i) (hk : k < m) (hd : d ≤ dep pa k) : anc pa k d = 0 ↔ d = dep pa k := by
  obtain ⟨a, b⟩ := dep_anc hp hk d hd
  constructor
  · intro z
    rw [z, dep_0] at b
    omega
  · intro z
    apply Decidable.byContradiction
    intro y
    have := dep_s hp (by omega) a
    omega
theorem depF_congr {pa pb : Nat → Nat} {m : Nat} (hp : ∀ i, 0 < i → i < m → pa i < i) (e : ∀ i, i < m → pb i = pa i) : ∀ k, k < m → dep pb k = dep pa k := by
  have hq : ∀ i, 0 < i → i < m → pb i < i := fun i a b => by rw [e i b]; exact hp i a b
  intro k
  induction k using Nat.strongRecOn with
  | _ k ih =>
    intro hk
    by_cases z : k = 0
    · subst z; rfl
    · rw [dep_s hp (by omega) hk, dep_s hq (by omega) hk, e k hk, ih (pa k) (hp k (by omega) hk) (by have := hp k (by omega) hk; omega)]
theorem anc_congr {pa pb : Nat → Nat} {m k : Nat} (hp : ∀ i, 0 < i → i < m → pa i < i) (e : ∀ i, i < m → pb i = pa i) (hk : k < m) : ∀ d, d ≤ dep pa k → anc pb k d = anc pa k d
  | 0, _ => rfl
  | d + 1, h => by
    rw [anc, anc, anc_congr hp e hk d (by omega)]
    exact e _ (dep_anc hp hk d (by omega)).1
/-- the row to the k-th -/
def rowTo (B : Bf) (k i : Nat) : Nat := B.to (anc B.pa k (dep B.pa k - 1 - i))
theorem BI.par {nx : Nat → Nat → Nat} {ok : Nat → Bool} {T x : Nat} {B : Bf} (H : BI nx ok T x B) : ∀ i, 0 < i → i < B.m → B.pa i < i := fun i a b => (H.2.2.2 i a b).1
theorem Pre.dep {nx : Nat → Nat → Nat} {ok : Nat → Bool} {T x : Nat} {B C : Bf} (P : Pre B C) (H : BI nx ok T x B) {k : Nat} (hk : k < B.m) : dep C.pa k = dep B.pa k := depF_congr H.par (fun i hi => (P.2 i hi).2.1) k hk
theorem Pre.row {nx : Nat → Nat → Nat} {ok : Nat → Bool} {T x : Nat} {B C : Bf} (P : Pre B C) (H : BI nx ok T x B) {k : Nat} (hk : k < B.m) (i : Nat) : rowTo C k i = rowTo B k i := by
  unfold rowTo
  rw [P.dep H hk, anc_congr H.par (fun i hi => (P.2 i hi).2.1) hk _ (by omega)]
  exact (P.2 _ (dep_anc H.par hk _ (by omega)).1).2.2
theorem rowTo_lt {nx : Nat → Nat → Nat} {ok : Nat → Bool} {T x : Nat} {B : Bf} (H : BI nx ok T x B) {k i : Nat} (hk : k < B.m) (hi : i < dep B.pa k) : rowTo B k i < T := by
  unfold rowTo
  obtain ⟨a, b⟩ := dep_anc H.par hk (dep B.pa k - 1 - i) (by omega)
  refine (H.2.2.2 _ ?_ a).2.1
  apply Nat.pos_of_ne_zero
  intro z
  rw [z, dep_0] at b
  omega
/-- the first of which p holds, d being looked at from k on -/
def ffi (p : Nat → Bool) : Nat → Nat → Nat
  | 0, k => k
  | d + 1, k => if p k = true then k else ffi p d (k + 1)
theorem ffi_at {p : Nat → Bool} : ∀ d k j, k ≤ j → j < k + d → p j = true → (∀ i, k ≤ i → i < j → ¬ p i = true) → ffi p d k = j
  | 0, k, j, a, b, _, _ => by omega
  | d + 1, k, j, a, b, h, hn => by
    rw [ffi]
    by_cases e : k = j
    · subst e; rw [if_pos h]
    · rw [if_neg (hn k (Nat.le_refl _) (by omega))]
      exact ffi_at d (k + 1) j (by omega) (by omega) h (fun i x y => hn i (by omega) y)
theorem ffi_no {p : Nat → Bool} : ∀ d k, (∀ i, k ≤ i → i < k + d → ¬ p i = true) → ffi p d k = k + d
  | 0, k, _ => rfl
  | d + 1, k, h => by
    rw [ffi, if_neg (h k (Nat.le_refl _) (by omega)), ffi_no d (k + 1) (fun i x y => h i (by omega) (by omega))]
    omega
