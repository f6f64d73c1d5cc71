/-! ROUND: a row again and again -/
def itn (f : Nat → Nat) (x : Nat) : Nat → Nat
  | 0 => x
  | k + 1 => f (itn f x k)
theorem itn_add (f : Nat → Nat) (x a : Nat) : ∀ b, itn f x (a + b) = itn f (itn f x a) b
  | 0 => rfl
  | b + 1 => by show f (itn f x (a + b)) = f _; rw [itn_add f x a b]
theorem itn_lt {f : Nat → Nat} {n x : Nat} (hf : ∀ y, y < n → f y < n) (hx : x < n) : ∀ k, itn f x k < n
  | 0 => hx
  | k + 1 => hf _ (itn_lt hf hx k)
theorem itn_mul {f : Nat → Nat} {y p : Nat} (h : itn f y p = y) : ∀ k, itn f y (p * k) = y
  | 0 => rfl
  | k + 1 => by rw [Nat.mul_succ, itn_add, itn_mul h k, h]
theorem itn_mod {f : Nat → Nat} {y p : Nat} (h : itn f y p = y) (m : Nat) : itn f y m = itn f y (m % p) := by
  have e : m = p * (m / p) + m % p := (Nat.div_add_mod m p).symm
  conv => lhs; rw [e, itn_add, itn_mul h]
/-- in so many rounds one is where one comes again -/
theorem itn_per {f : Nat → Nat} {n x : Nat} (hf : ∀ y, y < n → f y < n) (hx : x < n) : ∃ p, 1 ≤ p ∧ p ≤ n ∧ itn f (itn f x n) p = itn f x n := by
  have : ∃ i j, i < j ∧ j ≤ n ∧ itn f x i = itn f x j := by
    apply Classical.byContradiction
    intro z
    have := php n (n + 1) (itn f x) (fun i _ => itn_lt hf hx i) (fun i j hi hj e => by
      rcases Nat.lt_trichotomy i j with q | q | q
      · exact absurd ⟨i, j, q, by omega, e⟩ z
      · exact q
      · exact absurd ⟨j, i, q, by omega, e.symm⟩ z)
    omega
  obtain ⟨i, j, hij, hj, e⟩ := this
  refine ⟨j - i, by omega, by omega, ?_⟩
  have h1 : itn f x n = itn f (itn f x i) (n - i) := by rw [← itn_add, show i + (n - i) = n by omega]
  have h2 : itn f (itn f x n) (j - i) = itn f (itn f x j) (n - i) := by rw [← itn_add, ← itn_add, show n + (j - i) = j + (n - i) by omega]
  rw [h2, ← e, ← h1]
/-- the turn, the lead in -/
def tn (f : Nat → Nat) (n r : Nat) : Nat := ffi (fun p => decide (itn f r p = r)) n 1
def ld (f : Nat → Nat) (n x p : Nat) : Nat := ffi (fun j => decide (itn f x j = itn f x (j + p))) (n + 1) 0
theorem tn_ok {f : Nat → Nat} {n x : Nat} (hf : ∀ y, y < n → f y < n) (hx : x < n) : 1 ≤ tn f n (itn f x n) ∧ tn f n (itn f x n) ≤ n ∧ itn f (itn f x n) (tn f n (itn f x n)) = itn f x n ∧ ∀ p, 1 ≤ p → p < tn f n (itn f x n) → ¬ itn f (itn f x n) p = itn f x n := by
  obtain ⟨p, h1, h2, h3⟩ := itn_per hf hx
  obtain ⟨a, b, c, d⟩ := ffi_ex (p := fun p => decide (itn f (itn f x n) p = itn f x n)) n 1 ⟨p, h1, by omega, decide_eq_true h3⟩
  exact ⟨b, by unfold tn; omega, of_decide_eq_true c, fun q q1 q2 z => d q q1 q2 (decide_eq_true z)⟩
theorem ld_ok {f : Nat → Nat} {n x p : Nat} (hp : itn f (itn f x n) p = itn f x n) : ld f n x p ≤ n ∧ itn f x (ld f n x p) = itn f x (ld f n x p + p) ∧ ∀ j, j < ld f n x p → ¬ itn f x j = itn f x (j + p) := by
  obtain ⟨a, b, c, d⟩ := ffi_ex (p := fun j => decide (itn f x j = itn f x (j + p))) (n + 1) 0 ⟨n, by omega, by omega, decide_eq_true (by rw [itn_add f x n p]; exact hp.symm)⟩
  exact ⟨by unfold ld; omega, of_decide_eq_true c, fun q q2 z => d q (by omega) q2 (decide_eq_true z)⟩
/-- where one comes again and again -/
def rds (f : Nat → Nat) (r : Nat) : Nat → Nat
  | 0 => 0
  | i + 1 => rds f r i ||| 2 ^ itn f r i
theorem bt_rds {f : Nat → Nat} {r s : Nat} : ∀ k, rds f r k / 2 ^ s % 2 = 1 ↔ ∃ i, i < k ∧ itn f r i = s
  | 0 => ⟨fun h => absurd h (bt_zero s), fun ⟨i, h, _⟩ => absurd h (by omega)⟩
  | k + 1 => by
    rw [rds, bt_or, bt_rds k, bt_pow]
    constructor
    · rintro (⟨i, a, b⟩ | h)
      · exact ⟨i, by omega, b⟩
      · exact ⟨k, by omega, h⟩
    · rintro ⟨i, a, b⟩
      by_cases q : i = k
      · subst q; exact Or.inr b
      · exact Or.inl ⟨i, by omega, b⟩
theorem rds_lt {f : Nat → Nat} {n r : Nat} (hf : ∀ y, y < n → f y < n) (hr : r < n) (k : Nat) : rds f r k < 2 ^ n := by
  apply bs_lt
  intro s hs
  obtain ⟨i, -, h⟩ := (bt_rds k).mp hs
  rw [← h]; exact itn_lt hf hr i
theorem rds_iff {f : Nat → Nat} {n x p j : Nat} (hp1 : 1 ≤ p) (hp : itn f (itn f x n) p = itn f x n) (hj : j ≤ n) : rds f (itn f x n) p / 2 ^ itn f x j % 2 = 1 ↔ itn f x j = itn f x (j + p) := by
  rw [bt_rds]
  constructor
  · rintro ⟨i, hi, h⟩
    rw [itn_add f x j p, ← h, ← itn_add f (itn f x n) i p, Nat.add_comm i p, itn_add f (itn f x n) p i, hp]
  · intro h
    rw [itn_add f x j p] at h
    have e1 : itn f x n = itn f (itn f x j) (n - j) := by rw [← itn_add, show j + (n - j) = n by omega]
    have hle : n - j ≤ p * n := by
      have : 1 * n ≤ p * n := Nat.mul_le_mul hp1 (Nat.le_refl _)
      omega
    have e2 : itn f x j = itn f (itn f x n) (p * n - (n - j)) := by
      rw [e1, ← itn_add f (itn f x j) (n - j), show n - j + (p * n - (n - j)) = p * n by omega, itn_mul h.symm]
    refine ⟨(p * n - (n - j)) % p, Nat.mod_lt _ (by omega), ?_⟩
    rw [← itn_mod hp]
    exact e2.symm
abbrev bL (N x : Nat → Nat) (L : Nat) : Nat → Nat := fun r => bh N x r L
theorem bL_lt {N x : Nat → Nat} {L : Nat} (hN : HN N) (hx : ∀ j, j < L → x j < N 1) : ∀ y, y < N 0 → bL N x L y < N 0 := fun y hy => bh_lt hN hy L hx
theorem l167a {X : ai_X} {h : ai_H} {tp : Int32} {N x : Nat → Nat} {L r : Nat} (e0 : h[0]? = some (cOne tp)) (hN : HN N) (C : CH h 3 N) (R : RtAt h 17 L x) (hx : ∀ j, j < L → x j < N 1) (hL : L ≤ 40) (hr : r < N 0) {p : Nat} {P : ai_O → Prop} (hp : p ≤ 14) (z : Rk X am_167 19 [some (.ref 0), some (.int (nI r)), some (.int (nI p)), some (.int (nI (itn (bL N x L) r p))), some (.int (nI p)), none, none] [] h P) : ∀ (d : Nat) (i : Nat), p < i + d → (i ≤ p) → Rk X am_167 4 [some (.ref 0), some (.int (nI r)), some (.int (nI p)), some (.int (nI (itn (bL N x L) r i))), some (.int (nI i)), none, none] [] h (P) := by
  intro d
  induction d with
  | zero => intro i hd hi; exfalso; omega
  | succ d ih =>
    intro i hd hi
    have e3 := C.1
    have e17 := R.choose_spec.1.1
    have hn := hN.n
    have hbl := bL_lt (x := x) (L := L) hN hx
    have hil := itn_lt hbl hr i
    refine rk_iload rfl rfl ?_
    refine rk_iload_n rfl rfl ?_
    refine rk_icmp_ge rfl rfl (fun hc6 => ?_) (fun hc6 => ?_)
    · replace hc6 := (nI_leI (by omega) (by omega)).mp hc6
      have hi2 : i = p := by omega
      subst hi2
      exact z
    · replace hc6 := mt (nI_leI (by omega) (by omega)).mpr hc6
      refine rk_aload_n rfl rfl ?_
      refine rk_get rfl (by assumption) rfl ?_
      refine rk_aload_n rfl rfl ?_
      refine rk_get rfl (by assumption) rfl ?_
      refine rk_aload_n rfl rfl ?_
      refine rk_get rfl (by assumption) rfl ?_
      refine rk_get rfl (by assumption) rfl ?_
      refine rk_iload_n rfl rfl ?_
      refine rk_cv3e rfl rfl (by assumption) rfl rfl (Nat.le_of_ble_eq_true rfl) (Nat.le_of_ble_eq_true rfl) (s41 hN C R hx (Nat.le_refl _) (by omega) hil) ?_
      refine rk_istore_n rfl (Nat.le_of_ble_eq_true rfl) rfl ?_
      refine rk_iinc rfl rfl (n_inc _) rfl ?_
      refine rk_goto rfl rfl ?_
      exact ih (i + 1) (by omega) (by omega)
theorem l167b {X : ai_X} {h : ai_H} {tp : Int32} {N x : Nat → Nat} {L r : Nat} (e0 : h[0]? = some (cOne tp)) (hN : HN N) (C : CH h 3 N) (R : RtAt h 17 L x) (hx : ∀ j, j < L → x j < N 1) (hL : L ≤ 40) (hr : r < N 0) {p : Nat} (hp1 : 1 ≤ p) (hp : p ≤ 14) (hc : itn (bL N x L) (itn (bL N x L) r (N 0)) p = itn (bL N x L) r (N 0)) : ∀ (d : Nat) (j : Nat), ld (bL N x L) (N 0) r p < j + d → (j ≤ ld (bL N x L) (N 0) r p) → Rk X am_167 25 [some (.ref 0), some (.int (nI r)), some (.int (nI p)), some (.int (nI (itn (bL N x L) r (j + p)))), some (.int (nI (itn (bL N x L) r j))), some (.int (nI j)), some (.int (nI j))] [] h (Qe (nI (ld (bL N x L) (N 0) r p)) h) := by
  intro d
  induction d with
  | zero => intro j hd hj; exfalso; omega
  | succ d ih =>
    intro j hd hj
    have e3 := C.1
    have e17 := R.choose_spec.1.1
    have hn := hN.n
    have hbl := bL_lt (x := x) (L := L) hN hx
    have hil := itn_lt hbl hr j
    have hil2 := itn_lt hbl hr (j + p)
    obtain ⟨hld1, hld2, hld3⟩ := ld_ok hc
    refine rk_iload rfl rfl ?_
    refine rk_bipush (v := nI 14) rfl (by decide) ?_
    refine rk_icmp_ge rfl rfl (fun hc27 => ?_) (fun hc27 => ?_)
    · replace hc27 := (nI_leI (by omega) (by omega)).mp hc27
      refine rk_iload rfl rfl ?_
      refine rk_ireturn rfl rfl (Qe_of ?_)
      have : j = ld (bL N x L) (N 0) r p := by
        first
          | omega
          | (apply Decidable.byContradiction; intro y; exact hld3 j (by omega) hc30)
      rw [this]
    · replace hc27 := mt (nI_leI (by omega) (by omega)).mpr hc27
      refine rk_iload rfl rfl ?_
      refine rk_iload_n rfl rfl ?_
      refine rk_icmp_eq rfl rfl (fun hc30 => ?_) (fun hc30 => ?_)
      · replace hc30 := (nI_eq (by omega) (by omega)).mp hc30
        refine rk_iload rfl rfl ?_
        refine rk_ireturn rfl rfl (Qe_of ?_)
        have : j = ld (bL N x L) (N 0) r p := by
          first
            | omega
            | (apply Decidable.byContradiction; intro y; exact hld3 j (by omega) hc30)
        rw [this]
      · replace hc30 := mt (nI_eq (by omega) (by omega)).mpr hc30
        refine rk_aload_n rfl rfl ?_
        refine rk_get rfl (by assumption) rfl ?_
        refine rk_aload_n rfl rfl ?_
        refine rk_get rfl (by assumption) rfl ?_
        refine rk_aload_n rfl rfl ?_
        refine rk_get rfl (by assumption) rfl ?_
        refine rk_get rfl (by assumption) rfl ?_
        refine rk_iload rfl rfl ?_
        refine rk_cv3e rfl rfl (by assumption) rfl rfl (Nat.le_of_ble_eq_true rfl) (Nat.le_of_ble_eq_true rfl) (s41 hN C R hx (Nat.le_refl _) (by omega) hil) ?_
        refine rk_istore rfl (Nat.le_of_ble_eq_true rfl) rfl ?_
        refine rk_aload_n rfl rfl ?_
        refine rk_get rfl (by assumption) rfl ?_
        refine rk_aload_n rfl rfl ?_
        refine rk_get rfl (by assumption) rfl ?_
        refine rk_aload_n rfl rfl ?_
        refine rk_get rfl (by assumption) rfl ?_
        refine rk_get rfl (by assumption) rfl ?_
        refine rk_iload_n rfl rfl ?_
        refine rk_cv3e rfl rfl (by assumption) rfl rfl (Nat.le_of_ble_eq_true rfl) (Nat.le_of_ble_eq_true rfl) (s41 hN C R hx (Nat.le_refl _) (by omega) hil2) ?_
        refine rk_istore_n rfl (Nat.le_of_ble_eq_true rfl) rfl ?_
        refine rk_iinc rfl rfl (n_inc _) rfl ?_
        refine rk_iinc rfl rfl (n_inc _) rfl ?_
        refine rk_goto rfl rfl ?_
        have hjl : j ≠ ld (bL N x L) (N 0) r p := fun y => hc30 (by have := hld2; rw [← y] at this; exact this)
        have z := ih (j + 1) (by omega) (by omega)
        rw [show j + 1 + p = j + p + 1 by omega] at z
        exact z
theorem s167 {X : ai_X} {h : ai_H} {tp : Int32} {N x : Nat → Nat} {L r : Nat} (e0 : h[0]? = some (cOne tp)) (hN : HN N) (C : CH h 3 N) (R : RtAt h 17 L x) (hx : ∀ j, j < L → x j < N 1) (hL : L ≤ 40) (hr : r < N 0) {p : Nat} (hp1 : 1 ≤ p) (hp : p ≤ 14) (hc : itn (bL N x L) (itn (bL N x L) r (N 0)) p = itn (bL N x L) r (N 0)) : Mt X am_167 [.ref 0, .int (nI r), .int (nI p)] h (Qe (nI (ld (bL N x L) (N 0) r p)) h) := by
  refine rk_iload_n rfl rfl ?_
  refine rk_istore_n rfl (Nat.le_of_ble_eq_true rfl) rfl ?_
  refine rk_iconst (v := nI 0) rfl (by decide) ?_
  refine rk_istore rfl (Nat.le_of_ble_eq_true rfl) rfl ?_
  refine l167a e0 hN C R hx hL hr hp ?_ (p + 1) 0 (by omega) (by omega)
  refine rk_iload_n rfl rfl ?_
  refine rk_istore rfl (Nat.le_of_ble_eq_true rfl) rfl ?_
  refine rk_iconst (v := nI 0) rfl (by decide) ?_
  refine rk_istore rfl (Nat.le_of_ble_eq_true rfl) rfl ?_
  refine rk_iconst (v := nI 0) rfl (by decide) ?_
  refine rk_istore rfl (Nat.le_of_ble_eq_true rfl) rfl ?_
  have z := l167b (X := X) e0 hN C R hx hL hr hp1 hp hc (ld (bL N x L) (N 0) r p + 1) 0 (by omega) (by omega)
  rw [Nat.zero_add] at z
  exact z
theorem l166a {X : ai_X} {h : ai_H} {tp : Int32} {N x : Nat → Nat} {L r : Nat} (e0 : h[0]? = some (cOne tp)) (hN : HN N) (C : CH h 3 N) (R : RtAt h 17 L x) (hx : ∀ j, j < L → x j < N 1) (hL : L ≤ 40) (hr : r < N 0) {i c : Nat} {c4 : Int32} (hc2 : c < 2) {P : ai_O → Prop} (z : Rk X am_166 45 [some (.ref 0), some (.int (nI i)), some (.int (nI r)), some (.int (nI c)), some (.int c4), some (.int (nI (itn (bL N x L) r (N 0)))), some (.int (nI (N 0))), none, none] [] h P) : ∀ (d : Nat) (k : Nat), N 0 < k + d → (k ≤ N 0) → Rk X am_166 28 [some (.ref 0), some (.int (nI i)), some (.int (nI r)), some (.int (nI c)), some (.int c4), some (.int (nI (itn (bL N x L) r k))), some (.int (nI k)), none, none] [] h (P) := by
  intro d
  induction d with
  | zero => intro k hd hk; exfalso; omega
  | succ d ih =>
    intro k hd hk
    have e3 := C.1
    have e17 := R.choose_spec.1.1
    have hn := hN.n
    have hbl := bL_lt (x := x) (L := L) hN hx
    have hil := itn_lt hbl hr k
    refine rk_iload rfl rfl ?_
    refine rk_aload_n rfl rfl ?_
    refine rk_get rfl (by assumption) rfl ?_
    refine rk_get rfl (by assumption) rfl ?_
    refine rk_icmp_ge rfl rfl (fun hc32 => ?_) (fun hc32 => ?_)
    · replace hc32 := (nI_leI (by omega) (by omega)).mp hc32
      have hk2 : k = N 0 := by omega
      subst hk2
      exact z
    · replace hc32 := mt (nI_leI (by omega) (by omega)).mpr hc32
      refine rk_aload_n rfl rfl ?_
      refine rk_get rfl (by assumption) rfl ?_
      refine rk_aload_n rfl rfl ?_
      refine rk_get rfl (by assumption) rfl ?_
      refine rk_aload_n rfl rfl ?_
      refine rk_get rfl (by assumption) rfl ?_
      refine rk_get rfl (by assumption) rfl ?_
      refine rk_iload rfl rfl ?_
      refine rk_cv3e rfl rfl (by assumption) rfl rfl (Nat.le_of_ble_eq_true rfl) (Nat.le_of_ble_eq_true rfl) (s41 hN C R hx (Nat.le_refl _) (by omega) hil) ?_
      refine rk_istore rfl (Nat.le_of_ble_eq_true rfl) rfl ?_
      refine rk_iinc rfl rfl (n_inc _) rfl ?_
      refine rk_goto rfl rfl ?_
      exact ih (k + 1) (by omega) (by omega)
theorem l166b {X : ai_X} {h : ai_H} {tp : Int32} {N x : Nat → Nat} {L r : Nat} (e0 : h[0]? = some (cOne tp)) (hN : HN N) (C : CH h 3 N) (R : RtAt h 17 L x) (hx : ∀ j, j < L → x j < N 1) (hL : L ≤ 40) (hr : r < N 0) {i c : Nat} {c4 : Int32} (hc2 : c < 2) : ∀ (d : Nat) (k : Nat), (tn (bL N x L) (N 0) (itn (bL N x L) r (N 0))) < k + 1 + d → (k + 1 ≤ (tn (bL N x L) (N 0) (itn (bL N x L) r (N 0)))) → Rk X am_166 59 [some (.ref 0), some (.int (nI i)), some (.int (nI r)), some (.int (nI c)), some (.int c4), some (.int (nI (itn (bL N x L) r (N 0)))), some (.int (nI (k + 1))), some (.int (nI (itn (bL N x L) (itn (bL N x L) r (N 0)) (k + 1)))), some (.int (nI k))] [] h (Qe (if c = 1 then nI (tn (bL N x L) (N 0) (itn (bL N x L) r (N 0))) else nI (ld (bL N x L) (N 0) r (tn (bL N x L) (N 0) (itn (bL N x L) r (N 0))))) h) := by
  intro d
  induction d with
  | zero => intro k hd hk; exfalso; omega
  | succ d ih =>
    intro k hd hk
    have e3 := C.1
    have e17 := R.choose_spec.1.1
    have hn := hN.n
    have hbl := bL_lt (x := x) (L := L) hN hx
    obtain ⟨htn1, htn2, htn3, htn4⟩ := tn_ok hbl hr
    have hil := itn_lt hbl (itn_lt hbl hr (N 0)) (k + 1)
    have hil0 := itn_lt hbl hr (N 0)
    refine rk_iload rfl rfl ?_
    refine rk_bipush (v := nI 14) rfl (by decide) ?_
    refine rk_icmp_ge rfl rfl (fun hc61 => ?_) (fun hc61 => ?_)
    · replace hc61 := (nI_leI (by omega) (by omega)).mp hc61
      omega
    · replace hc61 := mt (nI_leI (by omega) (by omega)).mpr hc61
      refine rk_iload rfl rfl ?_
      refine rk_iload rfl rfl ?_
      refine rk_icmp_eq rfl rfl (fun hc64 => ?_) (fun hc64 => ?_)
      · replace hc64 := (nI_eq (by omega) (by omega)).mp hc64
        have hkt : k + 1 = (tn (bL N x L) (N 0) (itn (bL N x L) r (N 0))) := by
          apply Decidable.byContradiction
          intro y
          exact htn4 (k + 1) (by omega) (by omega) hc64
        refine rk_iload_n rfl rfl ?_
        refine rk_iconst (v := nI 1) rfl (by decide) ?_
        refine rk_icmp_ne rfl rfl (fun hc80 => ?_) (fun hc80 => ?_)
        · replace hc80 := mt (nI_eq (by omega) (by omega)).mpr hc80
          refine rk_aload_n rfl rfl ?_
          refine rk_iload_n rfl rfl ?_
          refine rk_iload rfl rfl ?_
          refine rk_cv2e rfl rfl (by assumption) rfl rfl (Nat.le_of_ble_eq_true rfl) (Nat.le_of_ble_eq_true rfl) (s167 e0 hN C R hx hL hr (by omega) (by omega) (by rw [hkt]; exact htn3)) ?_
          first | exact rk_ireturn rfl rfl (Qe_of (by rw [if_pos (by omega), hkt])) | exact rk_ireturn rfl rfl (Qe_of (by rw [if_neg (by omega), hkt]))
        · replace hc80 := Decidable.not_not.mp hc80
          replace hc80 := (nI_eq (by omega) (by omega)).mp hc80
          refine rk_iload rfl rfl ?_
          refine rk_goto rfl rfl ?_
          first | exact rk_ireturn rfl rfl (Qe_of (by rw [if_pos (by omega), hkt])) | exact rk_ireturn rfl rfl (Qe_of (by rw [if_neg (by omega), hkt]))
      · replace hc64 := mt (nI_eq (by omega) (by omega)).mpr hc64
        refine rk_aload_n rfl rfl ?_
        refine rk_get rfl (by assumption) rfl ?_
        refine rk_aload_n rfl rfl ?_
        refine rk_get rfl (by assumption) rfl ?_
        refine rk_aload_n rfl rfl ?_
        refine rk_get rfl (by assumption) rfl ?_
        refine rk_get rfl (by assumption) rfl ?_
        refine rk_iload rfl rfl ?_
        refine rk_cv3e rfl rfl (by assumption) rfl rfl (Nat.le_of_ble_eq_true rfl) (Nat.le_of_ble_eq_true rfl) (s41 hN C R hx (Nat.le_refl _) (by omega) hil) ?_
        refine rk_istore rfl (Nat.le_of_ble_eq_true rfl) rfl ?_
        refine rk_iinc rfl rfl (n_inc _) rfl ?_
        refine rk_iinc rfl rfl (n_inc _) rfl ?_
        refine rk_goto rfl rfl ?_
        have hkt : k + 1 ≠ (tn (bL N x L) (N 0) (itn (bL N x L) r (N 0))) := fun y => hc64 (by rw [y]; exact htn3)
        exact ih (k + 1) (by omega) (by omega)
theorem c166_x {X : ai_X} {h : ai_H} {tp : Int32} {ro : Nat → Option Nat} {N : Nat → Nat} (d0 : h[0]? = some (cOne tp)) (hN : HN N) (C : CH h 3 N) (d19 : h[19]? = some (cR 3 4 ro)) (hro : ∀ i, i < 4 → ro i = some (44 + 2 * i)) (Q : ∃ n f, RouteAt h 17 n f) (O : InvO h) {a b c : Int32} (ha : ¬ (¬ a < 0 ∧ ¬ nI 4 ≤ a)) : Mt X am_166 [.ref 0, .int a, .int b, .int c] h (Qi (fun y h1 => y = -2 ∧ SC h h1)) := by
  have d3 := C.1
  refine rk_aload_n rfl rfl ?_
  refine rk_iload_n rfl rfl ?_
  refine rk_cv1e rfl rfl (by assumption) rfl rfl (Nat.le_of_ble_eq_true rfl) (Nat.le_of_ble_eq_true rfl) (s179 _) ?_
  refine rk_if_eq rfl rfl (fun hc3 => ?_) (fun hc3 => ?_)
  · replace hc3 := (bI_0).mp hc3
    refine rk_bipush (v := (-2)) rfl (by decide) ?_
    exact rk_ireturn rfl rfl ⟨_, _, rfl, rfl, SC.rfl' Q O⟩
  · replace hc3 := Decidable.not_not.mp (mt bI_0.mpr hc3)
    exact absurd hc3 ha
theorem c166_y {X : ai_X} {h : ai_H} {tp : Int32} {ro : Nat → Option Nat} {N : Nat → Nat} (d0 : h[0]? = some (cOne tp)) (hN : HN N) (C : CH h 3 N) (d19 : h[19]? = some (cR 3 4 ro)) (hro : ∀ i, i < 4 → ro i = some (44 + 2 * i)) (Q : ∃ n f, RouteAt h 17 n f) (O : InvO h) {i : Nat} {b c : Int32} (hi : i < 4) (hb : ¬ (¬ b < 0 ∧ ¬ nI (N 0) ≤ b)) : Mt X am_166 [.ref 0, .int (nI i), .int b, .int c] h (Qi (fun y h1 => y = -2 ∧ SC h h1)) := by
  have d3 := C.1
  refine rk_aload_n rfl rfl ?_
  refine rk_iload_n rfl rfl ?_
  refine rk_cv1e rfl rfl (by assumption) rfl rfl (Nat.le_of_ble_eq_true rfl) (Nat.le_of_ble_eq_true rfl) (s179 _) ?_
  refine rk_if_eq rfl rfl (fun hc3 => ?_) (fun hc3 => ?_)
  · replace hc3 := (bI_0).mp hc3
    exact absurd (in_mk (by omega) hi) hc3
  · replace hc3 := Decidable.not_not.mp (mt bI_0.mpr hc3)
    refine rk_aload_n rfl rfl ?_
    refine rk_get rfl (by assumption) rfl ?_
    refine rk_iload_n rfl rfl ?_
    refine rk_cv1e rfl rfl (by assumption) rfl rfl (Nat.le_of_ble_eq_true rfl) (Nat.le_of_ble_eq_true rfl) (s23N C _) ?_
    refine rk_if_eq rfl rfl (fun hc8 => ?_) (fun hc8 => ?_)
    · replace hc8 := (bI_0).mp hc8
      refine rk_bipush (v := (-2)) rfl (by decide) ?_
      exact rk_ireturn rfl rfl ⟨_, _, rfl, rfl, SC.rfl' Q O⟩
    · replace hc8 := Decidable.not_not.mp (mt bI_0.mpr hc8)
      exact absurd hc8 hb
theorem c166_z {X : ai_X} {h : ai_H} {tp : Int32} {ro : Nat → Option Nat} {N : Nat → Nat} (d0 : h[0]? = some (cOne tp)) (hN : HN N) (C : CH h 3 N) (d19 : h[19]? = some (cR 3 4 ro)) (hro : ∀ i, i < 4 → ro i = some (44 + 2 * i)) (Q : ∃ n f, RouteAt h 17 n f) (O : InvO h) {i r : Nat} {c : Int32} (hi : i < 4) (hr : r < N 0) (hb : ¬ (¬ c < 0 ∧ ¬ nI 1 < c)) : Mt X am_166 [.ref 0, .int (nI i), .int (nI r), .int c] h (Qi (fun y h1 => y = -2 ∧ SC h h1)) := by
  have d3 := C.1
  have hn := hN.n
  refine rk_aload_n rfl rfl ?_
  refine rk_iload_n rfl rfl ?_
  refine rk_cv1e rfl rfl (by assumption) rfl rfl (Nat.le_of_ble_eq_true rfl) (Nat.le_of_ble_eq_true rfl) (s179 _) ?_
  refine rk_if_eq rfl rfl (fun hc3 => ?_) (fun hc3 => ?_)
  · replace hc3 := (bI_0).mp hc3
    exact absurd (in_mk (by omega) hi) hc3
  · replace hc3 := Decidable.not_not.mp (mt bI_0.mpr hc3)
    refine rk_aload_n rfl rfl ?_
    refine rk_get rfl (by assumption) rfl ?_
    refine rk_iload_n rfl rfl ?_
    refine rk_cv1e rfl rfl (by assumption) rfl rfl (Nat.le_of_ble_eq_true rfl) (Nat.le_of_ble_eq_true rfl) (s23N C _) ?_
    refine rk_if_eq rfl rfl (fun hc8 => ?_) (fun hc8 => ?_)
    · replace hc8 := (bI_0).mp hc8
      exact absurd (in_mk (by omega) hr) hc8
    · replace hc8 := Decidable.not_not.mp (mt bI_0.mpr hc8)
      refine rk_iload_n rfl rfl ?_
      refine rk_if_lt rfl rfl (fun hc10 => ?_) (fun hc10 => ?_)
      · refine rk_bipush (v := (-2)) rfl (by decide) ?_
        exact rk_ireturn rfl rfl ⟨_, _, rfl, rfl, SC.rfl' Q O⟩
      · refine rk_iload_n rfl rfl ?_
        refine rk_iconst (v := nI 1) rfl (by decide) ?_
        refine rk_icmp_le rfl rfl (fun hc13 => ?_) (fun hc13 => ?_)
        · exact absurd ⟨hc10, i32_le.mp hc13⟩ hb
        · refine rk_bipush (v := (-2)) rfl (by decide) ?_
          exact rk_ireturn rfl rfl ⟨_, _, rfl, rfl, SC.rfl' Q O⟩
theorem c166_v {X : ai_X} {h : ai_H} {tp : Int32} {ro : Nat → Option Nat} {N : Nat → Nat} (d0 : h[0]? = some (cOne tp)) (hN : HN N) (C : CH h 3 N) (d19 : h[19]? = some (cR 3 4 ro)) (hro : ∀ i, i < 4 → ro i = some (44 + 2 * i)) (Q : ∃ n f, RouteAt h 17 n f) (O : InvO h) {i L : Nat} {code : Int32} {x : Nat → Nat} (hi : i < 4) (R : CRow h i (N 1) code L x) {r c : Nat} (hr : r < N 0) (hc2 : c < 2) : Mt X am_166 [.ref 0, .int (nI i), .int (nI r), .int (nI c)] h (Qi (fun y h1 => y = (if code = 0 then (if c = 1 then nI (tn (bL N x L) (N 0) (itn (bL N x L) r (N 0))) else nI (ld (bL N x L) (N 0) r (tn (bL N x L) (N 0) (itn (bL N x L) r (N 0))))) else code) ∧ SC h h1)) := by
  have d3 := C.1
  have hn := hN.n
  refine rk_aload_n rfl rfl ?_
  refine rk_iload_n rfl rfl ?_
  refine rk_cv1e rfl rfl (by assumption) rfl rfl (Nat.le_of_ble_eq_true rfl) (Nat.le_of_ble_eq_true rfl) (s179 _) ?_
  refine rk_if_eq rfl rfl (fun hc3 => ?_) (fun hc3 => ?_)
  · replace hc3 := (bI_0).mp hc3
    exact absurd (in_mk (by omega) hi) hc3
  · replace hc3 := Decidable.not_not.mp (mt bI_0.mpr hc3)
    refine rk_aload_n rfl rfl ?_
    refine rk_get rfl (by assumption) rfl ?_
    refine rk_iload_n rfl rfl ?_
    refine rk_cv1e rfl rfl (by assumption) rfl rfl (Nat.le_of_ble_eq_true rfl) (Nat.le_of_ble_eq_true rfl) (s23N C _) ?_
    refine rk_if_eq rfl rfl (fun hc8 => ?_) (fun hc8 => ?_)
    · replace hc8 := (bI_0).mp hc8
      exact absurd (in_mk (by omega) hr) hc8
    · replace hc8 := Decidable.not_not.mp (mt bI_0.mpr hc8)
      refine rk_iload_n rfl rfl ?_
      refine rk_if_lt rfl rfl (fun hc10 => ?_) (fun hc10 => ?_)
      · replace hc10 := (n0_lt (by omega)).mp hc10
        exact hc10.elim
      · replace hc10 := mt (n0_lt (by omega)).mpr hc10
        refine rk_iload_n rfl rfl ?_
        refine rk_iconst (v := nI 1) rfl (by decide) ?_
        refine rk_icmp_le rfl rfl (fun hc13 => ?_) (fun hc13 => ?_)
        · replace hc13 := (nI_leI (by omega) (by omega)).mp hc13
          refine rk_aload_n rfl rfl ?_
          refine rk_iload_n rfl rfl ?_
          refine rk_cv1i rfl rfl (by assumption) rfl rfl (Nat.le_of_ble_eq_true rfl) (Nat.le_of_ble_eq_true rfl) (s180 d0 d19 hro hi C rfl Q R) (fun w h1 hF => ?_)
          obtain ⟨rfl, F1, Q1, R1⟩ := hF
          have e0 := (F1.2 0 (by omega)).trans d0
          have C1 := C.fr2 F1 (by omega)
          have e3 := C1.1
          refine rk_istore rfl (Nat.le_of_ble_eq_true rfl) rfl ?_
          refine rk_iload rfl rfl ?_
          refine rk_if_eq rfl rfl (fun hc21 => ?_) (fun hc21 => ?_)
          · subst hc21
            have R2 := R1 rfl
            obtain ⟨hL, hx⟩ := R.x
            have e17 := R2.choose_spec.1.1
            have hbl := bL_lt (x := x) (L := L) hN hx
            refine rk_iload_n rfl rfl ?_
            refine rk_istore rfl (Nat.le_of_ble_eq_true rfl) rfl ?_
            refine rk_iconst (v := nI 0) rfl (by decide) ?_
            refine rk_istore rfl (Nat.le_of_ble_eq_true rfl) rfl ?_
            refine l166a e0 hN C1 R2 hx hL hr hc2 ?_ (N 0 + 1) 0 (by omega) (by omega)
            obtain ⟨htn1, htn2, htn3, htn4⟩ := tn_ok hbl hr
            have hil0 := itn_lt hbl hr (N 0)
            refine rk_iconst (v := nI 1) rfl (by decide) ?_
            refine rk_istore rfl (Nat.le_of_ble_eq_true rfl) rfl ?_
            refine rk_aload_n rfl rfl ?_
            refine rk_get rfl (by assumption) rfl ?_
            refine rk_aload_n rfl rfl ?_
            refine rk_get rfl (by assumption) rfl ?_
            refine rk_aload_n rfl rfl ?_
            refine rk_get rfl (by assumption) rfl ?_
            refine rk_get rfl (by assumption) rfl ?_
            refine rk_iload rfl rfl ?_
            refine rk_cv3e rfl rfl (by assumption) rfl rfl (Nat.le_of_ble_eq_true rfl) (Nat.le_of_ble_eq_true rfl) (s41 hN C1 R2 hx (Nat.le_refl _) (by omega) hil0) ?_
            refine rk_istore rfl (Nat.le_of_ble_eq_true rfl) rfl ?_
            refine rk_iconst (v := nI 0) rfl (by decide) ?_
            refine rk_istore rfl (Nat.le_of_ble_eq_true rfl) rfl ?_
            refine (l166b e0 hN C1 R2 hx hL hr hc2 ((tn (bL N x L) (N 0) (itn (bL N x L) r (N 0))) + 1) 0 (by omega) (by omega)).mono ?_
            rintro o ⟨w, h2, rfl, rfl, rfl⟩
            exact ⟨_, _, rfl, by rw [if_pos rfl], SC.of17 F1 Q1 O⟩
          · refine rk_iload rfl rfl ?_
            exact rk_ireturn rfl rfl ⟨_, _, rfl, by first | rw [if_neg (by assumption)] | rw [if_pos rfl], SC.of17 F1 Q1 O⟩
        · replace hc13 := mt (nI_leI (by omega) (by omega)).mpr hc13
          omega
theorem l273a {X : ai_X} {h : ai_H} {v A rm : Nat → Int32} {nu : Nat → Int64} {N x : Nat → Nat} {i L r c : Nat} {c4 : Int32} (c0 : h[52]? = some (cMdl v)) (c1 : h[53]? = some (cI 2346 A)) (c78 : h[78]? = some (cI 4 rm)) (c79 : h[79]? = some (cJ 160 nu)) (hN : HN N) (M : MH A N) (hi : i < 4) (hm : rm i = nI L) (hx : ∀ k, k < L → x k < N 1 ∧ nu (40 * i + k) = (nI (x k)).toInt64) (hL : L ≤ 40) (hr : r < N 0) (hc2 : c < 2) {P : ai_O → Prop} (z : Rk X am_273 50 [some (.ref 52), some (.int (nI i)), some (.int (nI r)), some (.int (nI c)), some (.int c4), some (.int (nI (itn (bL N x L) r (N 0)))), some (.int (nI (N 0))), none, none, none] [] h P) : ∀ (d : Nat) (k : Nat), N 0 < k + d → (k ≤ N 0) → Rk X am_273 33 [some (.ref 52), some (.int (nI i)), some (.int (nI r)), some (.int (nI c)), some (.int c4), some (.int (nI (itn (bL N x L) r k))), some (.int (nI k)), none, none, none] [] h (P) := by
  intro d
  induction d with
  | zero => intro k hd hk; exfalso; omega
  | succ d ih =>
    intro k hd hk
    obtain ⟨a0, a1, a268, a269, a270, a271, apl, apc, aot, asg, awt⟩ := id M
    have hn := hN.n
    have hbl := bL_lt (x := x) (L := L) hN (fun j hj => (hx j hj).1)
    have hil := itn_lt hbl hr k
    refine rk_iload rfl rfl ?_
    refine rk_aload_n rfl rfl ?_
    refine rk_get rfl (by assumption) rfl ?_
    refine rk_iconst (v := nI 0) rfl (by decide) ?_
    refine rk_iald rfl (by assumption) (rfl) (by omega) (by decide) ?_
    rw [a0]
    refine rk_icmp_ge rfl rfl (fun hc38 => ?_) (fun hc38 => ?_)
    · replace hc38 := (nI_leI (by omega) (by omega)).mp hc38
      have hk2 : k = N 0 := by omega
      subst hk2
      exact z
    · replace hc38 := mt (nI_leI (by omega) (by omega)).mpr hc38
      refine rk_aload_n rfl rfl ?_
      refine rk_iload_n rfl rfl ?_
      refine rk_iload rfl rfl ?_
      refine rk_aload_n rfl rfl ?_
      refine rk_get rfl (by assumption) rfl ?_
      refine rk_iload_n rfl rfl ?_
      refine rk_iald rfl (by assumption) (rfl) (by omega) (by decide) ?_
      rw [hm]
      refine rk_cv3e rfl rfl (by assumption) rfl rfl (Nat.le_of_ble_eq_true rfl) (Nat.le_of_ble_eq_true rfl) (s223 c0 c1 c79 hN M hi hx (Nat.le_refl _) hL hil) ?_
      refine rk_istore rfl (Nat.le_of_ble_eq_true rfl) rfl ?_
      refine rk_iinc rfl rfl (n_inc _) rfl ?_
      refine rk_goto rfl rfl ?_
      exact ih (k + 1) (by omega) (by omega)
theorem l273b {X : ai_X} {h : ai_H} {v A rm : Nat → Int32} {nu : Nat → Int64} {N x : Nat → Nat} {i L r c : Nat} {c4 : Int32} (c0 : h[52]? = some (cMdl v)) (c1 : h[53]? = some (cI 2346 A)) (c78 : h[78]? = some (cI 4 rm)) (c79 : h[79]? = some (cJ 160 nu)) (hN : HN N) (M : MH A N) (hi : i < 4) (hm : rm i = nI L) (hx : ∀ k, k < L → x k < N 1 ∧ nu (40 * i + k) = (nI (x k)).toInt64) (hL : L ≤ 40) (hr : r < N 0) (hc2 : c < 2) {P : ai_O → Prop} (z : ∀ c8, Rk X am_273 85 [some (.ref 52), some (.int (nI i)), some (.int (nI r)), some (.int (nI c)), some (.int c4), some (.int (nI (itn (bL N x L) r (N 0)))), some (.int (nI (tn (bL N x L) (N 0) (itn (bL N x L) r (N 0))))), some (.int (nI (rds (bL N x L) (itn (bL N x L) r (N 0)) (tn (bL N x L) (N 0) (itn (bL N x L) r (N 0)))))), c8, none] [] h P) : ∀ (d : Nat) (k : Nat), (tn (bL N x L) (N 0) (itn (bL N x L) r (N 0))) < k + 1 + d → (k + 1 ≤ (tn (bL N x L) (N 0) (itn (bL N x L) r (N 0)))) → Rk X am_273 65 [some (.ref 52), some (.int (nI i)), some (.int (nI r)), some (.int (nI c)), some (.int c4), some (.int (nI (itn (bL N x L) r (N 0)))), some (.int (nI (k + 1))), some (.int (nI (rds (bL N x L) (itn (bL N x L) r (N 0)) (k + 1)))), some (.int (nI (itn (bL N x L) (itn (bL N x L) r (N 0)) (k + 1)))), none] [] h (P) := by
  intro d
  induction d with
  | zero => intro k hd hk; exfalso; omega
  | succ d ih =>
    intro k hd hk
    obtain ⟨a0, a1, a268, a269, a270, a271, apl, apc, aot, asg, awt⟩ := id M
    have hn := hN.n
    have hbl := bL_lt (x := x) (L := L) hN (fun j hj => (hx j hj).1)
    obtain ⟨htn1, htn2, htn3, htn4⟩ := tn_ok hbl hr
    have hil := itn_lt hbl (itn_lt hbl hr (N 0)) (k + 1)
    have hil0 := itn_lt hbl hr (N 0)
    refine rk_iload rfl rfl ?_
    refine rk_iload rfl rfl ?_
    refine rk_icmp_eq rfl rfl (fun hc67 => ?_) (fun hc67 => ?_)
    · replace hc67 := (nI_eq (by omega) (by omega)).mp hc67
      have hkt : k + 1 = (tn (bL N x L) (N 0) (itn (bL N x L) r (N 0))) := by
        apply Decidable.byContradiction
        intro y
        exact htn4 (k + 1) (by omega) (by omega) hc67
      rw [hkt]
      exact z _
    · replace hc67 := mt (nI_eq (by omega) (by omega)).mpr hc67
      refine rk_iinc rfl rfl (n_inc _) rfl ?_
      refine rk_iload rfl rfl ?_
      refine rk_iconst (v := nI 1) rfl (by decide) ?_
      refine rk_iload rfl rfl ?_
      refine rk_ishl rfl (b_1shlU (by omega)) ?_
      refine rk_ior rfl (b_orU _ _) ?_
      refine rk_istore rfl (Nat.le_of_ble_eq_true rfl) rfl ?_
      refine rk_aload_n rfl rfl ?_
      refine rk_iload_n rfl rfl ?_
      refine rk_iload rfl rfl ?_
      refine rk_aload_n rfl rfl ?_
      refine rk_get rfl (by assumption) rfl ?_
      refine rk_iload_n rfl rfl ?_
      refine rk_iald rfl (by assumption) (rfl) (by omega) (by decide) ?_
      rw [hm]
      refine rk_cv3e rfl rfl (by assumption) rfl rfl (Nat.le_of_ble_eq_true rfl) (Nat.le_of_ble_eq_true rfl) (s223 c0 c1 c79 hN M hi hx (Nat.le_refl _) hL hil) ?_
      refine rk_istore rfl (Nat.le_of_ble_eq_true rfl) rfl ?_
      refine rk_goto rfl rfl ?_
      have hkt : k + 1 ≠ (tn (bL N x L) (N 0) (itn (bL N x L) r (N 0))) := fun y => hc67 (by rw [y]; exact htn3)
      exact ih (k + 1) (by omega) (by omega)
theorem l273c {X : ai_X} {h : ai_H} {v A rm : Nat → Int32} {nu : Nat → Int64} {N x : Nat → Nat} {i L r c : Nat} {c4 : Int32} (c0 : h[52]? = some (cMdl v)) (c1 : h[53]? = some (cI 2346 A)) (c78 : h[78]? = some (cI 4 rm)) (c79 : h[79]? = some (cJ 160 nu)) (hN : HN N) (M : MH A N) (hi : i < 4) (hm : rm i = nI L) (hx : ∀ k, k < L → x k < N 1 ∧ nu (40 * i + k) = (nI (x k)).toInt64) (hL : L ≤ 40) (hr : r < N 0) (hc2 : c < 2) : ∀ (d : Nat) (j : Nat), ld (bL N x L) (N 0) r (tn (bL N x L) (N 0) (itn (bL N x L) r (N 0))) < j + d → (j ≤ ld (bL N x L) (N 0) r (tn (bL N x L) (N 0) (itn (bL N x L) r (N 0)))) → Rk X am_273 89 [some (.ref 52), some (.int (nI i)), some (.int (nI r)), some (.int (nI c)), some (.int c4), some (.int (nI (itn (bL N x L) r (N 0)))), some (.int (nI (tn (bL N x L) (N 0) (itn (bL N x L) r (N 0))))), some (.int (nI (rds (bL N x L) (itn (bL N x L) r (N 0)) (tn (bL N x L) (N 0) (itn (bL N x L) r (N 0)))))), some (.int (nI j)), some (.int (nI (itn (bL N x L) r j)))] [] h (Qe (if c = 1 then nI (tn (bL N x L) (N 0) (itn (bL N x L) r (N 0))) else nI (ld (bL N x L) (N 0) r (tn (bL N x L) (N 0) (itn (bL N x L) r (N 0))))) h) := by
  intro d
  induction d with
  | zero => intro j hd hj; exfalso; omega
  | succ d ih =>
    intro j hd hj
    obtain ⟨a0, a1, a268, a269, a270, a271, apl, apc, aot, asg, awt⟩ := id M
    have hn := hN.n
    have hbl := bL_lt (x := x) (L := L) hN (fun j hj => (hx j hj).1)
    obtain ⟨htn1, htn2, htn3, htn4⟩ := tn_ok hbl hr
    obtain ⟨hld1, hld2, hld3⟩ := ld_ok htn3
    have hil := itn_lt hbl hr j
    have hiff := rds_iff (j := j) htn1 htn3 (by omega)
    have hrl := rds_lt hbl (itn_lt hbl hr (N 0)) (tn (bL N x L) (N 0) (itn (bL N x L) r (N 0)))
    have hp14 := hN.p14
    refine rk_iload rfl rfl ?_
    refine rk_iload rfl rfl ?_
    refine rk_ishr rfl (b_shr (by omega) (by omega)) ?_
    refine rk_iconst (v := nI 1) rfl (by decide) ?_
    refine rk_iand rfl (b_and1U _) ?_
    refine rk_if_ne rfl rfl (fun hc94 => ?_) (fun hc94 => ?_)
    · replace hc94 := mt (n0_eq (by omega)).mpr hc94
      have hjl : j = ld (bL N x L) (N 0) r (tn (bL N x L) (N 0) (itn (bL N x L) r (N 0))) := by
        apply Decidable.byContradiction
        intro y
        exact hld3 j (by omega) (hiff.mp (by omega))
      refine rk_iload_n rfl rfl ?_
      refine rk_if_ne rfl rfl (fun hc107 => ?_) (fun hc107 => ?_)
      · replace hc107 := mt (n0_eq (by omega)).mpr hc107
        refine rk_iload rfl rfl ?_
        first | exact rk_ireturn rfl rfl (Qe_of (by rw [if_neg (by omega), hjl])) | exact rk_ireturn rfl rfl (Qe_of (by rw [if_pos (by omega)]))
      · replace hc107 := Decidable.not_not.mp hc107
        replace hc107 := (n0_eq (by omega)).mp hc107
        refine rk_iload rfl rfl ?_
        refine rk_goto rfl rfl ?_
        first | exact rk_ireturn rfl rfl (Qe_of (by rw [if_neg (by omega), hjl])) | exact rk_ireturn rfl rfl (Qe_of (by rw [if_pos (by omega)]))
    · replace hc94 := Decidable.not_not.mp hc94
      replace hc94 := (n0_eq (by omega)).mp hc94
      refine rk_iinc rfl rfl (n_inc _) rfl ?_
      refine rk_aload_n rfl rfl ?_
      refine rk_iload_n rfl rfl ?_
      refine rk_iload rfl rfl ?_
      refine rk_aload_n rfl rfl ?_
      refine rk_get rfl (by assumption) rfl ?_
      refine rk_iload_n rfl rfl ?_
      refine rk_iald rfl (by assumption) (rfl) (by omega) (by decide) ?_
      rw [hm]
      refine rk_cv3e rfl rfl (by assumption) rfl rfl (Nat.le_of_ble_eq_true rfl) (Nat.le_of_ble_eq_true rfl) (s223 c0 c1 c79 hN M hi hx (Nat.le_refl _) hL hil) ?_
      refine rk_istore rfl (Nat.le_of_ble_eq_true rfl) rfl ?_
      refine rk_goto rfl rfl ?_
      have hjl : j ≠ ld (bL N x L) (N 0) r (tn (bL N x L) (N 0) (itn (bL N x L) r (N 0))) := fun y => by
        have := hiff.mpr (by have := hld2; rw [← y] at this; exact this)
        omega
      exact ih (j + 1) (by omega) (by omega)
theorem m273_x {X : ai_X} {h : ai_H} {v A : Nat → Int32} {N : Nat → Nat} (c0 : h[52]? = some (cMdl v)) (c1 : h[53]? = some (cI 2346 A)) (hN : HN N) (M : MH A N) {a b c : Int32} (ha : ¬ (¬ a < 0 ∧ ¬ nI 4 ≤ a)) : Rk X am_273 3 (ai_loc (ai_mL am_273) [.ref 52, .int a, .int b, .int c]) [] h (Qe (-2) h) := by
  obtain ⟨a0, a1, a268, a269, a270, a271, apl, apc, aot, asg, awt⟩ := id M
  refine rk_iload_n rfl rfl ?_
  refine rk_i2l rfl rfl ?_
  refine rk_lconst (v := 0) rfl (by decide) ?_
  rw [show (0 : Int64) = (0 : Int32).toInt64 by decide]
  refine rk_ldc2 rfl ?_
  rw [show (3 : Int64) = (nI 3).toInt64 by decide]
  refine rk_cs3e rfl rfl rfl (Nat.le_of_ble_eq_true rfl) (Nat.le_of_ble_eq_true rfl) (s181 _ _ _) ?_
  refine rk_if_eq rfl rfl (fun hc8 => ?_) (fun hc8 => ?_)
  · replace hc8 := (bI_0).mp hc8
    refine rk_bipush (v := (-2)) rfl (by decide) ?_
    exact rk_ireturn rfl rfl (Qe_of (by first | rfl | rw [if_neg (by assumption)] | rw [if_pos rfl]))
  · replace hc8 := Decidable.not_not.mp (mt bI_0.mpr hc8)
    exact absurd (in34.mp hc8) ha
theorem m273_y {X : ai_X} {h : ai_H} {v A : Nat → Int32} {N : Nat → Nat} (c0 : h[52]? = some (cMdl v)) (c1 : h[53]? = some (cI 2346 A)) (hN : HN N) (M : MH A N) {i : Nat} {b c : Int32} (hi : i < 4) (hb : ¬ (¬ b < 0 ∧ ¬ nI (N 0) ≤ b)) : Rk X am_273 3 (ai_loc (ai_mL am_273) [.ref 52, .int (nI i), .int b, .int c]) [] h (Qe (-2) h) := by
  obtain ⟨a0, a1, a268, a269, a270, a271, apl, apc, aot, asg, awt⟩ := id M
  refine rk_iload_n rfl rfl ?_
  refine rk_i2l rfl rfl ?_
  refine rk_lconst (v := 0) rfl (by decide) ?_
  rw [show (0 : Int64) = (0 : Int32).toInt64 by decide]
  refine rk_ldc2 rfl ?_
  rw [show (3 : Int64) = (nI 3).toInt64 by decide]
  refine rk_cs3e rfl rfl rfl (Nat.le_of_ble_eq_true rfl) (Nat.le_of_ble_eq_true rfl) (s181 _ _ _) ?_
  refine rk_if_eq rfl rfl (fun hc8 => ?_) (fun hc8 => ?_)
  · replace hc8 := (bI_0).mp hc8
    exact absurd (in3_mk hi) hc8
  · replace hc8 := Decidable.not_not.mp (mt bI_0.mpr hc8)
    refine rk_aload_n rfl rfl ?_
    refine rk_iload_n rfl rfl ?_
    refine rk_cv1e rfl rfl (by assumption) rfl rfl (Nat.le_of_ble_eq_true rfl) (Nat.le_of_ble_eq_true rfl) (s207n c0 c1 a0 (by have := hN.n; omega) _) ?_
    refine rk_if_eq rfl rfl (fun hc12 => ?_) (fun hc12 => ?_)
    · replace hc12 := (bI_0).mp hc12
      refine rk_bipush (v := (-2)) rfl (by decide) ?_
      exact rk_ireturn rfl rfl (Qe_of (by first | rfl | rw [if_neg (by assumption)] | rw [if_pos rfl]))
    · replace hc12 := Decidable.not_not.mp (mt bI_0.mpr hc12)
      exact absurd hc12 hb
theorem m273_z {X : ai_X} {h : ai_H} {v A : Nat → Int32} {N : Nat → Nat} (c0 : h[52]? = some (cMdl v)) (c1 : h[53]? = some (cI 2346 A)) (hN : HN N) (M : MH A N) {i r : Nat} {c : Int32} (hi : i < 4) (hr : r < N 0) (hb : ¬ (¬ c < 0 ∧ ¬ nI 1 < c)) : Rk X am_273 3 (ai_loc (ai_mL am_273) [.ref 52, .int (nI i), .int (nI r), .int c]) [] h (Qe (-2) h) := by
  obtain ⟨a0, a1, a268, a269, a270, a271, apl, apc, aot, asg, awt⟩ := id M
  have hn := hN.n
  refine rk_iload_n rfl rfl ?_
  refine rk_i2l rfl rfl ?_
  refine rk_lconst (v := 0) rfl (by decide) ?_
  rw [show (0 : Int64) = (0 : Int32).toInt64 by decide]
  refine rk_ldc2 rfl ?_
  rw [show (3 : Int64) = (nI 3).toInt64 by decide]
  refine rk_cs3e rfl rfl rfl (Nat.le_of_ble_eq_true rfl) (Nat.le_of_ble_eq_true rfl) (s181 _ _ _) ?_
  refine rk_if_eq rfl rfl (fun hc8 => ?_) (fun hc8 => ?_)
  · replace hc8 := (bI_0).mp hc8
    exact absurd (in3_mk hi) hc8
  · replace hc8 := Decidable.not_not.mp (mt bI_0.mpr hc8)
    refine rk_aload_n rfl rfl ?_
    refine rk_iload_n rfl rfl ?_
    refine rk_cv1e rfl rfl (by assumption) rfl rfl (Nat.le_of_ble_eq_true rfl) (Nat.le_of_ble_eq_true rfl) (s207n c0 c1 a0 (by have := hN.n; omega) _) ?_
    refine rk_if_eq rfl rfl (fun hc12 => ?_) (fun hc12 => ?_)
    · replace hc12 := (bI_0).mp hc12
      exact absurd (in_mk (by omega) hr) hc12
    · replace hc12 := Decidable.not_not.mp (mt bI_0.mpr hc12)
      refine rk_iload_n rfl rfl ?_
      refine rk_i2l rfl rfl ?_
      refine rk_lconst (v := 0) rfl (by decide) ?_
      rw [show (0 : Int64) = (0 : Int32).toInt64 by decide]
      refine rk_lconst (v := 1) rfl (by decide) ?_
      rw [show (1 : Int64) = (nI 1).toInt64 by decide]
      refine rk_cs3e rfl rfl rfl (Nat.le_of_ble_eq_true rfl) (Nat.le_of_ble_eq_true rfl) (s181 _ _ _) ?_
      refine rk_if_ne rfl rfl (fun hc18 => ?_) (fun hc18 => ?_)
      · replace hc18 := Decidable.not_not.mp (mt bI_0.mpr hc18)
        exact absurd hc18 hb
      · replace hc18 := Decidable.not_not.mp hc18
        replace hc18 := (bI_0).mp hc18
        refine rk_bipush (v := (-2)) rfl (by decide) ?_
        exact rk_ireturn rfl rfl (Qe_of (by first | rfl | rw [if_neg (by assumption)] | rw [if_pos rfl]))
theorem m273_v {X : ai_X} {h : ai_H} {v A : Nat → Int32} {N : Nat → Nat} (c0 : h[52]? = some (cMdl v)) (c1 : h[53]? = some (cI 2346 A)) (hN : HN N) (M : MH A N) {i L : Nat} {code : Int32} {x : Nat → Nat} (hi : i < 4) (R : MRow h i (N 1) code L x) {r c : Nat} (hr : r < N 0) (hc2 : c < 2) : Rk X am_273 3 (ai_loc (ai_mL am_273) [.ref 52, .int (nI i), .int (nI r), .int (nI c)]) [] h (Qe (if code = 0 then (if c = 1 then nI (tn (bL N x L) (N 0) (itn (bL N x L) r (N 0))) else nI (ld (bL N x L) (N 0) r (tn (bL N x L) (N 0) (itn (bL N x L) r (N 0))))) else code) h) := by
  obtain ⟨a0, a1, a268, a269, a270, a271, apl, apc, aot, asg, awt⟩ := id M
  have hn := hN.n
  refine rk_iload_n rfl rfl ?_
  refine rk_i2l rfl rfl ?_
  refine rk_lconst (v := 0) rfl (by decide) ?_
  rw [show (0 : Int64) = (0 : Int32).toInt64 by decide]
  refine rk_ldc2 rfl ?_
  rw [show (3 : Int64) = (nI 3).toInt64 by decide]
  refine rk_cs3e rfl rfl rfl (Nat.le_of_ble_eq_true rfl) (Nat.le_of_ble_eq_true rfl) (s181 _ _ _) ?_
  refine rk_if_eq rfl rfl (fun hc8 => ?_) (fun hc8 => ?_)
  · replace hc8 := (bI_0).mp hc8
    exact absurd (in3_mk hi) hc8
  · replace hc8 := Decidable.not_not.mp (mt bI_0.mpr hc8)
    refine rk_aload_n rfl rfl ?_
    refine rk_iload_n rfl rfl ?_
    refine rk_cv1e rfl rfl (by assumption) rfl rfl (Nat.le_of_ble_eq_true rfl) (Nat.le_of_ble_eq_true rfl) (s207n c0 c1 a0 (by have := hN.n; omega) _) ?_
    refine rk_if_eq rfl rfl (fun hc12 => ?_) (fun hc12 => ?_)
    · replace hc12 := (bI_0).mp hc12
      exact absurd (in_mk (by omega) hr) hc12
    · replace hc12 := Decidable.not_not.mp (mt bI_0.mpr hc12)
      refine rk_iload_n rfl rfl ?_
      refine rk_i2l rfl rfl ?_
      refine rk_lconst (v := 0) rfl (by decide) ?_
      rw [show (0 : Int64) = (0 : Int32).toInt64 by decide]
      refine rk_lconst (v := 1) rfl (by decide) ?_
      rw [show (1 : Int64) = (nI 1).toInt64 by decide]
      refine rk_cs3e rfl rfl rfl (Nat.le_of_ble_eq_true rfl) (Nat.le_of_ble_eq_true rfl) (s181 _ _ _) ?_
      refine rk_if_ne rfl rfl (fun hc18 => ?_) (fun hc18 => ?_)
      · replace hc18 := Decidable.not_not.mp (mt bI_0.mpr hc18)
        refine rk_aload_n rfl rfl ?_
        refine rk_iload_n rfl rfl ?_
        refine rk_cv1e rfl rfl (by assumption) rfl rfl (Nat.le_of_ble_eq_true rfl) (Nat.le_of_ble_eq_true rfl) (s221 c0 c1 a1 hN.t hi R) ?_
        refine rk_istore rfl (Nat.le_of_ble_eq_true rfl) rfl ?_
        refine rk_iload rfl rfl ?_
        refine rk_if_eq rfl rfl (fun hc26 => ?_) (fun hc26 => ?_)
        · subst hc26
          obtain ⟨rm, nu, c3, c4, hm, hL, hx⟩ := R.good
          rw [if_pos rfl]
          have hbl := bL_lt (x := x) (L := L) hN (fun j hj => (hx j hj).1)
          refine rk_iload_n rfl rfl ?_
          refine rk_istore rfl (Nat.le_of_ble_eq_true rfl) rfl ?_
          refine rk_iconst (v := nI 0) rfl (by decide) ?_
          refine rk_istore rfl (Nat.le_of_ble_eq_true rfl) rfl ?_
          refine l273a c0 c1 c3 c4 hN M hi hm hx hL hr hc2 ?_ (N 0 + 1) 0 (by omega) (by omega)
          obtain ⟨htn1, htn2, htn3, htn4⟩ := tn_ok hbl hr
          have hil0 := itn_lt hbl hr (N 0)
          refine rk_iconst (v := nI 1) rfl (by decide) ?_
          refine rk_istore rfl (Nat.le_of_ble_eq_true rfl) rfl ?_
          refine rk_iconst (v := nI 1) rfl (by decide) ?_
          refine rk_iload rfl rfl ?_
          refine rk_ishl rfl (b_1shlU (by omega)) ?_
          refine rk_istore rfl (Nat.le_of_ble_eq_true rfl) rfl ?_
          refine rk_aload_n rfl rfl ?_
          refine rk_iload_n rfl rfl ?_
          refine rk_iload rfl rfl ?_
          refine rk_aload_n rfl rfl ?_
          refine rk_get rfl (by assumption) rfl ?_
          refine rk_iload_n rfl rfl ?_
          refine rk_iald rfl (by assumption) (rfl) (by omega) (by decide) ?_
          rw [hm]
          refine rk_cv3e rfl rfl (by assumption) rfl rfl (Nat.le_of_ble_eq_true rfl) (Nat.le_of_ble_eq_true rfl) (s223 c0 c1 c4 hN M hi hx (Nat.le_refl _) hL hil0) ?_
          refine rk_istore rfl (Nat.le_of_ble_eq_true rfl) rfl ?_
          have hr1 : rds (bL N x L) (itn (bL N x L) r (N 0)) 1 = 2 ^ (itn (bL N x L) r (N 0)) := by show 0 ||| 2 ^ (itn (bL N x L) r (N 0)) = _; rw [Nat.zero_or]
          rw [← hr1]
          refine l273b c0 c1 c3 c4 hN M hi hm hx hL hr hc2 (fun c8 => ?_) ((tn (bL N x L) (N 0) (itn (bL N x L) r (N 0))) + 1) 0 (by omega) (by omega)
          refine rk_iconst (v := nI 0) rfl (by decide) ?_
          refine rk_istore rfl (Nat.le_of_ble_eq_true rfl) rfl ?_
          refine rk_iload_n rfl rfl ?_
          refine rk_istore rfl (Nat.le_of_ble_eq_true rfl) rfl ?_
          exact l273c c0 c1 c3 c4 hN M hi hm hx hL hr hc2 (ld (bL N x L) (N 0) r (tn (bL N x L) (N 0) (itn (bL N x L) r (N 0))) + 1) 0 (by omega) (by omega)
        · refine rk_iload rfl rfl ?_
          exact rk_ireturn rfl rfl (Qe_of (by first | rfl | rw [if_neg (by assumption)] | rw [if_pos rfl]))
      · replace hc18 := Decidable.not_not.mp hc18
        replace hc18 := (bI_0).mp hc18
        exact absurd (w1_mk hc2) hc18
theorem ob34 (X : ai_X) : O34 X Inv := by
  intro a b c
  refine ob_scr fun m c' s h I => ?_
  obtain ⟨tp, v, A, N, ro, d0, d52, d53, hN, C, M, d19, hro, Q, RR, O⟩ := I.dat
  by_cases ha : ¬ a < 0 ∧ ¬ nI 4 ≤ a
  · obtain ⟨i, hi, rfl⟩ := in_of (by omega) ha
    obtain ⟨code, L, x, RC, RM⟩ := RR i hi
    by_cases hb : ¬ b < 0 ∧ ¬ nI (N 0) ≤ b
    · have hn := hN.n
      obtain ⟨r, hr, rfl⟩ := in_of (by omega) hb
      by_cases hc : ¬ c < 0 ∧ ¬ nI 1 < c
      · obtain ⟨c, hc2, rfl⟩ := w1_of hc
        exact ⟨_, c166_v d0 hN C d19 hro Q O hi RC hr hc2, fun h1 S => md_scr rfl rfl rfl rfl ((S.m (by omega)).trans d52) (fun h2 g2 hk => m273_v g2 ((S.m2 hk (by omega) (by omega)).trans d53) hN M hi (RM.m2 S hk) hr hc2)⟩
      · exact ⟨_, c166_z d0 hN C d19 hro Q O hi hr hc, fun h1 S => md_scr rfl rfl rfl rfl ((S.m (by omega)).trans d52) (fun h2 g2 hk => m273_z g2 ((S.m2 hk (by omega) (by omega)).trans d53) hN M hi hr hc)⟩
    · exact ⟨_, c166_y d0 hN C d19 hro Q O hi hb, fun h1 S => md_scr rfl rfl rfl rfl ((S.m (by omega)).trans d52) (fun h2 g2 hk => m273_y g2 ((S.m2 hk (by omega) (by omega)).trans d53) hN M hi hb)⟩
  · exact ⟨_, c166_x d0 hN C d19 hro Q O ha, fun h1 S => md_scr rfl rfl rfl rfl ((S.m (by omega)).trans d52) (fun h2 g2 hk => m273_x g2 ((S.m2 hk (by omega) (by omega)).trans d53) hN M ha)⟩
