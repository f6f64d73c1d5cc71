/-! HOUSE: tokens; the class's reader -/
def isB (c : Nat) : Bool := decide (c = 10 ∨ c = 32)
def isL (c : Nat) : Bool := decide (97 ≤ c ∧ c ≤ 122)
def isD (c : Nat) : Bool := decide (48 ≤ c ∧ c ≤ 57)
/-- from i on: the first that is not of this sort, or the end -/
def fwd (p : Nat → Bool) (b : Nat → Nat) (n i : Nat) : Nat := ffi (fun j => !(p (b j))) (n - i) i
theorem fwd_y {p : Nat → Bool} {b : Nat → Nat} {n i : Nat} (hi : i < n) (h : p (b i) = true) : fwd p b n i = fwd p b n (i + 1) := by
  unfold fwd
  exact ffi_f hi (by rw [h]; decide)
theorem fwd_n {p : Nat → Bool} {b : Nat → Nat} {n i : Nat} (hi : i < n) (h : ¬ p (b i) = true) : fwd p b n i = i := by
  unfold fwd
  exact ffi_t hi (by rw [Bool.not_eq_true', Bool.eq_false_iff]; exact h)
theorem fwd_e {p : Nat → Bool} {b : Nat → Nat} {n i : Nat} (hi : n ≤ i) : fwd p b n i = i := by
  unfold fwd
  rw [show n - i = 0 by omega]
  rfl
theorem fwd_b {p : Nat → Bool} {b : Nat → Nat} {n : Nat} : ∀ d i, n ≤ i + d → i ≤ n → i ≤ fwd p b n i ∧ fwd p b n i ≤ n ∧ (∀ j, i ≤ j → j < fwd p b n i → p (b j) = true) ∧ (fwd p b n i < n → ¬ p (b (fwd p b n i)) = true)
  | 0, i, h1, h2 => by
    rw [fwd_e (by omega)]
    exact ⟨Nat.le_refl _, h2, fun j a c => absurd c (by omega), fun y => absurd y (by omega)⟩
  | d + 1, i, h1, h2 => by
    by_cases hi : i < n
    · by_cases hp : p (b i) = true
      · obtain ⟨a1, a2, a3, a4⟩ := fwd_b (p := p) (b := b) (n := n) d (i + 1) (by omega) (by omega)
        rw [fwd_y hi hp]
        refine ⟨by omega, a2, fun j c1 c2 => ?_, a4⟩
        by_cases q : j = i
        · rw [q]; exact hp
        · exact a3 j (by omega) c2
      · rw [fwd_n hi hp]
        exact ⟨Nat.le_refl _, h2, fun j a c => absurd c (by omega), fun _ => hp⟩
    · rw [fwd_e (by omega)]
      exact ⟨Nat.le_refl _, h2, fun j a c => absurd c (by omega), fun y => absurd y (by omega)⟩
def kc (i j : Nat) : Nat := ((ai_sb.getD i []).getD j 0).toNatClampNeg
abbrev wl (i : Nat) : Nat := ai_sl.getD i 0
set_option maxRecDepth 100000 in
theorem scQ : ∀ i, i < 11 → ∀ j, j < 58 → ai_sc i j = nI (kc i j) ∧ kc i j < 128 := by decide +kernel
theorem wl_le : ∀ i, i < 11 → wl i ≤ 58 := by decide
def mtw (b : Nat → Nat) (s e i : Nat) : Bool := decide (e - s = wl i) && alg (fun j => decide (b (s + j) = kc i j)) (wl i)
def kw (b : Nat → Nat) (s e : Nat) : Nat := ffi (mtw b s e) 10 0
section TOK
variable (b : Nat → Nat) (n : Nat)
def ts (p : Nat) : Nat := fwd isB b n p
def te (p : Nat) : Nat := if n ≤ ts b n p then ts b n p else if isL (b (ts b n p)) = true then fwd isL b n (ts b n p) else if isD (b (ts b n p)) = true then fwd isD b n (ts b n p) else ts b n p + 1
def tkd (p : Nat) : Nat := if n ≤ ts b n p then 13 else if isL (b (ts b n p)) = true then kw b (ts b n p) (te b n p) else if isD (b (ts b n p)) = true then (if 3 < te b n p - ts b n p then 14 else 11) else if b (ts b n p) = 59 then 12 else 14
def nval (s : Nat) : Nat → Nat
  | 0 => 0
  | k + 1 => nval s k * 10 + b (s + k) - 48
def tv (p : Nat) : Nat := nval b (ts b n p) (te b n p - ts b n p)
end TOK
def ck (k : Nat) : Nat := if k ≤ 10 then 1 else if k = 11 then 2 else if k = 12 then 3 else if k = 13 then 0 else 4
theorem kw_le (b : Nat → Nat) (s e : Nat) : kw b s e ≤ 10 := by
  unfold kw
  by_cases h : ∃ i, 0 ≤ i ∧ i < 0 + 10 ∧ mtw b s e i = true
  · have := (ffi_ex _ _ h).1
    omega
  · have := ffi_no (p := mtw b s e) 10 0 (fun i a c z => h ⟨i, a, c, z⟩)
    omega
theorem ts_b {b : Nat → Nat} {n p : Nat} (hp : p ≤ n) : p ≤ ts b n p ∧ ts b n p ≤ n := by
  obtain ⟨a1, a2, -⟩ := fwd_b (p := isB) (b := b) (n := n) (n - p) p (by omega) hp
  exact ⟨a1, a2⟩
theorem te_b {b : Nat → Nat} {n p : Nat} (hp : p ≤ n) : ts b n p ≤ te b n p ∧ te b n p ≤ n ∧ (ts b n p < n → ts b n p < te b n p) := by
  obtain ⟨a1, a2⟩ := ts_b (b := b) hp
  unfold te
  by_cases h : n ≤ ts b n p
  · rw [if_pos h]; exact ⟨Nat.le_refl _, a2, fun y => by omega⟩
  · rw [if_neg h]
    by_cases hl : isL (b (ts b n p)) = true
    · rw [if_pos hl, fwd_y (by omega) hl]
      obtain ⟨c1, c2, -⟩ := fwd_b (p := isL) (b := b) (n := n) (n - (ts b n p + 1)) (ts b n p + 1) (by omega) (by omega)
      exact ⟨by omega, c2, fun _ => by omega⟩
    · rw [if_neg hl]
      by_cases hd : isD (b (ts b n p)) = true
      · rw [if_pos hd, fwd_y (by omega) hd]
        obtain ⟨c1, c2, -⟩ := fwd_b (p := isD) (b := b) (n := n) (n - (ts b n p + 1)) (ts b n p + 1) (by omega) (by omega)
        exact ⟨by omega, c2, fun _ => by omega⟩
      · rw [if_neg hd]; exact ⟨by omega, by omega, fun _ => by omega⟩
theorem tkd_13 {b : Nat → Nat} {n p : Nat} : tkd b n p = 13 ↔ n ≤ ts b n p := by
  unfold tkd
  by_cases h : n ≤ ts b n p
  · rw [if_pos h]; exact ⟨fun _ => h, fun _ => rfl⟩
  · rw [if_neg h]
    refine ⟨fun z => ?_, fun z => absurd z h⟩
    exfalso
    split at z
    · have := kw_le b (ts b n p) (te b n p); omega
    · split at z
      · split at z <;> omega
      · split at z <;> omega
/-- digits: few, and what they say -/
theorem tkd_11 {b : Nat → Nat} {n p : Nat} (hp : p ≤ n) (h : tkd b n p = 11) : te b n p - ts b n p ≤ 3 ∧ ∀ j, ts b n p ≤ j → j < te b n p → isD (b j) = true := by
  have h13 : ¬ n ≤ ts b n p := fun y => by have := tkd_13.mpr y; omega
  unfold tkd at h
  rw [if_neg h13] at h
  by_cases hl : isL (b (ts b n p)) = true
  · rw [if_pos hl] at h
    have := kw_le b (ts b n p) (te b n p)
    omega
  · rw [if_neg hl] at h
    by_cases hd : isD (b (ts b n p)) = true
    · rw [if_pos hd] at h
      refine ⟨by split at h <;> omega, fun j a c => ?_⟩
      have hte : te b n p = fwd isD b n (ts b n p) := by rw [te, if_neg h13, if_neg hl, if_pos hd]
      rw [hte] at c
      exact (fwd_b (p := isD) (b := b) (n := n) (n - ts b n p) (ts b n p) (by omega) (ts_b hp).2).2.2.1 j a c
    · rw [if_neg hd] at h
      split at h <;> omega
theorem isD_b {c : Nat} (h : isD c = true) : 48 ≤ c ∧ c ≤ 57 := of_decide_eq_true h
theorem nval_lt {b : Nat → Nat} {s : Nat} : ∀ k, (∀ j, j < k → isD (b (s + j)) = true) → nval b s k < 10 ^ k
  | 0, _ => by rw [nval]; decide
  | k + 1, h => by
    have ih := nval_lt (b := b) (s := s) k (fun j hj => h j (by omega))
    have h1 := isD_b (h k (by omega))
    rw [nval, Nat.pow_succ]
    omega
theorem p10 {k : Nat} (h : k ≤ 3) : 10 ^ k ≤ 1000 := Nat.le_trans (Nat.pow_le_pow_right (by decide) h) (by decide)
/-- a number's fault -/
def nf (b : Nat → Nat) (n lo hi p : Nat) : Nat := if tkd b n p = 14 then 1 else if ¬ tkd b n p = 11 then 2 else if tv b n p < lo ∨ hi < tv b n p then 3 else 0
theorem nf_0 {b : Nat → Nat} {n lo hi p : Nat} : nf b n lo hi p = 0 ↔ tkd b n p = 11 ∧ lo ≤ tv b n p ∧ tv b n p ≤ hi := by
  unfold nf
  split
  · omega
  · split
    · omega
    · split <;> omega
/-! the reader -/
section PUTR
variable {X : ai_X} {M : ai_M} {k : Nat} {ls : ai_L} {st : List Value} {h : ai_H} {P : ai_O → Prop}
theorem rk_putR {pc len f p q i : Nat} {v0 rf : Value} {g : Nat → Int32} {w : Int32} (hr : (ai_mR M)[k]? = some (pc, .putfield i, len, v0, 5, f, p, q)) (hh : h[2]? = some (cRead rf g)) (hf : f = 0 ∨ f = 1 ∨ f = 3 ∨ f = 4 ∨ f = 5 ∨ f = 6) (z : ∀ (h1 : ai_H) (g1 : Nat → Int32), h1[2]? = some (cRead rf g1) → g1 f = w → (∀ j, j ≠ f → g1 j = g j) → (∀ q : Nat, q ≠ 2 → h1[q]? = h[q]?) → h1.length = h.length → Rk X M (k + 1) ls st h1 P) : Rk X M k ls (.int w :: .ref 2 :: st) h P := by
  have z' : ∀ h1 : ai_H, h1[2]? = some (cRead rf (upd g f w)) → (∀ q : Nat, q ≠ 2 → h1[q]? = h[q]?) → h1.length = h.length → Rk X M (k + 1) ls st h1 P := fun h1 a c d => z h1 (upd g f w) a (if_pos rfl) (fun j hj => if_neg hj) c d
  rcases hf with rfl | rfl | rfl | rfl | rfl | rfl
  · exact rk_put hr hh (Nat.le_of_ble_eq_true rfl) ft_5_0 rfl (Or.inl rfl) rfl (hp_gen hh z')
  · exact rk_put hr hh (Nat.le_of_ble_eq_true rfl) ft_5_1 rfl (Or.inl rfl) rfl (hp_gen hh z')
  · exact rk_put hr hh (Nat.le_of_ble_eq_true rfl) ft_5_3 rfl (Or.inl rfl) rfl (hp_gen hh z')
  · exact rk_put hr hh (Nat.le_of_ble_eq_true rfl) ft_5_4 rfl (Or.inl rfl) rfl (hp_gen hh z')
  · exact rk_put hr hh (Nat.le_of_ble_eq_true rfl) ft_5_5 rfl (Or.inl rfl) rfl (hp_gen hh z')
  · exact rk_put hr hh (Nat.le_of_ble_eq_true rfl) ft_5_6 rfl (Or.inl rfl) rfl (hp_gen hh z')
end PUTR
/-- the tape as it lies -/
def TP (h : ai_H) (q : Nat) (b : Nat → Nat) : Prop := ∃ T, h[q]? = some (cI 600 T) ∧ ∀ i, i < 600 → T i = nI (b i) ∧ b i < 256
theorem TP.fr {h h1 : ai_H} {q : Nat} {b : Nat → Nat} (e : h1[q]? = h[q]?) (H : TP h q b) : TP h1 q b := by
  obtain ⟨T, c, r⟩ := H
  exact ⟨T, e.trans c, r⟩
/-- about to read at E -/
def RDE (h : ai_H) (n : Nat) (fk fp : Int32) (E : Nat) : Prop := ∃ g, h[2]? = some (cRead (.ref 1) g) ∧ g 0 = fk ∧ g 1 = fp ∧ g 3 = nI n ∧ g 6 = nI E
/-- has read the token at p -/
def RDT (h : ai_H) (b : Nat → Nat) (n : Nat) (fk fp : Int32) (p : Nat) : Prop := ∃ g, h[2]? = some (cRead (.ref 1) g) ∧ g 0 = fk ∧ g 1 = fp ∧ g 3 = nI n ∧ g 4 = nI (ck (tkd b n p)) ∧ g 5 = nI (ts b n p) ∧ g 6 = nI (te b n p)
theorem RDT.e {h : ai_H} {b : Nat → Nat} {n p : Nat} {fk fp : Int32} (H : RDT h b n fk fp p) : RDE h n fk fp (te b n p) := by
  obtain ⟨g, a1, a2, a3, a4, -, -, a7⟩ := H
  exact ⟨g, a1, a2, a3, a4, a7⟩
theorem RDE.fr {h h1 : ai_H} {n E : Nat} {fk fp : Int32} (e : h1[2]? = h[2]?) (H : RDE h n fk fp E) : RDE h1 n fk fp E := by
  obtain ⟨g, a1, r⟩ := H
  exact ⟨g, e.trans a1, r⟩
theorem RDT.fr {h h1 : ai_H} {b : Nat → Nat} {n p : Nat} {fk fp : Int32} (e : h1[2]? = h[2]?) (H : RDT h b n fk fp p) : RDT h1 b n fk fp p := by
  obtain ⟨g, a1, r⟩ := H
  exact ⟨g, e.trans a1, r⟩
theorem s72 {X : ai_X} {h : ai_H} {b : Nat → Nat} {g : Nat → Int32} {i : Nat} (Tp : TP h 1 b) (e2 : h[2]? = some (cRead (.ref 1) g)) (hi : i < 600) : Mt X am_72 [.ref 2, .int (nI i)] h (Qe (bI (isL (b i) = true)) h) := by
  obtain ⟨T, c1, hT⟩ := Tp
  obtain ⟨t1, t2⟩ := hT i hi
  refine rk_aload_n rfl rfl ?_
  refine rk_get rfl (by assumption) rfl ?_
  refine rk_iload_n rfl rfl ?_
  refine rk_iald rfl (by assumption) (rfl) (by omega) (by decide) ?_
  rw [t1]
  refine rk_bipush (v := nI 97) rfl (by decide) ?_
  refine rk_icmp_lt rfl rfl (fun hc5 => ?_) (fun hc5 => ?_)
  · replace hc5 := (nI_ltI (by omega) (by omega)).mp hc5
    refine rk_iconst (v := nI 0) rfl (by decide) ?_
    first | exact rk_ireturn rfl rfl (Qe_of (by rw [bI_t (show isL (b i) = true from decide_eq_true (by omega))]; rfl)) | exact rk_ireturn rfl rfl (Qe_of (by rw [bI_f (show ¬ isL (b i) = true from fun y => by have := of_decide_eq_true y; omega)]; rfl))
  · replace hc5 := mt (nI_ltI (by omega) (by omega)).mpr hc5
    refine rk_aload_n rfl rfl ?_
    refine rk_get rfl (by assumption) rfl ?_
    refine rk_iload_n rfl rfl ?_
    refine rk_iald rfl (by assumption) (rfl) (by omega) (by decide) ?_
    rw [t1]
    refine rk_bipush (v := nI 122) rfl (by decide) ?_
    refine rk_icmp_gt rfl rfl (fun hc11 => ?_) (fun hc11 => ?_)
    · replace hc11 := (nI_ltI (by omega) (by omega)).mp hc11
      refine rk_iconst (v := nI 0) rfl (by decide) ?_
      first | exact rk_ireturn rfl rfl (Qe_of (by rw [bI_t (show isL (b i) = true from decide_eq_true (by omega))]; rfl)) | exact rk_ireturn rfl rfl (Qe_of (by rw [bI_f (show ¬ isL (b i) = true from fun y => by have := of_decide_eq_true y; omega)]; rfl))
    · replace hc11 := mt (nI_ltI (by omega) (by omega)).mpr hc11
      refine rk_iconst (v := nI 1) rfl (by decide) ?_
      refine rk_goto rfl rfl ?_
      first | exact rk_ireturn rfl rfl (Qe_of (by rw [bI_t (show isL (b i) = true from decide_eq_true (by omega))]; rfl)) | exact rk_ireturn rfl rfl (Qe_of (by rw [bI_f (show ¬ isL (b i) = true from fun y => by have := of_decide_eq_true y; omega)]; rfl))
theorem s73 {X : ai_X} {h : ai_H} {b : Nat → Nat} {g : Nat → Int32} {i : Nat} (Tp : TP h 1 b) (e2 : h[2]? = some (cRead (.ref 1) g)) (hi : i < 600) : Mt X am_73 [.ref 2, .int (nI i)] h (Qe (bI (isD (b i) = true)) h) := by
  obtain ⟨T, c1, hT⟩ := Tp
  obtain ⟨t1, t2⟩ := hT i hi
  refine rk_aload_n rfl rfl ?_
  refine rk_get rfl (by assumption) rfl ?_
  refine rk_iload_n rfl rfl ?_
  refine rk_iald rfl (by assumption) (rfl) (by omega) (by decide) ?_
  rw [t1]
  refine rk_bipush (v := nI 48) rfl (by decide) ?_
  refine rk_icmp_lt rfl rfl (fun hc5 => ?_) (fun hc5 => ?_)
  · replace hc5 := (nI_ltI (by omega) (by omega)).mp hc5
    refine rk_iconst (v := nI 0) rfl (by decide) ?_
    first | exact rk_ireturn rfl rfl (Qe_of (by rw [bI_t (show isD (b i) = true from decide_eq_true (by omega))]; rfl)) | exact rk_ireturn rfl rfl (Qe_of (by rw [bI_f (show ¬ isD (b i) = true from fun y => by have := of_decide_eq_true y; omega)]; rfl))
  · replace hc5 := mt (nI_ltI (by omega) (by omega)).mpr hc5
    refine rk_aload_n rfl rfl ?_
    refine rk_get rfl (by assumption) rfl ?_
    refine rk_iload_n rfl rfl ?_
    refine rk_iald rfl (by assumption) (rfl) (by omega) (by decide) ?_
    rw [t1]
    refine rk_bipush (v := nI 57) rfl (by decide) ?_
    refine rk_icmp_gt rfl rfl (fun hc11 => ?_) (fun hc11 => ?_)
    · replace hc11 := (nI_ltI (by omega) (by omega)).mp hc11
      refine rk_iconst (v := nI 0) rfl (by decide) ?_
      first | exact rk_ireturn rfl rfl (Qe_of (by rw [bI_t (show isD (b i) = true from decide_eq_true (by omega))]; rfl)) | exact rk_ireturn rfl rfl (Qe_of (by rw [bI_f (show ¬ isD (b i) = true from fun y => by have := of_decide_eq_true y; omega)]; rfl))
    · replace hc11 := mt (nI_ltI (by omega) (by omega)).mpr hc11
      refine rk_iconst (v := nI 1) rfl (by decide) ?_
      refine rk_goto rfl rfl ?_
      first | exact rk_ireturn rfl rfl (Qe_of (by rw [bI_t (show isD (b i) = true from decide_eq_true (by omega))]; rfl)) | exact rk_ireturn rfl rfl (Qe_of (by rw [bI_f (show ¬ isD (b i) = true from fun y => by have := of_decide_eq_true y; omega)]; rfl))
theorem l71a {X : ai_X} {h : ai_H} {b : Nat → Nat} {n : Nat} (Tp : TP h 1 b) (hn : n ≤ 600) {g : Nat → Int32} (e2 : h[2]? = some (cRead (.ref 1) g)) (hg3 : g 3 = nI n) {S : Nat} {P : ai_O → Prop} (z : Rk X am_71 21 [some (.ref 2), some (.int (nI S))] [] h P) : ∀ (d : Nat) (j : Nat), n < j + d → (j ≤ n) → (fwd isB b n j = S) → Rk X am_71 3 [some (.ref 2), some (.int (nI j))] [] h (P) := by
  intro d
  induction d with
  | zero => intro j hd hj hS; exfalso; omega
  | succ d ih =>
    intro j hd hj hS
    obtain ⟨T, c1, hT⟩ := id Tp
    have hTj := hT j
    refine rk_iload_n rfl rfl ?_
    refine rk_aload_n rfl rfl ?_
    refine rk_get rfl (by assumption) rfl ?_
    rw [hg3]
    refine rk_icmp_ge rfl rfl (fun hc6 => ?_) (fun hc6 => ?_)
    · replace hc6 := (nI_leI (by omega) (by omega)).mp hc6
      have hSj : S = j := by
        first
          | (rw [fwd_e (by omega)] at hS; exact hS.symm)
          | (rw [fwd_n (by omega) (fun y => by have := of_decide_eq_true y; omega)] at hS; exact hS.symm)
      subst hSj
      exact z
    · replace hc6 := mt (nI_leI (by omega) (by omega)).mpr hc6
      refine rk_aload_n rfl rfl ?_
      refine rk_get rfl (by assumption) rfl ?_
      refine rk_iload_n rfl rfl ?_
      refine rk_iald rfl (by assumption) (rfl) (by omega) (by decide) ?_
      rw [(hTj (by omega)).1]
      have t2 := (hTj (by omega)).2
      refine rk_bipush (v := nI 10) rfl (by decide) ?_
      refine rk_icmp_eq rfl rfl (fun hc12 => ?_) (fun hc12 => ?_)
      · replace hc12 := (nI_eq (by omega) (by omega)).mp hc12
        refine rk_iinc rfl rfl (n_inc _) rfl ?_
        refine rk_goto rfl rfl ?_
        rw [fwd_y (by omega) (decide_eq_true (by omega))] at hS
        exact ih (j + 1) (by omega) (by omega) hS
      · replace hc12 := mt (nI_eq (by omega) (by omega)).mpr hc12
        refine rk_aload_n rfl rfl ?_
        refine rk_get rfl (by assumption) rfl ?_
        refine rk_iload_n rfl rfl ?_
        refine rk_iald rfl (by assumption) (rfl) (by omega) (by decide) ?_
        rw [(hTj (by omega)).1]
        refine rk_bipush (v := nI 32) rfl (by decide) ?_
        refine rk_icmp_ne rfl rfl (fun hc18 => ?_) (fun hc18 => ?_)
        · replace hc18 := mt (nI_eq (by omega) (by omega)).mpr hc18
          have hSj : S = j := by
            first
              | (rw [fwd_e (by omega)] at hS; exact hS.symm)
              | (rw [fwd_n (by omega) (fun y => by have := of_decide_eq_true y; omega)] at hS; exact hS.symm)
          subst hSj
          exact z
        · replace hc18 := Decidable.not_not.mp hc18
          replace hc18 := (nI_eq (by omega) (by omega)).mp hc18
          refine rk_iinc rfl rfl (n_inc _) rfl ?_
          refine rk_goto rfl rfl ?_
          rw [fwd_y (by omega) (decide_eq_true (by omega))] at hS
          exact ih (j + 1) (by omega) (by omega) hS
theorem l71b {X : ai_X} {h : ai_H} {b : Nat → Nat} {n : Nat} (Tp : TP h 1 b) (hn : n ≤ 600) {g : Nat → Int32} (e2 : h[2]? = some (cRead (.ref 1) g)) (hg3 : g 3 = nI n) {S : Nat} {P : ai_O → Prop} (z : Rk X am_71 87 [some (.ref 2), some (.int (nI S))] [] h P) : ∀ (d : Nat) (j : Nat), n < j + d → (j ≤ n) → (fwd isL b n j = S) → Rk X am_71 39 [some (.ref 2), some (.int (nI j))] [] h (P) := by
  intro d
  induction d with
  | zero => intro j hd hj hS; exfalso; omega
  | succ d ih =>
    intro j hd hj hS
    refine rk_iload_n rfl rfl ?_
    refine rk_aload_n rfl rfl ?_
    refine rk_get rfl (by assumption) rfl ?_
    rw [hg3]
    refine rk_icmp_ge rfl rfl (fun hc42 => ?_) (fun hc42 => ?_)
    · replace hc42 := (nI_leI (by omega) (by omega)).mp hc42
      have hSj : S = j := by
        first
          | (rw [fwd_e (by omega)] at hS; exact hS.symm)
          | (rw [fwd_n (by omega) (by assumption)] at hS; exact hS.symm)
      subst hSj
      exact z
    · replace hc42 := mt (nI_leI (by omega) (by omega)).mpr hc42
      refine rk_aload_n rfl rfl ?_
      refine rk_iload_n rfl rfl ?_
      refine rk_cv1e rfl rfl (by assumption) rfl rfl (Nat.le_of_ble_eq_true rfl) (Nat.le_of_ble_eq_true rfl) (s72 Tp e2 (by omega)) ?_
      refine rk_if_eq rfl rfl (fun hc46 => ?_) (fun hc46 => ?_)
      · replace hc46 := (bI_0).mp hc46
        have hSj : S = j := by
          first
            | (rw [fwd_e (by omega)] at hS; exact hS.symm)
            | (rw [fwd_n (by omega) (by assumption)] at hS; exact hS.symm)
        subst hSj
        exact z
      · replace hc46 := Decidable.not_not.mp (mt bI_0.mpr hc46)
        refine rk_iinc rfl rfl (n_inc _) rfl ?_
        refine rk_goto rfl rfl ?_
        rw [fwd_y (by omega) (by assumption)] at hS
        exact ih (j + 1) (by omega) (by omega) hS
theorem l71c {X : ai_X} {h : ai_H} {b : Nat → Nat} {n : Nat} (Tp : TP h 1 b) (hn : n ≤ 600) {g : Nat → Int32} (e2 : h[2]? = some (cRead (.ref 1) g)) (hg3 : g 3 = nI n) {S : Nat} {P : ai_O → Prop} (z : Rk X am_71 63 [some (.ref 2), some (.int (nI S))] [] h P) : ∀ (d : Nat) (j : Nat), n < j + d → (j ≤ n) → (fwd isD b n j = S) → Rk X am_71 53 [some (.ref 2), some (.int (nI j))] [] h (P) := by
  intro d
  induction d with
  | zero => intro j hd hj hS; exfalso; omega
  | succ d ih =>
    intro j hd hj hS
    refine rk_iload_n rfl rfl ?_
    refine rk_aload_n rfl rfl ?_
    refine rk_get rfl (by assumption) rfl ?_
    rw [hg3]
    refine rk_icmp_ge rfl rfl (fun hc56 => ?_) (fun hc56 => ?_)
    · replace hc56 := (nI_leI (by omega) (by omega)).mp hc56
      have hSj : S = j := by
        first
          | (rw [fwd_e (by omega)] at hS; exact hS.symm)
          | (rw [fwd_n (by omega) (by assumption)] at hS; exact hS.symm)
      subst hSj
      exact z
    · replace hc56 := mt (nI_leI (by omega) (by omega)).mpr hc56
      refine rk_aload_n rfl rfl ?_
      refine rk_iload_n rfl rfl ?_
      refine rk_cv1e rfl rfl (by assumption) rfl rfl (Nat.le_of_ble_eq_true rfl) (Nat.le_of_ble_eq_true rfl) (s73 Tp e2 (by omega)) ?_
      refine rk_if_eq rfl rfl (fun hc60 => ?_) (fun hc60 => ?_)
      · replace hc60 := (bI_0).mp hc60
        have hSj : S = j := by
          first
            | (rw [fwd_e (by omega)] at hS; exact hS.symm)
            | (rw [fwd_n (by omega) (by assumption)] at hS; exact hS.symm)
        subst hSj
        exact z
      · replace hc60 := Decidable.not_not.mp (mt bI_0.mpr hc60)
        refine rk_iinc rfl rfl (n_inc _) rfl ?_
        refine rk_goto rfl rfl ?_
        rw [fwd_y (by omega) (by assumption)] at hS
        exact ih (j + 1) (by omega) (by omega) hS
theorem s71 {X : ai_X} {h : ai_H} {b : Nat → Nat} {n : Nat} (Tp : TP h 1 b) (hn : n ≤ 600) {fk fp : Int32} {E : Nat} (hE : E ≤ n) (R : RDE h n fk fp E) : Mt X am_71 [.ref 2] h (Qv (fun h1 => Fr 2 3 h h1 ∧ RDT h1 b n fk fp E)) := by
  obtain ⟨g, e2, hg0, hg1, hg3, hg6⟩ := R
  have F0 : Fr 2 3 h h := Fr.rfl'
  obtain ⟨ht1, ht2⟩ := ts_b (b := b) hE
  obtain ⟨hu1, hu2, hu3⟩ := te_b (b := b) hE
  refine rk_aload_n rfl rfl ?_
  refine rk_get rfl (by assumption) rfl ?_
  rw [hg6]
  refine rk_istore_n rfl (Nat.le_of_ble_eq_true rfl) rfl ?_
  refine l71a Tp hn e2 hg3 (S := ts b n E) ?_ (n + 1) E (by omega) hE rfl
  refine rk_aload_n rfl rfl ?_
  refine rk_iload_n rfl rfl ?_
  refine rk_putR rfl e2 (f := 5) (by omega) (fun h1 g1 e2n w5 wo hk1 hl1 => ?_)
  replace e2 := e2n
  replace hg0 := (wo 0 (by omega)).trans hg0
  replace hg1 := (wo 1 (by omega)).trans hg1
  replace hg3 := (wo 3 (by omega)).trans hg3
  replace F0 := F0.tr (Fr.mk1 hk1 hl1 (by omega) (by omega))
  replace Tp := Tp.fr (hk1 1 (by omega))
  refine rk_iload_n rfl rfl ?_
  refine rk_aload_n rfl rfl ?_
  refine rk_get rfl (by assumption) rfl ?_
  rw [hg3]
  refine rk_icmp_lt rfl rfl (fun hc27 => ?_) (fun hc27 => ?_)
  · replace hc27 := (nI_ltI (by omega) (by omega)).mp hc27
    have hnd : ¬ n ≤ ts b n E := by omega
    refine rk_aload_n rfl rfl ?_
    refine rk_iload_n rfl rfl ?_
    refine rk_cv1e rfl rfl (by assumption) rfl rfl (Nat.le_of_ble_eq_true rfl) (Nat.le_of_ble_eq_true rfl) (s72 Tp e2 (by omega)) ?_
    refine rk_if_eq rfl rfl (fun hc35 => ?_) (fun hc35 => ?_)
    · replace hc35 := (bI_0).mp hc35
      refine rk_aload_n rfl rfl ?_
      refine rk_iload_n rfl rfl ?_
      refine rk_cv1e rfl rfl (by assumption) rfl rfl (Nat.le_of_ble_eq_true rfl) (Nat.le_of_ble_eq_true rfl) (s73 Tp e2 (by omega)) ?_
      refine rk_if_eq rfl rfl (fun hc52 => ?_) (fun hc52 => ?_)
      · replace hc52 := (bI_0).mp hc52
        have hte : te b n E = ts b n E + 1 := by rw [te, if_neg hnd, if_neg hc35, if_neg hc52]
        have hkd : tkd b n E = if b (ts b n E) = 59 then 12 else 14 := by rw [tkd, if_neg hnd, if_neg hc35, if_neg hc52]
        refine rk_aload_n rfl rfl ?_
        refine rk_aload_n rfl rfl ?_
        refine rk_get rfl (by assumption) rfl ?_
        refine rk_iload_n rfl rfl ?_
        obtain ⟨T, c1, hT⟩ := id Tp
        obtain ⟨t1, t2⟩ := hT (ts b n E) (by omega)
        refine rk_iald rfl (by assumption) (rfl) (by omega) (by decide) ?_
        rw [t1]
        refine rk_bipush (v := nI 59) rfl (by decide) ?_
        refine rk_icmp_ne rfl rfl (fun hc81 => ?_) (fun hc81 => ?_)
        · replace hc81 := mt (nI_eq (by omega) (by omega)).mpr hc81
          refine rk_iconst (v := nI 4) rfl (by decide) ?_
          refine rk_putR rfl e2 (f := 4) (by omega) (fun h1 g1 e2n w4 wo hk1 hl1 => ?_)
          replace e2 := e2n
          replace hg0 := (wo 0 (by omega)).trans hg0
          replace hg1 := (wo 1 (by omega)).trans hg1
          replace hg3 := (wo 3 (by omega)).trans hg3
          replace F0 := F0.tr (Fr.mk1 hk1 hl1 (by omega) (by omega))
          replace Tp := Tp.fr (hk1 1 (by omega))
          replace w5 := (wo 5 (by omega)).trans w5
          refine rk_iinc rfl rfl (n_inc _) rfl ?_
          refine rk_aload_n rfl rfl ?_
          refine rk_iload_n rfl rfl ?_
          refine rk_putR rfl e2 (f := 6) (by omega) (fun h1 g1 e2n w6 wo hk1 hl1 => ?_)
          replace e2 := e2n
          replace hg0 := (wo 0 (by omega)).trans hg0
          replace hg1 := (wo 1 (by omega)).trans hg1
          replace hg3 := (wo 3 (by omega)).trans hg3
          replace F0 := F0.tr (Fr.mk1 hk1 hl1 (by omega) (by omega))
          replace Tp := Tp.fr (hk1 1 (by omega))
          replace w5 := (wo 5 (by omega)).trans w5
          replace w4 := (wo 4 (by omega)).trans w4
          exact rk_return rfl rfl ⟨_, rfl, F0, _, e2, hg0, hg1, hg3, w4.trans (by rw [hkd]; first | (rw [if_pos (by omega)]; rfl) | (rw [if_neg (by omega)]; rfl)), w5, w6.trans (by rw [hte])⟩
        · replace hc81 := Decidable.not_not.mp hc81
          replace hc81 := (nI_eq (by omega) (by omega)).mp hc81
          refine rk_iconst (v := nI 3) rfl (by decide) ?_
          refine rk_goto rfl rfl ?_
          refine rk_putR rfl e2 (f := 4) (by omega) (fun h1 g1 e2n w4 wo hk1 hl1 => ?_)
          replace e2 := e2n
          replace hg0 := (wo 0 (by omega)).trans hg0
          replace hg1 := (wo 1 (by omega)).trans hg1
          replace hg3 := (wo 3 (by omega)).trans hg3
          replace F0 := F0.tr (Fr.mk1 hk1 hl1 (by omega) (by omega))
          replace Tp := Tp.fr (hk1 1 (by omega))
          replace w5 := (wo 5 (by omega)).trans w5
          refine rk_iinc rfl rfl (n_inc _) rfl ?_
          refine rk_aload_n rfl rfl ?_
          refine rk_iload_n rfl rfl ?_
          refine rk_putR rfl e2 (f := 6) (by omega) (fun h1 g1 e2n w6 wo hk1 hl1 => ?_)
          replace e2 := e2n
          replace hg0 := (wo 0 (by omega)).trans hg0
          replace hg1 := (wo 1 (by omega)).trans hg1
          replace hg3 := (wo 3 (by omega)).trans hg3
          replace F0 := F0.tr (Fr.mk1 hk1 hl1 (by omega) (by omega))
          replace Tp := Tp.fr (hk1 1 (by omega))
          replace w5 := (wo 5 (by omega)).trans w5
          replace w4 := (wo 4 (by omega)).trans w4
          exact rk_return rfl rfl ⟨_, rfl, F0, _, e2, hg0, hg1, hg3, w4.trans (by rw [hkd]; first | (rw [if_pos (by omega)]; rfl) | (rw [if_neg (by omega)]; rfl)), w5, w6.trans (by rw [hte])⟩
      · replace hc52 := Decidable.not_not.mp (mt bI_0.mpr hc52)
        have hte : te b n E = fwd isD b n (ts b n E) := by rw [te, if_neg hnd, if_neg hc35, if_pos hc52]
        have hkd : tkd b n E = if 3 < te b n E - ts b n E then 14 else 11 := by rw [tkd, if_neg hnd, if_neg hc35, if_pos hc52]
        refine l71c Tp hn e2 hg3 (S := te b n E) ?_ (n + 1) (ts b n E) (by omega) (by omega) hte.symm
        refine rk_aload_n rfl rfl ?_
        refine rk_iload_n rfl rfl ?_
        refine rk_aload_n rfl rfl ?_
        refine rk_get rfl (by assumption) rfl ?_
        rw [w5]
        refine rk_isub rfl (pk_sub (by omega)) ?_
        refine rk_iconst (v := nI 3) rfl (by decide) ?_
        refine rk_icmp_le rfl rfl (fun hc69 => ?_) (fun hc69 => ?_)
        · replace hc69 := (nI_leI (by omega) (by omega)).mp hc69
          refine rk_iconst (v := nI 2) rfl (by decide) ?_
          refine rk_putR rfl e2 (f := 4) (by omega) (fun h1 g1 e2n w4 wo hk1 hl1 => ?_)
          replace e2 := e2n
          replace hg0 := (wo 0 (by omega)).trans hg0
          replace hg1 := (wo 1 (by omega)).trans hg1
          replace hg3 := (wo 3 (by omega)).trans hg3
          replace F0 := F0.tr (Fr.mk1 hk1 hl1 (by omega) (by omega))
          replace Tp := Tp.fr (hk1 1 (by omega))
          replace w5 := (wo 5 (by omega)).trans w5
          refine rk_goto rfl rfl ?_
          refine rk_aload_n rfl rfl ?_
          refine rk_iload_n rfl rfl ?_
          refine rk_putR rfl e2 (f := 6) (by omega) (fun h1 g1 e2n w6 wo hk1 hl1 => ?_)
          replace e2 := e2n
          replace hg0 := (wo 0 (by omega)).trans hg0
          replace hg1 := (wo 1 (by omega)).trans hg1
          replace hg3 := (wo 3 (by omega)).trans hg3
          replace F0 := F0.tr (Fr.mk1 hk1 hl1 (by omega) (by omega))
          replace Tp := Tp.fr (hk1 1 (by omega))
          replace w5 := (wo 5 (by omega)).trans w5
          replace w4 := (wo 4 (by omega)).trans w4
          exact rk_return rfl rfl ⟨_, rfl, F0, _, e2, hg0, hg1, hg3, w4.trans (by rw [hkd]; first | (rw [if_pos (by omega)]; rfl) | (rw [if_neg (by omega)]; rfl)), w5, w6.trans (rfl)⟩
        · replace hc69 := mt (nI_leI (by omega) (by omega)).mpr hc69
          refine rk_iconst (v := nI 4) rfl (by decide) ?_
          refine rk_goto rfl rfl ?_
          refine rk_putR rfl e2 (f := 4) (by omega) (fun h1 g1 e2n w4 wo hk1 hl1 => ?_)
          replace e2 := e2n
          replace hg0 := (wo 0 (by omega)).trans hg0
          replace hg1 := (wo 1 (by omega)).trans hg1
          replace hg3 := (wo 3 (by omega)).trans hg3
          replace F0 := F0.tr (Fr.mk1 hk1 hl1 (by omega) (by omega))
          replace Tp := Tp.fr (hk1 1 (by omega))
          replace w5 := (wo 5 (by omega)).trans w5
          refine rk_goto rfl rfl ?_
          refine rk_aload_n rfl rfl ?_
          refine rk_iload_n rfl rfl ?_
          refine rk_putR rfl e2 (f := 6) (by omega) (fun h1 g1 e2n w6 wo hk1 hl1 => ?_)
          replace e2 := e2n
          replace hg0 := (wo 0 (by omega)).trans hg0
          replace hg1 := (wo 1 (by omega)).trans hg1
          replace hg3 := (wo 3 (by omega)).trans hg3
          replace F0 := F0.tr (Fr.mk1 hk1 hl1 (by omega) (by omega))
          replace Tp := Tp.fr (hk1 1 (by omega))
          replace w5 := (wo 5 (by omega)).trans w5
          replace w4 := (wo 4 (by omega)).trans w4
          exact rk_return rfl rfl ⟨_, rfl, F0, _, e2, hg0, hg1, hg3, w4.trans (by rw [hkd]; first | (rw [if_pos (by omega)]; rfl) | (rw [if_neg (by omega)]; rfl)), w5, w6.trans (rfl)⟩
    · replace hc35 := Decidable.not_not.mp (mt bI_0.mpr hc35)
      have hte : te b n E = fwd isL b n (ts b n E) := by rw [te, if_neg hnd, if_pos hc35]
      have hkd : tkd b n E ≤ 10 := by rw [tkd, if_neg hnd, if_pos hc35]; exact kw_le _ _ _
      refine rk_aload_n rfl rfl ?_
      refine rk_iconst (v := nI 1) rfl (by decide) ?_
      refine rk_putR rfl e2 (f := 4) (by omega) (fun h1 g1 e2n w4 wo hk1 hl1 => ?_)
      replace e2 := e2n
      replace hg0 := (wo 0 (by omega)).trans hg0
      replace hg1 := (wo 1 (by omega)).trans hg1
      replace hg3 := (wo 3 (by omega)).trans hg3
      replace F0 := F0.tr (Fr.mk1 hk1 hl1 (by omega) (by omega))
      replace Tp := Tp.fr (hk1 1 (by omega))
      replace w5 := (wo 5 (by omega)).trans w5
      refine l71b Tp hn e2 hg3 (S := te b n E) ?_ (n + 1) (ts b n E) (by omega) (by omega) hte.symm
      refine rk_aload_n rfl rfl ?_
      refine rk_iload_n rfl rfl ?_
      refine rk_putR rfl e2 (f := 6) (by omega) (fun h1 g1 e2n w6 wo hk1 hl1 => ?_)
      replace e2 := e2n
      replace hg0 := (wo 0 (by omega)).trans hg0
      replace hg1 := (wo 1 (by omega)).trans hg1
      replace hg3 := (wo 3 (by omega)).trans hg3
      replace F0 := F0.tr (Fr.mk1 hk1 hl1 (by omega) (by omega))
      replace Tp := Tp.fr (hk1 1 (by omega))
      replace w5 := (wo 5 (by omega)).trans w5
      replace w4 := (wo 4 (by omega)).trans w4
      exact rk_return rfl rfl ⟨_, rfl, F0, _, e2, hg0, hg1, hg3, w4.trans (by rw [ck, if_pos hkd]), w5, w6.trans (rfl)⟩
  · replace hc27 := mt (nI_ltI (by omega) (by omega)).mpr hc27
    have hend : n ≤ ts b n E := by omega
    have hkd : tkd b n E = 13 := tkd_13.mpr hend
    have hte : te b n E = ts b n E := by rw [te, if_pos hend]
    refine rk_aload_n rfl rfl ?_
    refine rk_iconst (v := nI 0) rfl (by decide) ?_
    refine rk_putR rfl e2 (f := 4) (by omega) (fun h1 g1 e2n w4 wo hk1 hl1 => ?_)
    replace e2 := e2n
    replace hg0 := (wo 0 (by omega)).trans hg0
    replace hg1 := (wo 1 (by omega)).trans hg1
    replace hg3 := (wo 3 (by omega)).trans hg3
    replace F0 := F0.tr (Fr.mk1 hk1 hl1 (by omega) (by omega))
    replace Tp := Tp.fr (hk1 1 (by omega))
    replace w5 := (wo 5 (by omega)).trans w5
    refine rk_goto rfl rfl ?_
    refine rk_aload_n rfl rfl ?_
    refine rk_iload_n rfl rfl ?_
    refine rk_putR rfl e2 (f := 6) (by omega) (fun h1 g1 e2n w6 wo hk1 hl1 => ?_)
    replace e2 := e2n
    replace hg0 := (wo 0 (by omega)).trans hg0
    replace hg1 := (wo 1 (by omega)).trans hg1
    replace hg3 := (wo 3 (by omega)).trans hg3
    replace F0 := F0.tr (Fr.mk1 hk1 hl1 (by omega) (by omega))
    replace Tp := Tp.fr (hk1 1 (by omega))
    replace w5 := (wo 5 (by omega)).trans w5
    replace w4 := (wo 4 (by omega)).trans w4
    exact rk_return rfl rfl ⟨_, rfl, F0, _, e2, hg0, hg1, hg3, w4.trans (by rw [hkd]; rfl), w5, w6.trans (by rw [hte])⟩
