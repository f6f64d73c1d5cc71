/-! TWO ROOMS AT ONCE: the class's measures -/
abbrev cPa : ai_C := .inr (4, [.ref 28, .ref 29, .ref 30, .ref 31, .ref 32])
abbrev nxP (N : Nat → Nat) : Nat → Nat → Nat := nxD N 0
abbrev rcP (N : Nat → Nat) (g : Nat → Bool) : Nat → Nat → Bool := rch (nxP N) (N 1) g
abbrev lsP (N : Nat → Nat) (g : Nat → Bool) : Nat → Nat → Prop := lst (nxP N) (N 1) g
theorem nxP_ab {N : Nat → Nat} {a b t : Nat} (hb : b < 14) : nxP N (a * 14 + b) t = pl N a t * 14 + pl N b t := by
  have h1 : (a * 14 + b) / 14 = a := by omega
  have h2 : (a * 14 + b) % 14 = b := by omega
  show pl N ((a * 14 + b) / 14) t * 14 + (if 0 / 2 ^ t % 2 = 0 then pl N ((a * 14 + b) % 14) t else (a * 14 + b) % 14) = _
  rw [h1, h2, Nat.zero_div, if_pos rfl]
/-- a sort of pairs as it must be: the same both ways; two in one room are of it, or never come to it -/
def GP (N : Nat → Nat) (g : Nat → Bool) : Prop := (∀ a b, a < N 0 → b < N 0 → g (a * 14 + b) = g (b * 14 + a)) ∧ ∀ a, a < N 0 → g (a * 14 + a) = true ∨ ∀ k, ¬ rcP N g k (a * 14 + a) = true
theorem any_cg {p q : Nat → Bool} : ∀ n, (∀ i, i < n → p i = q i) → any p n = any q n
  | 0, _ => rfl
  | n + 1, h => by rw [any, any, any_cg n (fun i hi => h i (by omega)), h n (by omega)]
theorem rcP_sym {N : Nat → Nat} {g : Nat → Bool} (hN : HN N) (G : GP N g) : ∀ k a b, a < N 0 → b < N 0 → rcP N g k (a * 14 + b) = rcP N g k (b * 14 + a)
  | 0, a, b, ha, hb => G.1 a b ha hb
  | k + 1, a, b, ha, hb => by
    have hn := hN.n
    show any (fun t => rcP N g k (nxP N (a * 14 + b) t)) (N 1) = any (fun t => rcP N g k (nxP N (b * 14 + a) t)) (N 1)
    exact any_cg (N 1) (fun t ht => by
      rw [nxP_ab (by omega), nxP_ab (by omega)]
      exact rcP_sym hN G k _ _ (hN.xpl ha ht) (hN.xpl hb ht))
/-- the least number of tones up to s, -1 where there is none -/
def ev (N : Nat → Nat) (g : Nat → Bool) (s x : Nat) : Int32 := if ffi (fun k => rcP N g k x) (s + 1) 0 = s + 1 then -1 else nI (ffi (fun k => rcP N g k x) (s + 1) 0)
theorem ev_cases (N : Nat → Nat) (g : Nat → Bool) (s x : Nat) : (∃ k, k ≤ s ∧ lsP N g k x ∧ ev N g s x = nI k) ∨ ((∀ k, k ≤ s → ¬ rcP N g k x = true) ∧ ev N g s x = -1) := by
  by_cases h : ∃ k, k ≤ s ∧ rcP N g k x = true
  · obtain ⟨k, hk, hr⟩ := h
    obtain ⟨h1, -, h3, h4⟩ := ffi_ex (p := fun k => rcP N g k x) (s + 1) 0 ⟨k, by omega, by omega, hr⟩
    refine Or.inl ⟨ffi (fun k => rcP N g k x) (s + 1) 0, by omega, ⟨h3, fun j hj => h4 j (by omega) hj⟩, ?_⟩
    rw [ev, if_neg (by omega)]
  · have hn : ∀ k, k ≤ s → ¬ rcP N g k x = true := fun k hk z => h ⟨k, hk, z⟩
    refine Or.inr ⟨hn, ?_⟩
    have := ffi_no (p := fun k => rcP N g k x) (s + 1) 0 (fun i _ hi => hn i (by omega))
    rw [ev, if_pos (by omega)]
theorem ev_lst {N : Nat → Nat} {g : Nat → Bool} {s k x : Nat} (h : lsP N g k x) (hk : k ≤ s) : ev N g s x = nI k := by
  rcases ev_cases N g s x with ⟨j, -, hl, e⟩ | ⟨hn, -⟩
  · rw [e, hl.uniq h]
  · exact absurd h.1 (hn k hk)
theorem ev_no {N : Nat → Nat} {g : Nat → Bool} {s x : Nat} (h : ∀ k, k ≤ s → ¬ rcP N g k x = true) : ev N g s x = -1 := by
  rcases ev_cases N g s x with ⟨j, hj, hl, -⟩ | ⟨-, e⟩
  · exact absurd hl.1 (h j hj)
  · exact e
theorem ev_eq {N : Nat → Nat} {g : Nat → Bool} {s j x : Nat} (hs : s < 2 ^ 31) (hj : j ≤ s) : ev N g s x = nI j ↔ lsP N g j x := by
  constructor
  · intro h
    rcases ev_cases N g s x with ⟨k, hk, hl, e⟩ | ⟨-, e⟩
    · rw [e] at h
      rw [← (nI_eq (by omega) (by omega)).mp h]
      exact hl
    · rw [e] at h
      exact absurd h.symm (nm_eq (by omega))
  · exact fun h => ev_lst h hj
theorem ev_m1 {N : Nat → Nat} {g : Nat → Bool} {s x : Nat} (hs : s < 2 ^ 31) : ev N g s x = -1 ↔ ∀ k, k ≤ s → ¬ rcP N g k x = true := by
  constructor
  · intro h
    rcases ev_cases N g s x with ⟨k, hk, hl, e⟩ | ⟨hn, -⟩
    · rw [e] at h
      exact absurd h (nm_eq (by omega))
    · exact hn
  · exact ev_no
theorem ev_diag {N : Nat → Nat} {g : Nat → Bool} (G : GP N g) {s a : Nat} (ha : a < N 0) : ev N g (s + 1) (a * 14 + a) = ev N g s (a * 14 + a) := by
  rcases G.2 a ha with h | h
  · have hl : lsP N g 0 (a * 14 + a) := ⟨h, fun j hj => absurd hj (by omega)⟩
    rw [ev_lst hl (by omega), ev_lst hl (by omega)]
  · rw [ev_no (fun k _ => h k), ev_no (fun k _ => h k)]
theorem ev_sym {N : Nat → Nat} {g : Nat → Bool} (hN : HN N) (G : GP N g) {s a b : Nat} (ha : a < N 0) (hb : b < N 0) : ev N g s (a * 14 + b) = ev N g s (b * 14 + a) := by
  have e : (fun k => rcP N g k (a * 14 + b)) = fun k => rcP N g k (b * 14 + a) := funext fun k => rcP_sym hN G k a b ha hb
  unfold ev
  rw [e]
abbrev vP (N : Nat → Nat) (x : Nat) : Prop := vD N x
theorem vP_lt {N : Nat → Nat} (hN : HN N) {x : Nat} (h : vP N x) : x < 196 := by
  have hn := hN.n
  unfold vP vD at h
  omega
theorem vP_ab {N : Nat → Nat} (hN : HN N) {a b : Nat} (ha : a < N 0) (hb : b < N 0) : vP N (a * 14 + b) := by
  have hn := hN.n
  unfold vP vD
  omega
theorem lsP_lt {N : Nat → Nat} {g : Nat → Bool} (hN : HN N) {k x : Nat} (hx : vP N x) (h : lsP N g k x) : k < 196 := lst_lt (v := vP N) (fun x hx => vP_lt hN hx) (fun x t hx ht => nxD_v hN hx ht) k x hx h
theorem lsP_desc {N : Nat → Nat} {g : Nat → Bool} (hN : HN N) {s : Nat} : ∀ d x, vP N x → lsP N g (s + d) x → ∃ y, vP N y ∧ lsP N g s y
  | 0, x, hx, h => ⟨x, hx, h⟩
  | d + 1, x, hx, h => by
    obtain ⟨t, ht, h2⟩ := lst.next h
    exact lsP_desc hN d _ (nxD_v hN hx ht) h2
/-- where a round changed nothing no later one would -/
theorem ev_stop {N : Nat → Nat} {g : Nat → Bool} (hN : HN N) {s : Nat} (hs : s < 196) (h : ∀ x, vP N x → ev N g (s + 1) x = ev N g s x) {x : Nat} (hx : vP N x) : ev N g s x = ev N g 196 x := by
  rcases ev_cases N g 196 x with ⟨k, hk, hl, e⟩ | ⟨hn, e⟩
  · by_cases hks : k ≤ s
    · rw [e, ev_lst hl hks]
    · obtain ⟨y, hy, hly⟩ := lsP_desc (s := s + 1) hN (k - (s + 1)) x hx (by rwa [show s + 1 + (k - (s + 1)) = k by omega])
      have h1 := ev_lst hly (Nat.le_refl _)
      have h2 : ev N g s y = -1 := ev_no (fun j hj => hly.2 j (by omega))
      rw [h y hy, h2] at h1
      exact absurd h1.symm (nm_eq (by omega))
  · rw [e, ev_no (fun k hk => hn k (by omega))]
theorem ev_196 {N : Nat → Nat} {g : Nat → Bool} (hN : HN N) {x : Nat} (hx : vP N x) : (∃ k, k < 196 ∧ lsP N g k x ∧ ev N g 196 x = nI k) ∨ ((∀ k, ¬ rcP N g k x = true) ∧ ev N g 196 x = -1) := by
  rcases ev_cases N g 196 x with ⟨k, hk, hl, e⟩ | ⟨hn, e⟩
  · exact Or.inl ⟨k, lsP_lt hN hx hl, hl, e⟩
  · refine Or.inr ⟨fun k z => ?_, e⟩
    obtain ⟨j, -, hl⟩ := lst_ex k z
    exact hn j (by have := lsP_lt hN hx hl; omega) hl.1
/-- done in a round so far: all up to the pair a, b -/
abbrev prd (a b x y : Nat) : Prop := (x < y ∧ (x < a ∨ (x = a ∧ y < b))) ∨ (y < x ∧ (y < a ∨ (y = a ∧ x < b)))
def NI (N : Nat → Nat) (g : Nat → Bool) (s a b : Nat) (f : Nat → Int32) : Prop := ∀ x y, x < N 0 → y < N 0 → f (x * 14 + y) = if prd a b x y then ev N g (s + 1) (x * 14 + y) else ev N g s (x * 14 + y)
theorem NI.tone {N : Nat → Nat} {g : Nat → Bool} {s a b x y : Nat} {f : Nat → Int32} (hs : s < 2 ^ 30) (H : NI N g s a b f) (hx : x < N 0) (hy : y < N 0) : f (x * 14 + y) = nI s ↔ lsP N g s (x * 14 + y) := by
  rw [H x y hx hy]
  split
  · exact ev_eq (by omega) (by omega)
  · exact ev_eq (by omega) (Nat.le_refl _)
theorem ffi_t {p : Nat → Bool} {T t : Nat} (ht : t < T) (h : p t = true) : ffi p (T - t) t = t := by rw [show T - t = (T - (t + 1)) + 1 by omega, ffi, if_pos h]
theorem ffi_f {p : Nat → Bool} {T t : Nat} (ht : t < T) (h : ¬ p t = true) : ffi p (T - t) t = ffi p (T - (t + 1)) (t + 1) := by rw [show T - t = (T - (t + 1)) + 1 by omega, ffi, if_neg h]
def tt (f : Nat → Int32) (N : Nat → Nat) (a b j : Nat) : Nat := ffi (fun t => decide (f (pl N a t * 14 + pl N b t) = nI j)) (N 1) 0
def tI (f : Nat → Int32) (N : Nat → Nat) (a b j : Nat) : Int32 := if tt f N a b j = N 1 then -1 else nI (tt f N a b j)
theorem s50n {X : ai_X} {h : ai_H} {p a b : Nat} : Mt X am_50 [.ref p, .int (nI a), .int (nI b)] h (Qe (nI (a * 14 + b)) h) := by
  refine rk_iload_n rfl rfl ?_
  refine rk_bipush (v := nI 14) rfl (by decide) ?_
  refine rk_imul rfl (pk_mul _ _) ?_
  refine rk_iload_n rfl rfl ?_
  refine rk_iadd rfl (nI_add _ _) ?_
  exact rk_ireturn rfl rfl Qe_mk
theorem s51 {X : ai_X} {h : ai_H} {f : Nat → Int32} (d27 : h[27]? = some cPa) (c28 : h[28]? = some (cI 196 f)) {a b : Nat} (ha : a < 14) (hb : b < 14) : Mt X am_51 [.ref 27, .int (nI a), .int (nI b)] h (Qe (f (a * 14 + b)) h) := by
  refine rk_aload_n rfl rfl ?_
  refine rk_get rfl (by assumption) rfl ?_
  refine rk_aload_n rfl rfl ?_
  refine rk_iload_n rfl rfl ?_
  refine rk_iload_n rfl rfl ?_
  refine rk_cv2e rfl rfl (by assumption) rfl rfl (Nat.le_of_ble_eq_true rfl) (Nat.le_of_ble_eq_true rfl) (s50n) ?_
  refine rk_iald rfl (by assumption) (rfl) (by omega) (by decide) ?_
  exact rk_ireturn rfl rfl Qe_mk
theorem l56 {X : ai_X} {h : ai_H} {p : Nat} {N : Nat → Nat} {f : Nat → Int32} (hN : HN N) (C : CH h p N) (d27 : h[27]? = some cPa) (c28 : h[28]? = some (cI 196 f)) {a b j : Nat} (ha : a < N 0) (hb : b < N 0) : ∀ (d : Nat) (t : Nat), N 1 < t + d → (t ≤ N 1) → Rk X am_56 2 [some (.ref 27), some (.ref p), some (.int (nI a)), some (.int (nI b)), some (.int (nI j)), some (.int (nI t))] [] h (Qe (if ffi (fun t => decide (f (pl N a t * 14 + pl N b t) = nI j)) (N 1 - t) t = N 1 then -1 else nI (ffi (fun t => decide (f (pl N a t * 14 + pl N b t) = nI j)) (N 1 - t) t)) h) := by
  intro d
  induction d with
  | zero => intro t hd ht; exfalso; omega
  | succ d ih =>
    intro t hd ht
    have d0 := C.1
    have hn := hN.n
    have h6 := hN.t
    have p1 : t < N 1 → pl N a t < N 0 := fun y => hN.xpl ha y
    have p2 : t < N 1 → pl N b t < N 0 := fun y => hN.xpl hb y
    refine rk_iload rfl rfl ?_
    refine rk_aload_n rfl rfl ?_
    refine rk_get rfl (by assumption) rfl ?_
    refine rk_icmp_ge rfl rfl (fun hc5 => ?_) (fun hc5 => ?_)
    · replace hc5 := (nI_leI (by omega) (by omega)).mp hc5
      refine rk_iconst (v := (-1)) rfl (by decide) ?_
      refine rk_ireturn rfl rfl (Qe_of ?_)
      rw [show N 1 - t = 0 by omega, ffi, if_pos (by omega)]
    · replace hc5 := mt (nI_leI (by omega) (by omega)).mpr hc5
      refine rk_aload_n rfl rfl ?_
      refine rk_get rfl (by assumption) rfl ?_
      refine rk_aload_n rfl rfl ?_
      refine rk_aload_n rfl rfl ?_
      refine rk_iload_n rfl rfl ?_
      refine rk_iload rfl rfl ?_
      refine rk_cv2e rfl rfl (by assumption) rfl rfl (Nat.le_of_ble_eq_true rfl) (Nat.le_of_ble_eq_true rfl) (s27N C hN ha (by omega)) ?_
      replace p1 := p1 (by omega)
      replace p2 := p2 (by omega)
      refine rk_aload_n rfl rfl ?_
      refine rk_iload_n rfl rfl ?_
      refine rk_iload rfl rfl ?_
      refine rk_cv2e rfl rfl (by assumption) rfl rfl (Nat.le_of_ble_eq_true rfl) (Nat.le_of_ble_eq_true rfl) (s27N C hN hb (by omega)) ?_
      refine rk_cv2e rfl rfl (by assumption) rfl rfl (Nat.le_of_ble_eq_true rfl) (Nat.le_of_ble_eq_true rfl) (s50n) ?_
      refine rk_iald rfl (by assumption) (rfl) (by omega) (by decide) ?_
      refine rk_iload rfl rfl ?_
      refine rk_icmp_ne rfl rfl (fun hc20 => ?_) (fun hc20 => ?_)
      · refine rk_iinc rfl rfl (n_inc _) rfl ?_
        refine rk_goto rfl rfl ?_
        rw [ffi_f (by omega) (fun z => hc20 (of_decide_eq_true z))]
        exact ih (t + 1) (by omega) (by omega)
      · replace hc20 := Decidable.not_not.mp hc20
        refine rk_iload rfl rfl ?_
        refine rk_ireturn rfl rfl (Qe_of ?_)
        rw [ffi_t (by omega) (decide_eq_true hc20), if_neg (by omega)]
theorem s56 {X : ai_X} {h : ai_H} {p : Nat} {N : Nat → Nat} {f : Nat → Int32} (hN : HN N) (C : CH h p N) (d27 : h[27]? = some cPa) (c28 : h[28]? = some (cI 196 f)) {a b j : Nat} (ha : a < N 0) (hb : b < N 0) : Mt X am_56 [.ref 27, .ref p, .int (nI a), .int (nI b), .int (nI j)] h (Qe (tI f N a b j) h) := by
  refine rk_iconst (v := nI 0) rfl (by decide) ?_
  refine rk_istore rfl (Nat.le_of_ble_eq_true rfl) rfl ?_
  exact l56 hN C d27 c28 ha hb (N 1 + 1) 0 (by omega) (by omega)
theorem tt_no {f : Nat → Int32} {N : Nat → Nat} {a b j : Nat} (h : tI f N a b j = -1) (h6 : N 1 ≤ 6) : ∀ t, t < N 1 → ¬ f (pl N a t * 14 + pl N b t) = nI j := by
  intro t ht z
  obtain ⟨h1, -⟩ := ffi_ex (p := fun t => decide (f (pl N a t * 14 + pl N b t) = nI j)) (N 1) 0 ⟨t, by omega, by omega, decide_eq_true z⟩
  rw [tI, tt, if_neg (by omega)] at h
  exact nm_eq (by omega) h
theorem tt_yes {f : Nat → Int32} {N : Nat → Nat} {a b j : Nat} (h : ¬ tI f N a b j = -1) : tt f N a b j < N 1 ∧ tI f N a b j = nI (tt f N a b j) ∧ f (pl N a (tt f N a b j) * 14 + pl N b (tt f N a b j)) = nI j := by
  have hne : ¬ tt f N a b j = N 1 := fun z => h (by rw [tI, if_pos z])
  have hex : ∃ i, 0 ≤ i ∧ i < 0 + N 1 ∧ decide (f (pl N a i * 14 + pl N b i) = nI j) = true := by
    apply Classical.byContradiction
    intro z
    apply hne
    have := ffi_no (p := fun t => decide (f (pl N a t * 14 + pl N b t) = nI j)) (N 1) 0 (fun i a1 a2 a3 => z ⟨i, a1, a2, a3⟩)
    rw [tt, this]
    omega
  obtain ⟨h1, -, h3, -⟩ := ffi_ex _ _ hex
  exact ⟨by rw [tt]; omega, by rw [tI, if_neg hne], of_decide_eq_true h3⟩
/-- a pair that was open is settled by this round, or stays open -/
theorem lsP_up {N : Nat → Nat} {g : Nat → Bool} {s x : Nat} (hn : ∀ k, k ≤ s → ¬ rcP N g k x = true) : lsP N g (s + 1) x ↔ ∃ t, t < N 1 ∧ lsP N g s (nxP N x t) := by
  constructor
  · exact fun h => lst.next h
  · rintro ⟨t, ht, hl⟩
    exact ⟨(any_iff _).mpr ⟨t, ht, hl.1⟩, fun j hj => hn j (by omega)⟩
theorem l55i {X : ai_X} {h : ai_H} {p : Nat} {N : Nat → Nat} {g : Nat → Bool} {s : Nat} (hN : HN N) (G : GP N g) (C : CH h p N) (d27 : h[27]? = some cPa) (hp : p + 6 ≤ 27) (hs : s < 196) {a : Nat} (ha : a < N 0) {P : ai_O → Prop} (z : ∀ gg f an, Fr 28 29 h gg → gg[28]? = some (cI 196 f) → NI N g s a (N 0) f → ((an = nI 0 ∧ ∀ x y, x < N 0 → y < N 0 → prd a (N 0) x y → ev N g (s + 1) (x * 14 + y) = ev N g s (x * 14 + y)) ∨ an = nI 1) → Rk X am_55 55 [some (.ref 27), some (.ref p), some (.int (nI (s + 1))), some (.int an), some (.int (nI a)), some (.int (nI (N 0)))] [] gg P) : ∀ (d : Nat) (b : Nat) (gg : ai_H) (f : Nat → Int32) (an : Int32), N 0 < b + d → (a < b) → (b ≤ N 0) → (Fr 28 29 h gg) → (gg[28]? = some (cI 196 f)) → (NI N g s a b f) → (((an = nI 0 ∧ ∀ x y, x < N 0 → y < N 0 → prd a b x y → ev N g (s + 1) (x * 14 + y) = ev N g s (x * 14 + y)) ∨ an = nI 1)) → Rk X am_55 12 [some (.ref 27), some (.ref p), some (.int (nI (s + 1))), some (.int an), some (.int (nI a)), some (.int (nI b))] [] gg (P) := by
  intro d
  induction d with
  | zero => intro b gg f an hd hab hb F c28 I hA; exfalso; omega
  | succ d ih =>
    intro b gg f an hd hab hb F c28 I hA
    have C2 := C.fr2 F (by omega)
    have d0 := C2.1
    have e27 := (F.2 27 (by omega)).trans d27
    have hn := hN.n
    have h6 := hN.t
    have F0 : Fr 28 29 h gg := F
    have hfab : b < N 0 → f (a * 14 + b) = ev N g s (a * 14 + b) := fun y => by rw [I a b ha y, if_neg (by omega)]
    refine rk_iload rfl rfl ?_
    refine rk_aload_n rfl rfl ?_
    refine rk_get rfl (by assumption) rfl ?_
    refine rk_icmp_ge rfl rfl (fun hc15 => ?_) (fun hc15 => ?_)
    · replace hc15 := (nI_leI (by omega) (by omega)).mp hc15
      have hb2 : b = N 0 := by omega
      subst hb2
      exact z gg f an F c28 I hA
    · replace hc15 := mt (nI_leI (by omega) (by omega)).mpr hc15
      refine rk_aload_n rfl rfl ?_
      refine rk_get rfl (by assumption) rfl ?_
      refine rk_aload_n rfl rfl ?_
      refine rk_iload rfl rfl ?_
      refine rk_iload rfl rfl ?_
      refine rk_cv2e rfl rfl (by assumption) rfl rfl (Nat.le_of_ble_eq_true rfl) (Nat.le_of_ble_eq_true rfl) (s50n) ?_
      refine rk_iald rfl (by assumption) (rfl) (by omega) (by decide) ?_
      refine rk_iconst (v := (-1)) rfl (by decide) ?_
      refine rk_icmp_ne rfl rfl (fun hc24 => ?_) (fun hc24 => ?_)
      · have hsame : ev N g (s + 1) (a * 14 + b) = ev N g s (a * 14 + b) := by
          rw [hfab (by omega)] at hc24
          rcases ev_cases N g s (a * 14 + b) with ⟨k, hk, hl, ek⟩ | ⟨-, ek⟩
          · rw [ek, ev_lst hl (by omega)]
          · exact absurd ek hc24
        have I2 : NI N g s a (b + 1) f := by
          intro x y hx hy
          rw [I x y hx hy]
          by_cases z : prd a b x y
          · rw [if_pos z, if_pos (by omega)]
          · rw [if_neg z]
            by_cases z2 : prd a (b + 1) x y
            · rw [if_pos z2]
              rcases (show (x = a ∧ y = b) ∨ (x = b ∧ y = a) by omega) with ⟨rfl, rfl⟩ | ⟨rfl, rfl⟩
              · exact hsame.symm
              · rw [ev_sym hN G hx hy, ev_sym hN G hx hy]; exact hsame.symm
            · rw [if_neg z2]
        have A2 : ((an = nI 0 ∧ ∀ x y, x < N 0 → y < N 0 → prd a (b + 1) x y → ev N g (s + 1) (x * 14 + y) = ev N g s (x * 14 + y)) ∨ an = nI 1) := by
          rcases hA with ⟨z, zz⟩ | z
          · refine Or.inl ⟨z, fun x y hx hy hpr => ?_⟩
            by_cases z1 : prd a b x y
            · exact zz x y hx hy z1
            · rcases (show (x = a ∧ y = b) ∨ (x = b ∧ y = a) by omega) with ⟨rfl, rfl⟩ | ⟨rfl, rfl⟩
              · exact hsame
              · rw [ev_sym hN G hx hy, ev_sym hN G hx hy]; exact hsame
          · exact Or.inr z
        refine rk_iinc rfl rfl (n_inc _) rfl ?_
        refine rk_goto rfl rfl ?_
        exact ih (b + 1) _ _ _ (by omega) (by omega) (by omega) F0 c28 I2 A2
      · replace hc24 := Decidable.not_not.mp hc24
        rw [hfab (by omega), ev_m1 (by omega)] at hc24
        have hup := lsP_up hc24
        refine rk_aload_n rfl rfl ?_
        refine rk_aload_n rfl rfl ?_
        refine rk_iload rfl rfl ?_
        refine rk_iload rfl rfl ?_
        refine rk_iload_n rfl rfl ?_
        refine rk_iconst (v := nI 1) rfl (by decide) ?_
        refine rk_isub rfl (pk_sub (by omega)) ?_
        refine rk_cv4e rfl rfl (by assumption) rfl rfl (Nat.le_of_ble_eq_true rfl) (Nat.le_of_ble_eq_true rfl) (s56 hN C2 e27 c28 ha (by omega)) ?_
        refine rk_iconst (v := (-1)) rfl (by decide) ?_
        refine rk_icmp_eq rfl rfl (fun hc34 => ?_) (fun hc34 => ?_)
        · have hno := tt_no hc34 h6
          have hsame : ev N g (s + 1) (a * 14 + b) = ev N g s (a * 14 + b) := by
            rw [ev_no hc24]
            refine ev_no (fun k hk hr => ?_)
            by_cases e : k ≤ s
            · exact hc24 k e hr
            · have hl : lsP N g (s + 1) (a * 14 + b) := ⟨by rw [show s + 1 = k by omega]; exact hr, fun j hj => hc24 j (by omega)⟩
              obtain ⟨t, ht, h2⟩ := hup.mp hl
              rw [nxP_ab (by omega)] at h2
              exact hno t ht ((I.tone (by omega) (hN.xpl ha ht) (hN.xpl (by omega) ht)).mpr h2)
          have I2 : NI N g s a (b + 1) f := by
            intro x y hx hy
            rw [I x y hx hy]
            by_cases z : prd a b x y
            · rw [if_pos z, if_pos (by omega)]
            · rw [if_neg z]
              by_cases z2 : prd a (b + 1) x y
              · rw [if_pos z2]
                rcases (show (x = a ∧ y = b) ∨ (x = b ∧ y = a) by omega) with ⟨rfl, rfl⟩ | ⟨rfl, rfl⟩
                · exact hsame.symm
                · rw [ev_sym hN G hx hy, ev_sym hN G hx hy]; exact hsame.symm
              · rw [if_neg z2]
          have A2 : ((an = nI 0 ∧ ∀ x y, x < N 0 → y < N 0 → prd a (b + 1) x y → ev N g (s + 1) (x * 14 + y) = ev N g s (x * 14 + y)) ∨ an = nI 1) := by
            rcases hA with ⟨z, zz⟩ | z
            · refine Or.inl ⟨z, fun x y hx hy hpr => ?_⟩
              by_cases z1 : prd a b x y
              · exact zz x y hx hy z1
              · rcases (show (x = a ∧ y = b) ∨ (x = b ∧ y = a) by omega) with ⟨rfl, rfl⟩ | ⟨rfl, rfl⟩
                · exact hsame
                · rw [ev_sym hN G hx hy, ev_sym hN G hx hy]; exact hsame
            · exact Or.inr z
          refine rk_iinc rfl rfl (n_inc _) rfl ?_
          refine rk_goto rfl rfl ?_
          exact ih (b + 1) _ _ _ (by omega) (by omega) (by omega) F0 c28 I2 A2
        · obtain ⟨t1, t2, t3⟩ := tt_yes hc34
          have hl : lsP N g (s + 1) (a * 14 + b) := hup.mpr ⟨_, t1, by rw [nxP_ab (by omega)]; exact (I.tone (by omega) (hN.xpl ha t1) (hN.xpl (by omega) t1)).mp t3⟩
          have hev := ev_lst hl (Nat.le_refl _)
          have hev2 := ev_sym (s := s + 1) hN G ha (show b < N 0 by omega)
          rw [hev] at hev2
          refine rk_aload_n rfl rfl ?_
          refine rk_get rfl (by assumption) rfl ?_
          refine rk_aload_n rfl rfl ?_
          refine rk_iload rfl rfl ?_
          refine rk_iload rfl rfl ?_
          refine rk_cv2e rfl rfl (by assumption) rfl rfl (Nat.le_of_ble_eq_true rfl) (Nat.le_of_ble_eq_true rfl) (s50n) ?_
          refine rk_iload_n rfl rfl ?_
          refine rk_iast rfl c28 (rfl) (by omega) (by decide) ?_
          refine hp_gen c28 (fun h1 g1 hk1 hl1 => ?_)
          replace d0 := (hk1 _ (by omega)).trans d0
          replace e27 := (hk1 _ (by omega)).trans e27
          replace F0 := F0.tr (Fr.mk1 hk1 hl1 (by omega) (by omega))
          replace c28 := g1
          refine rk_aload_n rfl rfl ?_
          refine rk_get rfl (by assumption) rfl ?_
          refine rk_aload_n rfl rfl ?_
          refine rk_iload rfl rfl ?_
          refine rk_iload rfl rfl ?_
          refine rk_cv2e rfl rfl (by assumption) rfl rfl (Nat.le_of_ble_eq_true rfl) (Nat.le_of_ble_eq_true rfl) (s50n) ?_
          refine rk_iload_n rfl rfl ?_
          refine rk_iast rfl c28 (rfl) (by omega) (by decide) ?_
          refine hp_gen c28 (fun h1 g1 hk1 hl1 => ?_)
          replace d0 := (hk1 _ (by omega)).trans d0
          replace e27 := (hk1 _ (by omega)).trans e27
          replace F0 := F0.tr (Fr.mk1 hk1 hl1 (by omega) (by omega))
          replace c28 := g1
          have I2 : NI N g s a (b + 1) (upd (upd f (a * 14 + b) (nI (s + 1))) (b * 14 + a) (nI (s + 1))) := by
            intro x y hx hy
            simp only [upd]
            by_cases z1 : x * 14 + y = b * 14 + a
            · have e1 : x = b := by omega
              have e2 : y = a := by omega
              subst e1 e2
              rw [if_pos rfl, if_pos (by omega)]
              exact hev2
            · rw [if_neg z1]
              by_cases z2 : x * 14 + y = a * 14 + b
              · have e1 : x = a := by omega
                have e2 : y = b := by omega
                subst e1 e2
                rw [if_pos rfl, if_pos (by omega)]
                exact hev.symm
              · rw [if_neg z2, I x y hx hy]
                by_cases z : prd a b x y
                · rw [if_pos z, if_pos (by omega)]
                · rw [if_neg z, if_neg (by omega)]
          refine rk_iconst (v := nI 1) rfl (by decide) ?_
          refine rk_istore_n rfl (Nat.le_of_ble_eq_true rfl) rfl ?_
          have A2 : ((nI 1 = nI 0 ∧ ∀ x y, x < N 0 → y < N 0 → prd a (b + 1) x y → ev N g (s + 1) (x * 14 + y) = ev N g s (x * 14 + y)) ∨ nI 1 = nI 1) := Or.inr rfl
          refine rk_iinc rfl rfl (n_inc _) rfl ?_
          refine rk_goto rfl rfl ?_
          exact ih (b + 1) _ _ _ (by omega) (by omega) (by omega) F0 c28 I2 A2
theorem l55 {X : ai_X} {h : ai_H} {p : Nat} {N : Nat → Nat} {g : Nat → Bool} {s : Nat} (hN : HN N) (G : GP N g) (C : CH h p N) (d27 : h[27]? = some cPa) (hp : p + 6 ≤ 27) (hs : s < 196) : ∀ (d : Nat) (a : Nat) (gg : ai_H) (f : Nat → Int32) (an : Int32) (c5 : Option Value), N 0 < a + d → (a ≤ N 0) → (Fr 28 29 h gg) → (gg[28]? = some (cI 196 f)) → (NI N g s a (a + 1) f) → (((an = nI 0 ∧ ∀ x y, x < N 0 → y < N 0 → prd a (a + 1) x y → ev N g (s + 1) (x * 14 + y) = ev N g s (x * 14 + y)) ∨ an = nI 1)) → Rk X am_55 4 [some (.ref 27), some (.ref p), some (.int (nI (s + 1))), some (.int an), some (.int (nI a)), c5] [] gg (Qi (fun w h1 => Fr 28 29 h h1 ∧ (∃ f1, h1[28]? = some (cI 196 f1) ∧ ∀ x y, x < N 0 → y < N 0 → f1 (x * 14 + y) = ev N g (s + 1) (x * 14 + y)) ∧ ((w = nI 0 ∧ ∀ x, vP N x → ev N g (s + 1) x = ev N g s x) ∨ w = nI 1))) := by
  intro d
  induction d with
  | zero => intro a gg f an c5 hd ha F c28 I hA; exfalso; omega
  | succ d ih =>
    intro a gg f an c5 hd ha F c28 I hA
    have C2 := C.fr2 F (by omega)
    have d0 := C2.1
    have e27 := (F.2 27 (by omega)).trans d27
    have hn := hN.n
    have h6 := hN.t
    have F0 : Fr 28 29 h gg := F
    refine rk_iload rfl rfl ?_
    refine rk_aload_n rfl rfl ?_
    refine rk_get rfl (by assumption) rfl ?_
    refine rk_icmp_ge rfl rfl (fun hc7 => ?_) (fun hc7 => ?_)
    · replace hc7 := (nI_leI (by omega) (by omega)).mp hc7
      refine rk_iload_n rfl rfl ?_
      have hfin : ∀ x y, x < N 0 → y < N 0 → f (x * 14 + y) = ev N g (s + 1) (x * 14 + y) := fun x y hx hy => by
        rw [I x y hx hy]
        by_cases e : x = y
        · subst e
          rw [if_neg (by omega), ev_diag G hx]
        · rw [if_pos (by omega)]
      refine rk_ireturn rfl (by rcases hA with ⟨z, -⟩ | z <;> (rw [z]; decide)) ⟨_, _, rfl, F, ⟨f, c28, hfin⟩, ?_⟩
      rcases hA with ⟨z, zz⟩ | z
      · refine Or.inl ⟨z, fun x hx => ?_⟩
        have hxx : x / 14 * 14 + x % 14 = x := by omega
        rw [← hxx]
        by_cases e : x / 14 = x % 14
        · rw [e]; exact ev_diag G hx.2
        · exact zz _ _ hx.1 hx.2 (by have := hx.1; have := hx.2; omega)
      · exact Or.inr z
    · replace hc7 := mt (nI_leI (by omega) (by omega)).mpr hc7
      refine rk_iload rfl rfl ?_
      refine rk_iconst (v := nI 1) rfl (by decide) ?_
      refine rk_iadd rfl (nI_add _ _) ?_
      refine rk_istore rfl (Nat.le_of_ble_eq_true rfl) rfl ?_
      refine l55i hN G C d27 hp hs (by omega) ?_ (N 0 + 1) (a + 1) gg f an (by omega) (by omega) (by omega) F c28 I hA
      intro g2 f2 an2 F2 c282 I2 A2
      refine rk_iinc rfl rfl (n_inc _) rfl ?_
      refine rk_goto rfl rfl ?_
      refine ih (a + 1) g2 f2 an2 _ (by omega) (by omega) F2 c282 (fun x y hx hy => ?_) ?_
      · rw [I2 x y hx hy]
        by_cases z : prd a (N 0) x y
        · rw [if_pos z, if_pos (by omega)]
        · rw [if_neg z, if_neg (by omega)]
      · rcases A2 with ⟨z, zz⟩ | z
        · exact Or.inl ⟨z, fun x y hx hy hpr => zz x y hx hy (by omega)⟩
        · exact Or.inr z
theorem s55 {X : ai_X} {h : ai_H} {p : Nat} {N : Nat → Nat} {g : Nat → Bool} {s : Nat} (hN : HN N) (G : GP N g) (C : CH h p N) (d27 : h[27]? = some cPa) (hp : p + 6 ≤ 27) (hs : s < 196) {f : Nat → Int32} (c28 : h[28]? = some (cI 196 f)) (hf : ∀ x y, x < N 0 → y < N 0 → f (x * 14 + y) = ev N g s (x * 14 + y)) : Mt X am_55 [.ref 27, .ref p, .int (nI (s + 1))] h (Qi (fun w h1 => Fr 28 29 h h1 ∧ (∃ f1, h1[28]? = some (cI 196 f1) ∧ ∀ x y, x < N 0 → y < N 0 → f1 (x * 14 + y) = ev N g (s + 1) (x * 14 + y)) ∧ ((w = nI 0 ∧ ∀ x, vP N x → ev N g (s + 1) x = ev N g s x) ∨ w = nI 1))) := by
  refine rk_iconst (v := nI 0) rfl (by decide) ?_
  refine rk_istore_n rfl (Nat.le_of_ble_eq_true rfl) rfl ?_
  refine rk_iconst (v := nI 0) rfl (by decide) ?_
  refine rk_istore rfl (Nat.le_of_ble_eq_true rfl) rfl ?_
  exact l55 hN G C d27 hp hs (N 0 + 1) 0 h f (nI 0) _ (by omega) (by omega) Fr.rfl' c28 (fun x y hx hy => by rw [hf x y hx hy, if_neg (by omega)]) (Or.inl ⟨rfl, fun x y hx hy hpr => by omega⟩)
theorem l54 {X : ai_X} {h : ai_H} {p : Nat} {N : Nat → Nat} {g : Nat → Bool} (hN : HN N) (G : GP N g) (C : CH h p N) (d27 : h[27]? = some cPa) (hp : p + 6 ≤ 27) : ∀ (d : Nat) (s : Nat) (gg : ai_H) (f : Nat → Int32) (mo : Int32), 196 < s + d → (s ≤ 196) → (Fr 28 29 h gg) → (gg[28]? = some (cI 196 f)) → (∀ x y, x < N 0 → y < N 0 → f (x * 14 + y) = ev N g s (x * 14 + y)) → ((mo = nI 0 ∧ ∀ x, vP N x → ev N g s x = ev N g 196 x) ∨ mo = nI 1) → Rk X am_54 4 [some (.ref 27), some (.ref p), some (.int mo), some (.int (nI (s + 1)))] [] gg (Qv (fun h1 => Fr 28 29 h h1 ∧ ∃ f1, h1[28]? = some (cI 196 f1) ∧ ∀ x y, x < N 0 → y < N 0 → f1 (x * 14 + y) = ev N g 196 (x * 14 + y))) := by
  intro d
  induction d with
  | zero => intro s gg f mo hd hs F c28 hf hmo; exfalso; omega
  | succ d ih =>
    intro s gg f mo hd hs F c28 hf hmo
    have C2 := C.fr2 F (by omega)
    have d0 := C2.1
    have e27 := (F.2 27 (by omega)).trans d27
    refine rk_iload_n rfl rfl ?_
    refine rk_sipush (v := nI 196) rfl (by decide) ?_
    refine rk_icmp_gt rfl rfl (fun hc6 => ?_) (fun hc6 => ?_)
    · replace hc6 := (nI_ltI (by omega) (by omega)).mp hc6
      refine rk_return rfl rfl ⟨_, rfl, F, f, c28, fun x y hx hy => ?_⟩
      rw [hf x y hx hy]
      first
        | (rw [show s = 196 by omega]; done)
        | (rcases hmo with ⟨-, z⟩ | z
           · exact z _ (vP_ab hN hx hy)
           · rw [z] at hc8; exact absurd hc8 (by decide))
    · replace hc6 := mt (nI_ltI (by omega) (by omega)).mpr hc6
      refine rk_iload_n rfl rfl ?_
      refine rk_if_eq rfl rfl (fun hc8 => ?_) (fun hc8 => ?_)
      · refine rk_return rfl rfl ⟨_, rfl, F, f, c28, fun x y hx hy => ?_⟩
        rw [hf x y hx hy]
        first
          | (rw [show s = 196 by omega]; done)
          | (rcases hmo with ⟨-, z⟩ | z
             · exact z _ (vP_ab hN hx hy)
             · rw [z] at hc8; exact absurd hc8 (by decide))
      · have hmo1 : mo = nI 1 := by
          rcases hmo with ⟨z, -⟩ | z
          · exact absurd z hc8
          · exact z
        refine rk_aload_n rfl rfl ?_
        refine rk_aload_n rfl rfl ?_
        refine rk_iload_n rfl rfl ?_
        refine rk_cv2i rfl rfl (by assumption) rfl rfl (Nat.le_of_ble_eq_true rfl) (Nat.le_of_ble_eq_true rfl) (s55 hN G C2 e27 hp (by omega) c28 hf) (fun w h1 hF => ?_)
        obtain ⟨F1, ⟨f1, g28, g1⟩, hw⟩ := hF
        have M2 : (w = nI 0 ∧ ∀ x, vP N x → ev N g (s + 1) x = ev N g 196 x) ∨ w = nI 1 := by
          rcases hw with ⟨z, zz⟩ | z
          · exact Or.inl ⟨z, fun x hx => by rw [zz x hx]; exact ev_stop hN (by omega) zz hx⟩
          · exact Or.inr z
        refine rk_istore_n rfl (Nat.le_of_ble_eq_true rfl) rfl ?_
        refine rk_iinc rfl rfl (n_inc _) rfl ?_
        refine rk_goto rfl rfl ?_
        exact ih (s + 1) h1 f1 w (by omega) (by omega) (F.tr F1) g28 g1 M2
theorem s54 {X : ai_X} {h : ai_H} {p : Nat} {N : Nat → Nat} {g : Nat → Bool} (hN : HN N) (G : GP N g) (C : CH h p N) (d27 : h[27]? = some cPa) (hp : p + 6 ≤ 27) {f : Nat → Int32} (c28 : h[28]? = some (cI 196 f)) (hf : ∀ x y, x < N 0 → y < N 0 → f (x * 14 + y) = ev N g 0 (x * 14 + y)) : Mt X am_54 [.ref 27, .ref p] h (Qv (fun h1 => Fr 28 29 h h1 ∧ ∃ f1, h1[28]? = some (cI 196 f1) ∧ ∀ x y, x < N 0 → y < N 0 → f1 (x * 14 + y) = ev N g 196 (x * 14 + y))) := by
  refine rk_iconst (v := nI 1) rfl (by decide) ?_
  refine rk_istore_n rfl (Nat.le_of_ble_eq_true rfl) rfl ?_
  refine rk_iconst (v := nI 1) rfl (by decide) ?_
  refine rk_istore_n rfl (Nat.le_of_ble_eq_true rfl) rfl ?_
  exact l54 hN G C d27 hp 197 0 h f (nI 1) (by omega) (by omega) Fr.rfl' c28 hf (Or.inr rfl)
