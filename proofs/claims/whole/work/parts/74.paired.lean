/-! PAIRED: rounds -/
theorem pop_or1 {s k : Nat} : ∀ n, pop (s ||| 2 ^ k) n ≤ pop s n + (if k < n then 1 else 0)
  | 0 => Nat.le_add_right _ _
  | n + 1 => by
    have ih := pop_or1 (s := s) (k := k) n
    simp only [pop]
    have h1 := bt_01 (s ||| 2 ^ k) n
    have h2 := bt_01 s n
    by_cases e : k = n
    · subst e
      rw [if_neg (Nat.lt_irrefl _)] at ih
      rw [if_pos (by omega)]
      omega
    · have h3 : (s ||| 2 ^ k) / 2 ^ n % 2 = 1 ↔ s / 2 ^ n % 2 = 1 := by
        rw [bt_or, bt_pow]
        exact ⟨fun z => z.elim id (fun z => absurd z e), Or.inl⟩
      by_cases q : k < n
      · rw [if_pos q] at ih
        rw [if_pos (by omega)]
        omega
      · rw [if_neg q] at ih
        rw [if_neg (by omega)]
        omega
theorem pop_nn {s n : Nat} : ∀ d, pop s n ≤ pop s (n + d)
  | 0 => Nat.le_refl _
  | d + 1 => Nat.le_trans (pop_nn d) (Nat.le_add_right _ _)
theorem pop_z0 : ∀ n, pop 0 n = 0
  | 0 => rfl
  | n + 1 => by rw [pop, pop_z0 n, Nat.zero_div]
theorem pop_o14 {s k : Nat} : pop (s ||| 2 ^ k) 14 ≤ pop s 14 + 1 := by
  have := pop_or1 (s := s) (k := k) 14
  split at this <;> omega
theorem pim_pop {N : Nat → Nat} {s t : Nat} : ∀ k, pop (pim N s t k) 14 ≤ pop s k
  | 0 => by
    show pop 0 14 ≤ 0
    rw [pop_z0]
    exact Nat.le_refl _
  | k + 1 => by
    have ih := pim_pop (N := N) (s := s) (t := t) k
    by_cases h : s / 2 ^ k % 2 = 0
    · rw [pim_z h]; show _ ≤ pop s k + s / 2 ^ k % 2; omega
    · rw [pim_s h]
      show _ ≤ pop s k + s / 2 ^ k % 2
      have := pop_o14 (s := pim N s t k) (k := pl N k t)
      omega
theorem bt_in {s k : Nat} (h : s / 2 ^ k % 2 = 1) : s ||| 2 ^ k = s := bs_ext fun j => by
  rw [bt_or, bt_pow]
  exact ⟨fun z => z.elim id (fun z => by subst z; exact h), Or.inl⟩
theorem pim_pop_lt {N : Nat → Nat} {s t a b : Nat} (hab : a < b) (ha : s / 2 ^ a % 2 = 1) (hb : s / 2 ^ b % 2 = 1) (he : pl N a t = pl N b t) : ∀ k, b < k → pop (pim N s t k) 14 + 1 ≤ pop s k
  | 0, h => absurd h (by omega)
  | k + 1, h => by
    by_cases e : b = k
    · subst e
      have hin : pim N s t b / 2 ^ pl N b t % 2 = 1 := (bt_pim b).mpr ⟨a, hab, ha, he⟩
      rw [pim_s (by omega), bt_in hin]
      show _ ≤ pop s b + s / 2 ^ b % 2
      have := pim_pop (N := N) (s := s) (t := t) b
      omega
    · have ih := pim_pop_lt hab ha hb he k (by omega)
      by_cases h : s / 2 ^ k % 2 = 0
      · rw [pim_z h]; show _ ≤ pop s k + s / 2 ^ k % 2; omega
      · rw [pim_s h]
        show _ ≤ pop s k + s / 2 ^ k % 2
        have := pop_o14 (s := pim N s t k) (k := pl N k t)
        omega
theorem pop_n14 {N : Nat → Nat} {s : Nat} (hn : N 0 ≤ 14) : pop s (N 0) ≤ pop s 14 := by
  have := pop_nn (s := s) (n := N 0) (14 - N 0)
  rwa [show N 0 + (14 - N 0) = 14 by omega] at this
theorem pimg_pop {N : Nat → Nat} {s t : Nat} (hn : N 0 ≤ 14) : pop (pimg N s t) 14 ≤ pop s 14 := Nat.le_trans (pim_pop (N 0)) (pop_n14 hn)
theorem pimg_pop_lt {N : Nat → Nat} {s t a b : Nat} (hn : N 0 ≤ 14) (hab : a ≠ b) (ha0 : a < N 0) (hb0 : b < N 0) (ha : s / 2 ^ a % 2 = 1) (hb : s / 2 ^ b % 2 = 1) (he : pl N a t = pl N b t) : pop (pimg N s t) 14 < pop s 14 := by
  have h1 := pop_n14 (s := s) hn
  rcases (show a < b ∨ b < a by omega) with h | h
  · have := pim_pop_lt h ha hb he (N 0) hb0
    show pop (pim N s t (N 0)) 14 < _
    omega
  · have := pim_pop_lt h hb ha he.symm (N 0) ha0
    show pop (pim N s t (N 0)) 14 < _
    omega
/-- a set led along a row -/
def pis (N : Nat → Nat) (x : Nat → Nat) (s : Nat) : Nat → Nat
  | 0 => s
  | k + 1 => pimg N (pis N x s k) (x k)
theorem pis_front {N x : Nat → Nat} {s : Nat} : ∀ k, pis N x s (k + 1) = pis N (fun i => x (i + 1)) (pimg N s (x 0)) k
  | 0 => rfl
  | k + 1 => by rw [pis, pis_front k]; rfl
theorem pis_cg {N x y : Nat → Nat} {s : Nat} : ∀ k, (∀ i, i < k → x i = y i) → pis N x s k = pis N y s k
  | 0, _ => rfl
  | k + 1, h => by rw [pis, pis, pis_cg k (fun i hi => h i (by omega)), h k (by omega)]
theorem pis_lt {N x : Nat → Nat} {s : Nat} (hN : HN N) (hs : s < 2 ^ N 0) : ∀ k, (∀ i, i < k → x i < N 1) → pis N x s k < 2 ^ N 0
  | 0, _ => hs
  | k + 1, h => pimg_lt hN (h k (by omega))
theorem pis_pop {N x : Nat → Nat} {s : Nat} (hn : N 0 ≤ 14) : ∀ k, pop (pis N x s k) 14 ≤ pop s 14
  | 0 => Nat.le_refl _
  | k + 1 => Nat.le_trans (pimg_pop hn) (pis_pop hn k)
theorem gr_s {nx : Nat → Nat → Nat} {T : Nat} {g : Nat → Bool} {k x i : Nat} : gr nx T g (k + 1) x (i + 1) = gr nx T g k (nx x (gr nx T g (k + 1) x 0)) i := gr_ne (by omega)
/-- two that are led together are one room fewer -/
theorem merge_lt {N : Nat → Nat} (hN : HN N) : ∀ j a b s, a < N 0 → b < N 0 → a ≠ b → s / 2 ^ a % 2 = 1 → s / 2 ^ b % 2 = 1 → lsP N gM j (a * 14 + b) → pop (pis N (gr (nxP N) (N 1) gM j (a * 14 + b)) s j) 14 < pop s 14
  | 0, a, b, s, ha, hb, hab, _, _, hl => by
    have hn := hN.n
    have h1 : gM (a * 14 + b) = true := hl.1
    have h2 := of_decide_eq_true h1
    exfalso
    omega
  | j + 1, a, b, s, ha, hb, hab, sa, sb, hl => by
    have hn := hN.n
    obtain ⟨t0, ht0, hr0⟩ := (any_iff _).mp hl.1
    obtain ⟨h1, -, h3, -⟩ := ffi_ex (p := fun t => rcP N gM j (nxP N (a * 14 + b) t)) (N 1) 0 ⟨t0, by omega, by omega, hr0⟩
    have e0 : gr (nxP N) (N 1) gM (j + 1) (a * 14 + b) 0 = ffi (fun t => rcP N gM j (nxP N (a * 14 + b) t)) (N 1) 0 := by rw [gr, if_pos rfl]
    rw [← e0] at h1 h3
    have ht : gr (nxP N) (N 1) gM (j + 1) (a * 14 + b) 0 < N 1 := by omega
    have hls := lst.ge hl ht h3
    rw [nxP_ab (by omega)] at hls
    rw [pis_front, pis_cg (y := gr (nxP N) (N 1) gM j (pl N a (gr (nxP N) (N 1) gM (j + 1) (a * 14 + b) 0) * 14 + pl N b (gr (nxP N) (N 1) gM (j + 1) (a * 14 + b) 0))) j (fun i _ => by rw [gr_s, nxP_ab (by omega)])]
    generalize gr (nxP N) (N 1) gM (j + 1) (a * 14 + b) 0 = t at ht hls
    by_cases he : pl N a t = pl N b t
    · exact Nat.lt_of_le_of_lt (pis_pop hn j) (pimg_pop_lt hn hab ha hb sa sb he)
    · exact Nat.lt_of_lt_of_le (merge_lt hN j _ _ _ (hN.xpl ha ht) (hN.xpl hb ht) he ((bt_pim _).mpr ⟨a, ha, sa, rfl⟩) ((bt_pim _).mpr ⟨b, hb, sb, rfl⟩) hls) (pimg_pop hn)
abbrev nPp (N : Nat → Nat) (S st : Nat) : Prop := st = 0 ∨ (S / 2 ^ ((st - 1) / 14) % 2 = 1 ∧ S / 2 ^ ((st - 1) % 14) % 2 = 1 ∧ (st - 1) / 14 < (st - 1) % 14 ∧ ¬ eM N (st - 1) = -1)
theorem nst_p {N : Nat → Nat} {S st a b : Nat} (hb : b < 14) (hab : a < b) (H : nPp N S st) : nPp N S (nst N S st a b) := by
  unfold nst
  split
  · rename_i z
    have e1 : (a * 14 + b + 1 - 1) / 14 = a := by omega
    have e2 : (a * 14 + b + 1 - 1) % 14 = b := by omega
    refine Or.inr ⟨?_, ?_, by omega, ?_⟩
    · rw [e1]; exact z.1.1
    · rw [e2]; exact z.1.2
    · rw [Nat.add_sub_cancel]; exact z.2.1
  · exact H
theorem nrow_p {N : Nat → Nat} {S st a : Nat} (hn : N 0 ≤ 14) (H : nPp N S st) : ∀ k, a + 1 + k ≤ N 0 → nPp N S (nrow N S st a k)
  | 0, _ => H
  | k + 1, h => nst_p (by omega) (by omega) (nrow_p hn H k (by omega))
theorem nall_p {N : Nat → Nat} {S : Nat} (hn : N 0 ≤ 14) : ∀ a, a ≤ N 0 → nPp N S (nall N S a)
  | 0, _ => Or.inl rfl
  | a + 1, h => nrow_p hn (nall_p hn a (by omega)) _ (by omega)
def pdn (N : Nat → Nat) (q : Nat) : Nat := (eM N q).toNatClampNeg
theorem pdn_ok {N : Nat → Nat} {S st : Nat} (hN : HN N) (h0 : ¬ st = 0) (hv : nV N st) (hp : nPp N S st) : lsP N gM (pdn N (st - 1)) (st - 1) ∧ pdn N (st - 1) < 196 ∧ eM N (st - 1) = nI (pdn N (st - 1)) := by
  have hn := hN.n
  rcases hv with z | ⟨v1, v2, -⟩
  · exact absurd z h0
  rcases hp with z | ⟨-, -, -, p4⟩
  · exact absurd z h0
  have hvp := vP_ab hN v1 v2
  rw [show (st - 1) / 14 * 14 + (st - 1) % 14 = st - 1 by omega] at hvp
  rcases ev_196 (g := gM) hN hvp with ⟨k, hk, hl, he⟩ | ⟨-, he⟩
  · have e1 : pdn N (st - 1) = k := by
      show (ev N gM 196 (st - 1)).toNatClampNeg = k
      rw [he, nI_clamp (by omega)]
    rw [e1]
    exact ⟨hl, hk, he⟩
  · exact absurd he p4
abbrev PT : Type := Nat × Nat × (Nat → Nat)
abbrev pg (N : Nat → Nat) (q : Nat) : Nat → Nat := gr (nxP N) (N 1) gM (pdn N q) q
def pnx (N : Nat → Nat) (s : PT) : PT := (pis N (pg N (nall N s.1 (N 0) - 1)) s.1 (pdn N (nall N s.1 (N 0) - 1)), s.2.1 + pdn N (nall N s.1 (N 0) - 1), fun p => if p < s.2.1 then s.2.2 p else pg N (nall N s.1 (N 0) - 1) (p - s.2.1))
def prs (N : Nat → Nat) : Nat → PT → Option PT
  | 0, s => some s
  | f + 1, s => if pop s.1 14 ≤ 1 then some s else if nall N s.1 (N 0) = 0 then none else if 500 < s.2.1 + pdn N (nall N s.1 (N 0) - 1) then none else prs N f (pnx N s)
theorem prs_1 {N : Nat → Nat} {s : PT} (h : pop s.1 14 ≤ 1) : ∀ f, prs N f s = some s
  | 0 => rfl
  | f + 1 => by rw [prs, if_pos h]
theorem prs_n {N : Nat → Nat} {s : PT} {f : Nat} (h : ¬ pop s.1 14 ≤ 1) (h0 : nall N s.1 (N 0) = 0) : prs N (f + 1) s = none := by rw [prs, if_neg h, if_pos h0]
theorem prs_b {N : Nat → Nat} {s : PT} {f : Nat} (h : ¬ pop s.1 14 ≤ 1) (h0 : ¬ nall N s.1 (N 0) = 0) (h5 : 500 < s.2.1 + pdn N (nall N s.1 (N 0) - 1)) : prs N (f + 1) s = none := by rw [prs, if_neg h, if_neg h0, if_pos h5]
theorem prs_s {N : Nat → Nat} {s : PT} {f : Nat} (h : ¬ pop s.1 14 ≤ 1) (h0 : ¬ nall N s.1 (N 0) = 0) (h5 : ¬ 500 < s.2.1 + pdn N (nall N s.1 (N 0) - 1)) : prs N (f + 1) s = prs N f (pnx N s) := by rw [prs, if_neg h, if_neg h0, if_neg h5]
def pOk (N : Nat → Nat) (s : PT) : Prop := s.1 < 2 ^ N 0 ∧ s.2.1 ≤ 500 ∧ ∀ p, p < s.2.1 → s.2.2 p < N 1
/-- a round that goes on -/
theorem near_ok {N : Nat → Nat} {s : PT} (hN : HN N) (hs : pOk N s) (h0 : ¬ nall N s.1 (N 0) = 0) : (nall N s.1 (N 0) - 1) / 14 < N 0 ∧ (nall N s.1 (N 0) - 1) % 14 < N 0 ∧ lsP N gM (pdn N (nall N s.1 (N 0) - 1)) (nall N s.1 (N 0) - 1) ∧ pdn N (nall N s.1 (N 0) - 1) < 196 ∧ eM N (nall N s.1 (N 0) - 1) = nI (pdn N (nall N s.1 (N 0) - 1)) ∧ (∀ i, i < pdn N (nall N s.1 (N 0) - 1) → pg N (nall N s.1 (N 0) - 1) i < N 1) ∧ pop (pnx N s).1 14 < pop s.1 14 ∧ (¬ 500 < s.2.1 + pdn N (nall N s.1 (N 0) - 1) → pOk N (pnx N s)) := by
  have hn := hN.n
  have hv := nall_v (S := s.1) hn (N 0) (Nat.le_refl _)
  have hp := nall_p (S := s.1) hn (N 0) (Nat.le_refl _)
  obtain ⟨l1, l2, l3⟩ := pdn_ok hN h0 hv hp
  rcases hv with z | ⟨v1, v2, -⟩
  · exact absurd z h0
  rcases hp with z | ⟨p1, p2, p3, p4⟩
  · exact absurd z h0
  have hg := (gr_row _ _ l1.1).1
  refine ⟨v1, v2, l1, l2, l3, hg, ?_, fun h5 => ⟨pis_lt hN hs.1 _ hg, by show s.2.1 + pdn N (nall N s.1 (N 0) - 1) ≤ 500; omega, fun p hpp => ?_⟩⟩
  · have hl' := l1
    rw [← show (nall N s.1 (N 0) - 1) / 14 * 14 + (nall N s.1 (N 0) - 1) % 14 = nall N s.1 (N 0) - 1 by omega] at hl'
    have := merge_lt hN _ _ _ s.1 v1 v2 (by omega) p1 p2 hl'
    rw [show (nall N s.1 (N 0) - 1) / 14 * 14 + (nall N s.1 (N 0) - 1) % 14 = nall N s.1 (N 0) - 1 by omega] at this
    exact this
  · show (if p < s.2.1 then s.2.2 p else pg N (nall N s.1 (N 0) - 1) (p - s.2.1)) < N 1
    have hpp' : p < s.2.1 + pdn N (nall N s.1 (N 0) - 1) := hpp
    split
    · exact hs.2.2 p (by omega)
    · exact hg _ (by omega)
theorem l149i {X : ai_X} {h : ai_H} {tp : Int32} {N : Nat → Nat} (d0 : h[0]? = some (cOne tp)) (hN : HN N) (C : CH h 3 N) {s L j : Nat} {gx : Nat → Nat} {f2 : Nat → Int32} (hs : s < 2 ^ N 0) (hL : L + j ≤ 500) (R : RouteAt h 17 (nI (L + j)) f2) (hy : ∀ i, i < j → f2 (L + i) = nI (gx i)) (hg : ∀ i, i < j → gx i < N 1) {y1 y5 : Int32} {c3 c4 : Option Value} {P : ai_O → Prop} (z : Rk X am_149 81 [some (.ref 0), some (.int y1), some (.int (nI (pis N gx s j))), c3, c4, some (.int y5), some (.int (nI (L + j)))] [] h P) : ∀ (d : Nat) (k : Nat), j < k + d → (k ≤ j) → Rk X am_149 65 [some (.ref 0), some (.int y1), some (.int (nI (pis N gx s k))), c3, c4, some (.int y5), some (.int (nI (L + k)))] [] h (P) := by
  intro d
  induction d with
  | zero => intro k hd hk; exfalso; omega
  | succ d ih =>
    intro k hd hk
    have e3 := C.1
    have r0 := R.1
    have hn := hN.p14
    have hsk : pis N gx s k < 2 ^ N 0 := pis_lt hN hs k (fun i hi => hg i (by omega))
    refine rk_iload rfl rfl ?_
    refine rk_aload_n rfl rfl ?_
    refine rk_get rfl (by assumption) rfl ?_
    refine rk_get rfl (by assumption) rfl ?_
    refine rk_icmp_ge rfl rfl (fun hc69 => ?_) (fun hc69 => ?_)
    · replace hc69 := (nI_leI (by omega) (by omega)).mp hc69
      have hk2 : k = j := by omega
      subst hk2
      exact z
    · replace hc69 := mt (nI_leI (by omega) (by omega)).mpr hc69
      refine rk_aload_n rfl rfl ?_
      refine rk_get rfl (by assumption) rfl ?_
      refine rk_iload_n rfl rfl ?_
      refine rk_aload_n rfl rfl ?_
      refine rk_get rfl (by assumption) rfl ?_
      refine rk_iload rfl rfl ?_
      refine rk_cv1e rfl rfl (by assumption) rfl rfl (Nat.le_of_ble_eq_true rfl) (Nat.le_of_ble_eq_true rfl) (s90 R (by omega)) ?_
      rw [hy k (by omega)]
      refine rk_cv2e rfl rfl (by assumption) rfl rfl (Nat.le_of_ble_eq_true rfl) (Nat.le_of_ble_eq_true rfl) (s39 hN C (by omega) (hg k (by omega))) ?_
      refine rk_istore_n rfl (Nat.le_of_ble_eq_true rfl) rfl ?_
      refine rk_iinc rfl rfl (n_inc _) rfl ?_
      refine rk_goto rfl rfl ?_
      exact ih (k + 1) (by omega) (by omega)
/-- how the class ends -/
def PC (N : Nat → Nat) (h h1 : ai_H) (r : Option PT) (w : Int32) : Prop := h1.length = h.length ∧ (∀ q : Nat, q ≠ 15 → q ≠ 16 → q ≠ 17 → q ≠ 18 → h1[q]? = h[q]?) ∧ (∃ n f, RouteAt h1 17 n f) ∧ ((r = none ∧ w = -1 ∧ h1[15]? = h[15]? ∧ h1[16]? = h[16]?) ∨ ∃ s, r = some s ∧ w = nI s.2.1 ∧ pOk N s ∧ RtAt h1 15 s.2.1 s.2.2)
theorem l149 {X : ai_X} {h : ai_H} {tp : Int32} {N : Nat → Nat} (d0 : h[0]? = some (cOne tp)) (hN : HN N) (C : CH h 3 N) {f : Nat → Int32} (d27 : h[27]? = some cPa) (c28 : h[28]? = some (cI 196 f)) (hf : ∀ x y, x < N 0 → y < N 0 → f (x * 14 + y) = ev N gM 196 (x * 14 + y)) (R15 : ∃ n f, RouteAt h 15 n f) {y1 : Int32} : ∀ (d : Nat) (i : Nat) (s : PT) (gg : ai_H) (c4 c5 c6 : Option Value), 14 < i + d → (i ≤ 14) → (pOk N s) → (Fr 17 19 h gg) → (RtAt gg 17 s.2.1 s.2.2) → Rk X am_149 19 [some (.ref 0), some (.int y1), some (.int (nI s.1)), some (.int (nI i)), c4, c5, c6] [] gg (Qi (fun w h1 => PC N h h1 (prs N (14 - i) s) w)) := by
  intro d
  induction d with
  | zero => intro i s gg c4 c5 c6 hd hi hs F R; exfalso; omega
  | succ d ih =>
    intro i s gg c4 c5 c6 hd hi hs F R
    have C2 := C.fr2 F (by omega)
    have e3 := C2.1
    have e0 := (F.2 0 (by omega)).trans d0
    have e27 := (F.2 27 (by omega)).trans d27
    have e28 := (F.2 28 (by omega)).trans c28
    have hp14 := hN.p14
    have hn := hN.n
    have hs1 := hs.1
    have hs2 := hs.2.1
    obtain ⟨fr, Rr, hfr⟩ := id R
    have r0 := Rr.1
    have F0 : Fr 17 19 h gg := F
    have hpo := pop_le s.1 14
    have hnv := nall_v (S := s.1) hn (N 0) (Nat.le_refl _)
    refine rk_iload_n rfl rfl ?_
    refine rk_bipush (v := nI 14) rfl (by decide) ?_
    refine rk_icmp_ge rfl rfl (fun hc21 => ?_) (fun hc21 => ?_)
    · replace hc21 := (nI_leI (by omega) (by omega)).mp hc21
      have hex : prs N (14 - i) s = some s := by rw [show 14 - i = 0 by omega]; rfl
      obtain ⟨n5, f5, r5⟩ := R15
      have RR15 : RouteAt gg 15 n5 f5 := r5.fr (fun q _ _ => F.2 q (by omega))
      have r15 := RR15.1
      refine rk_aload_n rfl rfl ?_
      refine rk_get rfl (by assumption) rfl ?_
      refine rk_aload_n rfl rfl ?_
      refine rk_get rfl (by assumption) rfl ?_
      refine rk_cv1v rfl rfl (by assumption) rfl rfl (Nat.le_of_ble_eq_true rfl) (Nat.le_of_ble_eq_true rfl) (s92 RR15 (by omega) Rr (by omega)) (fun h1 hF => ?_)
      obtain ⟨F3, g1, r3, y3⟩ := hF
      have e0' := (F3.2 0 (by omega)).trans e0
      have r17 : RouteAt h1 17 (nI s.2.1) fr := Rr.fr (fun q _ _ => F3.2 q (by omega))
      have r17' := r17.1
      clear r0
      refine rk_aload_n rfl rfl ?_
      refine rk_get rfl (by assumption) rfl ?_
      refine rk_get rfl (by assumption) rfl ?_
      exact rk_ireturn rfl rfl ⟨_, _, rfl, F3.1.trans F.1, fun q a1 a2 a3 a4 => (F3.2 q (by omega)).trans (F.2 q (by omega)), ⟨_, _, r17⟩, Or.inr ⟨s, hex, rfl, hs, g1, r3, fun p hp => (y3 p hp).trans (hfr p hp)⟩⟩
    · replace hc21 := mt (nI_leI (by omega) (by omega)).mpr hc21
      refine rk_iload_n rfl rfl ?_
      refine rk_cs1e rfl rfl rfl (Nat.le_of_ble_eq_true rfl) (Nat.le_of_ble_eq_true rfl) (s290 (by omega)) ?_
      refine rk_iconst (v := nI 1) rfl (by decide) ?_
      refine rk_icmp_le rfl rfl (fun hc25 => ?_) (fun hc25 => ?_)
      · replace hc25 := (nI_leI (by omega) (by omega)).mp hc25
        have hex : prs N (14 - i) s = some s := prs_1 hc25 _
        obtain ⟨n5, f5, r5⟩ := R15
        have RR15 : RouteAt gg 15 n5 f5 := r5.fr (fun q _ _ => F.2 q (by omega))
        have r15 := RR15.1
        refine rk_aload_n rfl rfl ?_
        refine rk_get rfl (by assumption) rfl ?_
        refine rk_aload_n rfl rfl ?_
        refine rk_get rfl (by assumption) rfl ?_
        refine rk_cv1v rfl rfl (by assumption) rfl rfl (Nat.le_of_ble_eq_true rfl) (Nat.le_of_ble_eq_true rfl) (s92 RR15 (by omega) Rr (by omega)) (fun h1 hF => ?_)
        obtain ⟨F3, g1, r3, y3⟩ := hF
        have e0' := (F3.2 0 (by omega)).trans e0
        have r17 : RouteAt h1 17 (nI s.2.1) fr := Rr.fr (fun q _ _ => F3.2 q (by omega))
        have r17' := r17.1
        clear r0
        refine rk_aload_n rfl rfl ?_
        refine rk_get rfl (by assumption) rfl ?_
        refine rk_get rfl (by assumption) rfl ?_
        exact rk_ireturn rfl rfl ⟨_, _, rfl, F3.1.trans F.1, fun q a1 a2 a3 a4 => (F3.2 q (by omega)).trans (F.2 q (by omega)), ⟨_, _, r17⟩, Or.inr ⟨s, hex, rfl, hs, g1, r3, fun p hp => (y3 p hp).trans (hfr p hp)⟩⟩
      · replace hc25 := mt (nI_leI (by omega) (by omega)).mpr hc25
        obtain ⟨f, hfi⟩ : ∃ f, 14 - i = f + 1 := ⟨14 - i - 1, by omega⟩
        rw [hfi]
        refine rk_aload_n rfl rfl ?_
        refine rk_get rfl (by assumption) rfl ?_
        refine rk_aload_n rfl rfl ?_
        refine rk_get rfl (by assumption) rfl ?_
        refine rk_get rfl (by assumption) rfl ?_
        refine rk_iload_n rfl rfl ?_
        refine rk_cv2e rfl rfl (by assumption) rfl rfl (Nat.le_of_ble_eq_true rfl) (Nat.le_of_ble_eq_true rfl) (s58 hN e27 e28 hf (by omega)) ?_
        refine rk_istore rfl (Nat.le_of_ble_eq_true rfl) rfl ?_
        refine rk_iload rfl rfl ?_
        refine rk_iconst (v := (-1)) rfl (by decide) ?_
        refine rk_icmp_ne rfl rfl (fun hc36 => ?_) (fun hc36 => ?_)
        · have hz : ¬ nall N s.1 (N 0) = 0 := fun y => hc36 ((vlB_m1 (by omega)).mpr y)
          have hvq : vlB (nall N s.1 (N 0)) = nI (nall N s.1 (N 0) - 1) := if_neg hz
          rw [hvq]
          obtain ⟨q1, q2, q3', q4, q5, q6, q7, q8⟩ := near_ok hN hs hz
          have hqq : (nall N s.1 (N 0) - 1) / 14 * 14 + (nall N s.1 (N 0) - 1) % 14 = (nall N s.1 (N 0) - 1) := by omega
          have q3 : lsP N gM (pdn N (nall N s.1 (N 0) - 1)) ((nall N s.1 (N 0) - 1) / 14 * 14 + (nall N s.1 (N 0) - 1) % 14) := by rw [hqq]; exact q3'
          refine rk_aload_n rfl rfl ?_
          refine rk_get rfl (by assumption) rfl ?_
          refine rk_get rfl (by assumption) rfl ?_
          refine rk_istore rfl (Nat.le_of_ble_eq_true rfl) rfl ?_
          refine rk_aload_n rfl rfl ?_
          refine rk_get rfl (by assumption) rfl ?_
          refine rk_aload_n rfl rfl ?_
          refine rk_get rfl (by assumption) rfl ?_
          refine rk_iload rfl rfl ?_
          refine rk_bipush (v := nI 14) rfl (by decide) ?_
          refine rk_idiv rfl (nI_ne0 (by omega) (by omega)) (pk_div (by omega) (by omega) (by omega)) ?_
          refine rk_iload rfl rfl ?_
          refine rk_bipush (v := nI 14) rfl (by decide) ?_
          refine rk_irem rfl (nI_ne0 (by omega) (by omega)) (pk_rem (by omega) (by omega) (by omega)) ?_
          refine rk_aload_n rfl rfl ?_
          refine rk_get rfl (by assumption) rfl ?_
          refine rk_cv4v rfl rfl (by assumption) rfl rfl (Nat.le_of_ble_eq_true rfl) (Nat.le_of_ble_eq_true rfl) (s57 (q := 17) (f1 := fr) hN C2 e27 e28 hf ⟨Or.inl rfl, by omega⟩ q1 q2 q3 (by omega) Rr) (fun h1 hF => ?_)
          obtain ⟨F1, f2, R2, y1, y2⟩ := hF
          rw [hqq] at y2
          have F2 := F.tr F1
          have e0' := (F1.2 0 (by omega)).trans e0
          have C3 := C2.fr2 F1 (by omega)
          have r2 := R2.1
          clear r0
          refine rk_aload_n rfl rfl ?_
          refine rk_get rfl (by assumption) rfl ?_
          refine rk_get rfl (by assumption) rfl ?_
          refine rk_sipush (v := nI 500) rfl (by decide) ?_
          refine rk_icmp_le rfl rfl (fun hc60 => ?_) (fun hc60 => ?_)
          · replace hc60 := (nI_leI (by omega) (by omega)).mp hc60
            have hb : ¬ 500 < s.2.1 + pdn N (nall N s.1 (N 0) - 1) := by omega
            refine rk_iload rfl rfl ?_
            refine rk_istore rfl (Nat.le_of_ble_eq_true rfl) rfl ?_
            refine l149i (gx := pg N (nall N s.1 (N 0) - 1)) e0' hN C3 hs1 (by omega) R2 (fun i hi => y2 i hi (by omega)) q6 ?_ (pdn N (nall N s.1 (N 0) - 1) + 1) 0 (by omega) (Nat.zero_le _)
            refine rk_iinc rfl rfl (n_inc _) rfl ?_
            refine rk_goto rfl rfl ?_
            rw [prs_s hc25 hz hb]
            have zz := ih (i + 1) (pnx N s) h1 (some (.int (nI (nall N s.1 (N 0) - 1)))) (some (.int (nI s.2.1))) (some (.int (nI (s.2.1 + pdn N (nall N s.1 (N 0) - 1))))) (by omega) (by omega) (q8 hb) F2 ⟨f2, R2, fun p hp => ?_⟩
            · rw [show 14 - (i + 1) = f by omega] at zz
              exact zz
            · show f2 p = nI (if p < s.2.1 then s.2.2 p else pg N (nall N s.1 (N 0) - 1) (p - s.2.1))
              have hp' : p < s.2.1 + pdn N (nall N s.1 (N 0) - 1) := hp
              by_cases y : p < s.2.1
              · rw [if_pos y, y1 p y (by omega), hfr p y]
              · rw [if_neg y]
                have := y2 (p - s.2.1) (by omega) (by omega)
                rwa [show s.2.1 + (p - s.2.1) = p by omega] at this
          · replace hc60 := mt (nI_leI (by omega) (by omega)).mpr hc60
            have hb : 500 < s.2.1 + pdn N (nall N s.1 (N 0) - 1) := by omega
            refine rk_iconst (v := (-1)) rfl (by decide) ?_
            exact rk_ireturn rfl rfl ⟨_, _, rfl, F2.1, fun q a1 a2 a3 a4 => F2.2 q (by omega), ⟨_, _, R2⟩, Or.inl ⟨prs_b hc25 hz hb, rfl, F2.2 15 (by omega), F2.2 16 (by omega)⟩⟩
        · replace hc36 := Decidable.not_not.mp hc36
          have hz := (vlB_m1 (by omega)).mp hc36
          refine rk_iconst (v := (-1)) rfl (by decide) ?_
          exact rk_ireturn rfl rfl ⟨_, _, rfl, F.1, fun q a1 a2 a3 a4 => F.2 q (by omega), ⟨_, _, Rr⟩, Or.inl ⟨prs_n hc25 hz, rfl, F.2 15 (by omega), F.2 16 (by omega)⟩⟩
theorem c149_v {X : ai_X} {h : ai_H} {tp : Int32} {N : Nat → Nat} (d0 : h[0]? = some (cOne tp)) (hN : HN N) (C : CH h 3 N) {f0 : Nat → Int32} {S : Nat} (d27 : h[27]? = some cPa) (c28 : h[28]? = some (cI 196 f0)) (hS : 0 < S ∧ S < 2 ^ N 0) (R15 : ∃ n f, RouteAt h 15 n f) (R17 : ∃ n f, RouteAt h 17 n f) : Mt X am_149 [.ref 0, .int (nI S)] h (Qi (fun w h1 => ∃ g, Fr 28 29 h g ∧ PC N g h1 (prs N 14 (S, 0, fun _ => 0)) w)) := by
  have e3 := C.1
  have hp14 := hN.p14
  refine rk_aload_n rfl rfl ?_
  refine rk_get rfl (by assumption) rfl ?_
  refine rk_iload_n rfl rfl ?_
  refine rk_cv1e rfl rfl (by assumption) rfl rfl (Nat.le_of_ble_eq_true rfl) (Nat.le_of_ble_eq_true rfl) (s26N hN C _) ?_
  refine rk_if_ne rfl rfl (fun hc4 => ?_) (fun hc4 => ?_)
  · replace hc4 := Decidable.not_not.mp (mt bI_0.mpr hc4)
    refine rk_aload_n rfl rfl ?_
    refine rk_get rfl (by assumption) rfl ?_
    refine rk_aload_n rfl rfl ?_
    refine rk_get rfl (by assumption) rfl ?_
    refine rk_cv1v rfl rfl (by assumption) rfl rfl (Nat.le_of_ble_eq_true rfl) (Nat.le_of_ble_eq_true rfl) (s52 hN C d27 c28 (by omega)) (fun h1 hF => ?_)
    obtain ⟨F1, f1, g28, hf1⟩ := hF
    have e0 := (F1.2 0 (by omega)).trans d0
    have e27 := (F1.2 27 (by omega)).trans d27
    have C1 := C.fr2 F1 (by omega)
    obtain ⟨n7, f7, r7⟩ := R17
    have r7b : RouteAt h1 17 n7 f7 := r7.fr (fun q _ _ => F1.2 q (by omega))
    have F1L := F1
    have r7c := r7b.1
    replace e3 := C1.1
    refine rk_aload_n rfl rfl ?_
    refine rk_get rfl (by assumption) rfl ?_
    refine rk_cv0v rfl rfl (by assumption) rfl rfl (Nat.le_of_ble_eq_true rfl) (Nat.le_of_ble_eq_true rfl) (s88 r7b) (fun h1 hF => ?_)
    obtain ⟨F2, r8⟩ := hF
    refine rk_iload_n rfl rfl ?_
    refine rk_istore_n rfl (Nat.le_of_ble_eq_true rfl) rfl ?_
    refine rk_iconst (v := nI 0) rfl (by decide) ?_
    refine rk_istore_n rfl (Nat.le_of_ble_eq_true rfl) rfl ?_
    obtain ⟨n5, f5, r5⟩ := R15
    refine (l149 e0 hN C1 e27 g28 hf1 ⟨n5, f5, r5.fr (fun q _ _ => F1.2 q (by omega))⟩ 15 0 (S, 0, fun _ => 0) _ _ _ _ (by omega) (by omega) ⟨hS.2, Nat.zero_le _, fun p hp => absurd hp (Nat.not_lt_zero _)⟩ F2 ⟨f7, r8, fun p hp => absurd hp (Nat.not_lt_zero _)⟩).mono ?_
    rintro o ⟨w, h3, rfl, hpc⟩
    exact ⟨_, _, rfl, _, F1, hpc⟩
  · replace hc4 := Decidable.not_not.mp hc4
    replace hc4 := (bI_0).mp hc4
    exact absurd (isSet_mk hN hS.1 hS.2) hc4
theorem c149_x {X : ai_X} {h : ai_H} {tp : Int32} {N : Nat → Nat} (d0 : h[0]? = some (cOne tp)) (hN : HN N) (C : CH h 3 N) {a : Int32} (hx : ¬ IsSet N a) : Mt X am_149 [.ref 0, .int a] h (Qe (-3) h) := by
  have e3 := C.1
  refine rk_aload_n rfl rfl ?_
  refine rk_get rfl (by assumption) rfl ?_
  refine rk_iload_n rfl rfl ?_
  refine rk_cv1e rfl rfl (by assumption) rfl rfl (Nat.le_of_ble_eq_true rfl) (Nat.le_of_ble_eq_true rfl) (s26N hN C _) ?_
  refine rk_if_ne rfl rfl (fun hc4 => ?_) (fun hc4 => ?_)
  · replace hc4 := Decidable.not_not.mp (mt bI_0.mpr hc4)
    exact absurd hc4 hx
  · replace hc4 := Decidable.not_not.mp hc4
    replace hc4 := (bI_0).mp hc4
    refine rk_bipush (v := (-3)) rfl (by decide) ?_
    exact rk_ireturn rfl rfl Qe_mk
