/-! SPARE, MENDED -/
theorem Mt.ski {X : ai_X} {M : ai_M} {av : List Value} {h : ai_H} {F : Int32 → ai_H → Prop} (z : Mt X M av h (Qi F)) : Mt X M av h (Qi (fun w h1 => F w h1 ∧ ai_Sk h h1)) := by
  refine z.sk.mono ?_
  rintro o ⟨⟨w, h1, rfl, q⟩, k⟩
  exact ⟨_, _, rfl, q, k⟩
theorem Mt.skv {X : ai_X} {M : ai_M} {av : List Value} {h : ai_H} {F : ai_H → Prop} (z : Mt X M av h (Qv F)) : Mt X M av h (Qv (fun h1 => F h1 ∧ ai_Sk h h1)) := by
  refine z.sk.mono ?_
  rintro o ⟨⟨h1, rfl, q⟩, k⟩
  exact ⟨_, rfl, q, k⟩
def spr (N : Nat → Nat) : Nat → Nat
  | 0 => 0
  | t + 1 => if hm1 N (nI t) = true then spr N t ||| 2 ^ t else spr N t
theorem spr_t {N : Nat → Nat} {t : Nat} (h : hm1 N (nI t) = true) : spr N (t + 1) = spr N t ||| 2 ^ t := if_pos h
theorem spr_f {N : Nat → Nat} {t : Nat} (h : ¬ hm1 N (nI t) = true) : spr N (t + 1) = spr N t := if_neg h
theorem l151 {X : ai_X} {h : ai_H} {tp : Int32} {N : Nat → Nat} (d0 : h[0]? = some (cOne tp)) (hN : HN N) (C : CH h 3 N) (d27 : h[27]? = some cPa) (S29 : ShI h 29 14) (h0 : ¬ N 0 = 0) : ∀ (d : Nat) (t : Nat) (g : ai_H), N 1 < t + d → (t ≤ N 1) → (Fr 29 30 h g) → (ShI g 29 14) → Rk X am_151 10 [some (.ref 0), some (.int (nI (spr N t))), some (.int (nI t))] [] g (Qi (fun w h1 => w = nI (spr N (N 1)) ∧ Fr 29 30 h h1)) := by
  intro d
  induction d with
  | zero => intro t g hd ht F S2; exfalso; omega
  | succ d ih =>
    intro t g hd ht F S2
    have C2 := C.fr2 F (by omega)
    have e3 := C2.1
    have e0 := (F.2 0 (by omega)).trans d0
    have e27 := (F.2 27 (by omega)).trans d27
    have hn := hN.n
    have h6 := hN.t
    refine rk_iload_n rfl rfl ?_
    refine rk_aload_n rfl rfl ?_
    refine rk_get rfl (by assumption) rfl ?_
    refine rk_get rfl (by assumption) rfl ?_
    refine rk_icmp_ge rfl rfl (fun hc14 => ?_) (fun hc14 => ?_)
    · replace hc14 := (nI_leI (by omega) (by omega)).mp hc14
      refine rk_iload_n rfl rfl ?_
      exact rk_ireturn rfl rfl ⟨_, _, rfl, by rw [show t = N 1 by omega], F⟩
    · replace hc14 := mt (nI_leI (by omega) (by omega)).mpr hc14
      refine rk_aload_n rfl rfl ?_
      refine rk_get rfl (by assumption) rfl ?_
      refine rk_aload_n rfl rfl ?_
      refine rk_get rfl (by assumption) rfl ?_
      refine rk_iload_n rfl rfl ?_
      refine rk_cv2i rfl rfl (by assumption) rfl rfl (Nat.le_of_ble_eq_true rfl) (Nat.le_of_ble_eq_true rfl) ((s60 (bt := nI t) hN C2 e27 (by omega) h0 S2).ski) (fun w h1 hF => ?_)
      obtain ⟨⟨rfl, F1⟩, k1⟩ := hF
      have SS := S2.sk k1
      refine rk_if_eq rfl rfl (fun hc21 => ?_) (fun hc21 => ?_)
      · replace hc21 := (bI_0).mp hc21
        refine rk_iinc rfl rfl (n_inc _) rfl ?_
        refine rk_goto rfl rfl ?_
        first
          | (have zz := ih (t + 1) _ (by omega) (by omega) (F.tr F1) SS
             rw [spr_t hc21] at zz
             exact zz)
          | (have zz := ih (t + 1) _ (by omega) (by omega) (F.tr F1) SS
             rw [spr_f hc21] at zz
             exact zz)
      · replace hc21 := Decidable.not_not.mp (mt bI_0.mpr hc21)
        refine rk_iload_n rfl rfl ?_
        refine rk_iconst (v := nI 1) rfl (by decide) ?_
        refine rk_iload_n rfl rfl ?_
        refine rk_ishl rfl (b_1shlU (by omega)) ?_
        refine rk_ior rfl (b_orU _ _) ?_
        refine rk_istore_n rfl (Nat.le_of_ble_eq_true rfl) rfl ?_
        refine rk_iinc rfl rfl (n_inc _) rfl ?_
        refine rk_goto rfl rfl ?_
        first
          | (have zz := ih (t + 1) _ (by omega) (by omega) (F.tr F1) SS
             rw [spr_t hc21] at zz
             exact zz)
          | (have zz := ih (t + 1) _ (by omega) (by omega) (F.tr F1) SS
             rw [spr_f hc21] at zz
             exact zz)
theorem c151_v {X : ai_X} {h : ai_H} {tp : Int32} {N : Nat → Nat} (d0 : h[0]? = some (cOne tp)) (hN : HN N) (C : CH h 3 N) (d27 : h[27]? = some cPa) (S29 : ShI h 29 14) (h0 : ¬ N 0 = 0) : Mt X am_151 [.ref 0] h (Qi (fun w h1 => w = nI (spr N (N 1)) ∧ Fr 29 30 h h1)) := by
  have e3 := C.1
  have hn := hN.n
  refine rk_aload_n rfl rfl ?_
  refine rk_get rfl (by assumption) rfl ?_
  refine rk_get rfl (by assumption) rfl ?_
  refine rk_if_ne rfl rfl (fun hc3 => ?_) (fun hc3 => ?_)
  · replace hc3 := mt (n0_eq (by omega)).mpr hc3
    refine rk_iconst (v := nI 0) rfl (by decide) ?_
    refine rk_istore_n rfl (Nat.le_of_ble_eq_true rfl) rfl ?_
    refine rk_iconst (v := nI 0) rfl (by decide) ?_
    refine rk_istore_n rfl (Nat.le_of_ble_eq_true rfl) rfl ?_
    exact l151 d0 hN C d27 S29 h0 (N 1 + 1) 0 h (by omega) (Nat.zero_le _) Fr.rfl' S29
  · replace hc3 := Decidable.not_not.mp hc3
    replace hc3 := (n0_eq (by omega)).mp hc3
    exact absurd hc3 h0
theorem c151_x {X : ai_X} {h : ai_H} {tp : Int32} {N : Nat → Nat} (d0 : h[0]? = some (cOne tp)) (hN : HN N) (C : CH h 3 N) (h0 : N 0 = 0) : Mt X am_151 [.ref 0] h (Qe (-5) h) := by
  have e3 := C.1
  have hn := hN.n
  refine rk_aload_n rfl rfl ?_
  refine rk_get rfl (by assumption) rfl ?_
  refine rk_get rfl (by assumption) rfl ?_
  refine rk_if_ne rfl rfl (fun hc3 => ?_) (fun hc3 => ?_)
  · replace hc3 := mt (n0_eq (by omega)).mpr hc3
    exact absurd h0 hc3
  · replace hc3 := Decidable.not_not.mp hc3
    replace hc3 := (n0_eq (by omega)).mp hc3
    refine rk_bipush (v := (-5)) rfl (by decide) ?_
    exact rk_ireturn rfl rfl Qe_mk
theorem l249 {X : ai_X} {h : ai_H} {v A : Nat → Int32} {N : Nat → Nat} (c0 : h[52]? = some (cMdl v)) (c1 : h[53]? = some (cI 2346 A)) (hN : HN N) (M : MH A N) (h0 : ¬ N 0 = 0) : ∀ (d : Nat) (t : Nat) (g : ai_H), N 1 < t + d → (t ≤ N 1) → (Fr 64 65 h g) → (ShZ g 64 196) → Rk X am_249 14 [some (.ref 52), some (.int (nI (spr N t))), some (.int (nI t))] [] g (Qi (fun w h1 => w = nI (spr N (N 1)) ∧ Fr 64 65 h h1)) := by
  intro d
  induction d with
  | zero => intro t g hd ht F S64; exfalso; omega
  | succ d ih =>
    intro t g hd ht F S64
    obtain ⟨a0, a1, a268, a269, a270, a271, apl, apc, aot, asg, awt⟩ := id M
    have hn := hN.n
    have h6 := hN.t
    have e52 := (F.2 52 (by omega)).trans c0
    have e53 := (F.2 53 (by omega)).trans c1
    refine rk_iload_n rfl rfl ?_
    refine rk_aload_n rfl rfl ?_
    refine rk_get rfl (by assumption) rfl ?_
    refine rk_iconst (v := nI 1) rfl (by decide) ?_
    refine rk_iald rfl (by assumption) (rfl) (by omega) (by decide) ?_
    rw [a1]
    refine rk_icmp_ge rfl rfl (fun hc19 => ?_) (fun hc19 => ?_)
    · replace hc19 := (nI_leI (by omega) (by omega)).mp hc19
      refine rk_iload_n rfl rfl ?_
      exact rk_ireturn rfl rfl ⟨_, _, rfl, by rw [show t = N 1 by omega], F⟩
    · replace hc19 := mt (nI_leI (by omega) (by omega)).mpr hc19
      refine rk_iload_n rfl rfl ?_
      refine rk_aload_n rfl rfl ?_
      refine rk_iload_n rfl rfl ?_
      refine rk_cv1i rfl rfl (by assumption) rfl rfl (Nat.le_of_ble_eq_true rfl) (Nat.le_of_ble_eq_true rfl) ((s248 (bt := nI t) e52 e53 hN M h0 S64).ski) (fun w h1 hF => ?_)
      obtain ⟨⟨rfl, F1⟩, k1⟩ := hF
      have SS := S64.sk k1
      refine rk_if_eq rfl rfl (fun hc24 => ?_) (fun hc24 => ?_)
      · replace hc24 := (bI_0).mp hc24
        have hz0 : spr N t ||| 0 = spr N t := Nat.or_zero _
        refine rk_iconst (v := nI 0) rfl (by decide) ?_
        refine rk_ior rfl (b_orU _ _) ?_
        try rw [Nat.or_zero]
        refine rk_istore_n rfl (Nat.le_of_ble_eq_true rfl) rfl ?_
        refine rk_iinc rfl rfl (n_inc _) rfl ?_
        refine rk_goto rfl rfl ?_
        first
          | (have zz := ih (t + 1) _ (by omega) (by omega) (F.tr F1) SS
             rw [spr_t hc24] at zz
             exact zz)
          | (have zz := ih (t + 1) _ (by omega) (by omega) (F.tr F1) SS
             rw [spr_f hc24] at zz
             exact zz)
      · replace hc24 := Decidable.not_not.mp (mt bI_0.mpr hc24)
        refine rk_iconst (v := nI 1) rfl (by decide) ?_
        refine rk_iload_n rfl rfl ?_
        refine rk_ishl rfl (b_1shlU (by omega)) ?_
        refine rk_goto rfl rfl ?_
        refine rk_ior rfl (b_orU _ _) ?_
        try rw [Nat.or_zero]
        refine rk_istore_n rfl (Nat.le_of_ble_eq_true rfl) rfl ?_
        refine rk_iinc rfl rfl (n_inc _) rfl ?_
        refine rk_goto rfl rfl ?_
        first
          | (have zz := ih (t + 1) _ (by omega) (by omega) (F.tr F1) SS
             rw [spr_t hc24] at zz
             exact zz)
          | (have zz := ih (t + 1) _ (by omega) (by omega) (F.tr F1) SS
             rw [spr_f hc24] at zz
             exact zz)
theorem m249_v {X : ai_X} {h : ai_H} {v A : Nat → Int32} {N : Nat → Nat} (c0 : h[52]? = some (cMdl v)) (c1 : h[53]? = some (cI 2346 A)) (hN : HN N) (M : MH A N) (h0 : ¬ N 0 = 0) (S64 : ShZ h 64 196) : Rk X am_249 3 (ai_loc (ai_mL am_249) [.ref 52]) [] h (Qi (fun w h1 => w = nI (spr N (N 1)) ∧ Fr 64 65 h h1)) := by
  obtain ⟨a0, a1, a268, a269, a270, a271, apl, apc, aot, asg, awt⟩ := id M
  have hn := hN.n
  refine rk_aload_n rfl rfl ?_
  refine rk_get rfl (by assumption) rfl ?_
  refine rk_iconst (v := nI 0) rfl (by decide) ?_
  refine rk_iald rfl (by assumption) (rfl) (by omega) (by decide) ?_
  rw [a0]
  refine rk_if_ne rfl rfl (fun hc7 => ?_) (fun hc7 => ?_)
  · replace hc7 := mt (n0_eq (by omega)).mpr hc7
    refine rk_iconst (v := nI 0) rfl (by decide) ?_
    refine rk_istore_n rfl (Nat.le_of_ble_eq_true rfl) rfl ?_
    refine rk_iconst (v := nI 0) rfl (by decide) ?_
    refine rk_istore_n rfl (Nat.le_of_ble_eq_true rfl) rfl ?_
    exact l249 c0 c1 hN M h0 (N 1 + 1) 0 h (by omega) (Nat.zero_le _) Fr.rfl' S64
  · replace hc7 := Decidable.not_not.mp hc7
    replace hc7 := (n0_eq (by omega)).mp hc7
    exact absurd hc7 h0
theorem m249_x {X : ai_X} {h : ai_H} {v A : Nat → Int32} {N : Nat → Nat} (c0 : h[52]? = some (cMdl v)) (c1 : h[53]? = some (cI 2346 A)) (hN : HN N) (M : MH A N) (h0 : N 0 = 0) : Rk X am_249 3 (ai_loc (ai_mL am_249) [.ref 52]) [] h (Qe (-5) h) := by
  obtain ⟨a0, a1, a268, a269, a270, a271, apl, apc, aot, asg, awt⟩ := id M
  have hn := hN.n
  refine rk_aload_n rfl rfl ?_
  refine rk_get rfl (by assumption) rfl ?_
  refine rk_iconst (v := nI 0) rfl (by decide) ?_
  refine rk_iald rfl (by assumption) (rfl) (by omega) (by decide) ?_
  rw [a0]
  refine rk_if_ne rfl rfl (fun hc7 => ?_) (fun hc7 => ?_)
  · replace hc7 := mt (n0_eq (by omega)).mpr hc7
    exact absurd h0 hc7
  · replace hc7 := Decidable.not_not.mp hc7
    replace hc7 := (n0_eq (by omega)).mp hc7
    refine rk_bipush (v := (-5)) rfl (by decide) ?_
    exact rk_ireturn rfl rfl Qe_mk
/-- one way told anew -/
def uN (N : Nat → Nat) (r t to : Nat) : Nat → Nat := un N (2 + (6 * r + t)) to
theorem uN_pl {N : Nat → Nat} {r t to r' t' : Nat} (ht : t < 6) (ht' : t' < 6) : pl (uN N r t to) r' t' = if r' = r ∧ t' = t then to else pl N r' t' := by
  show uN N r t to (2 + (6 * r' + t')) = _
  by_cases y : r' = r ∧ t' = t
  · obtain ⟨rfl, rfl⟩ := y
    rw [if_pos ⟨rfl, rfl⟩, uN, un_s]
  · rw [if_neg y, uN, un_n (by omega)]
theorem uN_n {N : Nat → Nat} {r t to k : Nat} (h : ¬ (2 ≤ k ∧ k < 86)) (hr : r < 14) (ht : t < 6) : uN N r t to k = N k := un_n (by omega)
theorem uN_HN {N : Nat → Nat} {r t to : Nat} (hN : HN N) (hr : r < N 0) (ht : t < N 1) (hto : to < N 0) : HN (uN N r t to) := by
  have hn := hN.n
  have h6 := hN.t
  have e : ∀ k, ¬ (2 ≤ k ∧ k < 86) → uN N r t to k = N k := fun k hk => uN_n hk (by omega) (by omega)
  obtain ⟨x1, x2, x3, x4, x5, x6, x7, x8, x9⟩ := hN
  refine ⟨?_, ?_, ?_, ?_, ?_, fun r' i hr' hi => ?_, fun r' i hr' hi => ?_, fun r' hr' => ?_, fun w hw => ?_⟩
  · rw [e 0 (by omega), e 1 (by omega), e 271 (by omega)]; exact x1
  · rw [e 271 (by omega)]; exact x2
  · rw [e 0 (by omega), e 270 (by omega)]; exact x3
  · rw [e 0 (by omega), e 268 (by omega)]; exact x4
  · rw [e 0 (by omega), e 269 (by omega)]; exact x5
  · rw [e 0 (by omega)] at hr' ⊢
    rw [e 1 (by omega)] at hi
    rw [uN_pl (by omega) (by omega)]
    split
    · exact hto
    · exact x6 r' i hr' hi
  · show uN N r t to (170 + (6 * r' + i)) < 100 ∧ (0 < uN N r t to (170 + (6 * r' + i)) → r' < uN N r t to 0 ∧ i < uN N r t to 1 ∧ uN N r t to (86 + (6 * r' + i)) < uN N r t to 0)
    rw [e 0 (by omega), e 1 (by omega), e _ (by omega), e (86 + (6 * r' + i)) (by omega)]
    exact x7 r' i hr' hi
  · show uN N r t to (254 + r') < 10
    rw [e _ (by omega)]
    exact x8 r' hr'
  · rw [e 271 (by omega)] at hw
    show uN N r t to (272 + w) < uN N r t to 0
    rw [e 0 (by omega), e _ (by omega)]
    exact x9 w hw
/-- houses with the same ways are home alike -/
def SW (N N1 : Nat → Nat) : Prop := N1 0 = N 0 ∧ N1 1 = N 1 ∧ N1 270 = N 270 ∧ ∀ r t, r < N 0 → t < N 1 → pl N1 r t = pl N r t
theorem SW.nx {N N1 : Nat → Nat} (hN : HN N) (S : SW N N1) {x t : Nat} (hx : vP N x) (ht : t < N 1) : nxP N1 x t = nxP N x t := by
  have hn := hN.n
  obtain ⟨v1, v2, v3⟩ := vP_of hx
  have h1 := nxP_ab (N := N) (a := x / 14) (b := x % 14) (t := t) (by omega)
  have h2 := nxP_ab (N := N1) (a := x / 14) (b := x % 14) (t := t) (by omega)
  rw [v3] at h1 h2
  rw [h1, h2, S.2.2.2 _ _ v1 ht, S.2.2.2 _ _ v2 ht]
theorem SW.sym {N N1 : Nat → Nat} (S : SW N N1) : SW N1 N := by
  obtain ⟨a, b, c, d⟩ := S
  exact ⟨a.symm, b.symm, c.symm, fun r t hr ht => (d r t (by omega) (by omega)).symm⟩
theorem SW.rb {N N1 : Nat → Nat} {bt : Int32} {g : Nat → Bool} (hN : HN N) (hN1 : HN N1) (S : SW N N1) {x : Nat} (hx : vP N x) (h : RB N bt g x) : RB N1 bt g x := by
  refine RB.min (W := fun x => RB N1 bt g x) hN (fun x hx y => RB.z y) (fun x t hx ht hb y => ?_) hx h
  refine RB.s (by rw [S.2.1]; exact ht) hb ?_
  rw [S.nx hN hx ht]
  exact y
theorem SW.home {N N1 : Nat → Nat} {bt : Int32} (hN : HN N) (hN1 : HN N1) (S : SW N N1) (h : HomeB N bt) : HomeB N1 bt := fun a b ha hb => by
  rw [S.1] at ha hb
  have e : gH N1 = gH N := by
    funext x
    unfold gH
    rw [S.2.2.1]
  rw [e]
  exact S.rb hN hN1 (vP_ab hN ha hb) (h a b ha hb)
theorem SW.hm {N N1 : Nat → Nat} {bt : Int32} (hN : HN N) (hN1 : HN N1) (S : SW N N1) : hm1 N1 bt = hm1 N bt := by
  rw [Bool.eq_iff_iff, hm1_iff hN, hm1_iff hN1]
  exact ⟨S.sym.home hN1 hN, S.home hN hN1⟩
/-- the object of a house with these numbers -/
def Fof (N : Nat → Nat) (i : Nat) : Int32 := nI (if i = 0 then N 0 else if i = 1 then N 1 else if i = 2 then N 280 else if i = 3 then N 270 else if i = 4 then N 271 else if i = 5 then N 268 else N 269)
theorem CH.at {h : ai_H} {p : Nat} {N : Nat → Nat} (C : CH h p N) : ∃ F G, HouseAt h p F G := by
  obtain ⟨c0, G, c1, c2, c3, c4, c5, -⟩ := C
  exact ⟨Fof N, G, c0, c1, c2, c3, c4, c5⟩
theorem s22C {X : ai_X} {h : ai_H} {p q : Nat} {N : Nat → Nat} (hN : HN N) (H : ∃ F G, HouseAt h p F G) (C : CH h q N) (hpq : p + 6 ≤ q ∨ q + 6 ≤ p) : Mt X am_22 [.ref p, .ref q] h (Qv (fun h1 => Fr p (p + 6) h h1 ∧ CH h1 p N)) := by
  obtain ⟨F, G, H⟩ := H
  obtain ⟨c0, G1, c1, c2, c3, c4, c5, g1, g2, g3, g4, g5⟩ := C
  have hn := hN.n
  have h6 := hN.t
  have hw := hN.w
  have H1 : HouseAt h q (Fof N) G1 := ⟨c0, c1, c2, c3, c4, c5⟩
  refine (s22 H H1 hpq).mono ?_
  rintro o ⟨h1, rfl, F0, G2, ⟨k0, k1, k2, k3, k4, k5⟩, y1, y2, y3⟩
  refine ⟨_, rfl, F0, k0, G2, k1, k2, k3, k4, k5, fun r i hr hi => ?_, fun r i hr hi => ?_, fun r i hr hi z => ?_, fun r hr => ?_, fun w hw => ?_⟩
  · rw [(y1 _ (by omega)).1]; exact g1 r i hr hi
  · rw [(y1 _ (by omega)).2.2]; exact g2 r i hr hi
  · rw [(y1 _ (by omega)).2.1]; exact g3 r i hr hi z
  · rw [y2 _ (by omega)]; exact g4 r hr
  · rw [y3 _ (by omega)]; exact g5 w hw
/-- a way of the draft told anew: it has no chance -/
def vN (N : Nat → Nat) (r t to : Nat) : Nat → Nat := un (uN N r t to) (170 + (6 * r + t)) 0
theorem vN_HN {N : Nat → Nat} {r t to : Nat} (hN : HN N) (hr : r < N 0) (ht : t < N 1) (hto : to < N 0) : HN (vN N r t to) := by
  have hn := hN.n
  have h6 := hN.t
  have hU := uN_HN hN hr ht hto
  have e : ∀ k, k ≠ 170 + (6 * r + t) → vN N r t to k = uN N r t to k := fun k hk => un_n hk
  generalize uN N r t to = U at hU e
  obtain ⟨x1, x2, x3, x4, x5, x6, x7, x8, x9⟩ := hU
  refine ⟨?_, ?_, ?_, ?_, ?_, fun r' i hr' hi => ?_, fun r' i hr' hi => ?_, fun r' hr' => ?_, fun w hw => ?_⟩
  · rw [e 0 (by omega), e 1 (by omega), e 271 (by omega)]; exact x1
  · rw [e 271 (by omega)]; exact x2
  · rw [e 0 (by omega), e 270 (by omega)]; exact x3
  · rw [e 0 (by omega), e 268 (by omega)]; exact x4
  · rw [e 0 (by omega), e 269 (by omega)]; exact x5
  · rw [e 0 (by omega)] at hr'
    rw [e 1 (by omega)] at hi
    show vN N r t to (2 + (6 * r' + i)) < vN N r t to 0
    rw [e 0 (by omega), e _ (by omega)]
    exact x6 r' i hr' hi
  · show vN N r t to (170 + (6 * r' + i)) < 100 ∧ (0 < vN N r t to (170 + (6 * r' + i)) → r' < vN N r t to 0 ∧ i < vN N r t to 1 ∧ vN N r t to (86 + (6 * r' + i)) < vN N r t to 0)
    by_cases q : 6 * r' + i = 6 * r + t
    · have : vN N r t to (170 + (6 * r' + i)) = 0 := by rw [q]; exact un_s _ _ _
      rw [this]
      exact ⟨by omega, fun z => absurd z (by omega)⟩
    · rw [e 0 (by omega), e 1 (by omega), e (170 + (6 * r' + i)) (by omega), e (86 + (6 * r' + i)) (by omega)]
      exact x7 r' i hr' hi
  · show vN N r t to (254 + r') < 10
    rw [e _ (by omega)]
    exact x8 r' hr'
  · rw [e 271 (by omega)] at hw
    show vN N r t to (272 + w) < vN N r t to 0
    rw [e 0 (by omega), e _ (by omega)]
    exact x9 w hw
theorem vN_pl {N : Nat → Nat} {r t to r' t' : Nat} (hr' : r' < 14) (ht : t < 6) (ht' : t' < 6) : pl (vN N r t to) r' t' = if r' = r ∧ t' = t then to else pl N r' t' := by
  rw [← uN_pl ht ht']
  exact un_n (by omega)
theorem vN_k {N : Nat → Nat} {r t to k : Nat} (h : ¬ (2 ≤ k ∧ k < 86)) (h2 : ¬ (170 ≤ k ∧ k < 254)) (hr : r < 14) (ht : t < 6) : vN N r t to k = N k := (un_n (by omega)).trans (uN_n h hr ht)
theorem s32C {X : ai_X} {h : ai_H} {p r t to : Nat} {N : Nat → Nat} (hN : HN N) (C : CH h p N) (hr : r < N 0) (ht : t < N 1) (hto : to < N 0) : Mt X am_32 [.ref p, .int (nI r), .int (nI t), .int (nI to)] h (Qv (fun h1 => Fr (p + 1) (p + 4) h h1 ∧ CH h1 p (vN N r t to))) := by
  obtain ⟨r0, G, r1, r2, r3, r4, r5, gg1, gg2, gg3, gg4, gg5⟩ := id C
  have hn := hN.n
  have h6 := hN.t
  have F0 : Fr (p + 1) (p + 4) h h := Fr.rfl'
  have ek : ∀ k, ¬ (2 ≤ k ∧ k < 86) → ¬ (170 ≤ k ∧ k < 254) → vN N r t to k = N k := fun k a b => vN_k a b (by omega) (by omega)
  refine rk_aload_n rfl rfl ?_
  refine rk_get rfl (by assumption) rfl ?_
  refine rk_iload_n rfl rfl ?_
  refine rk_bipush (v := nI 6) rfl (by decide) ?_
  refine rk_imul rfl (pk_mul _ _) ?_
  refine rk_iload_n rfl rfl ?_
  refine rk_iadd rfl (nI_add _ _) ?_
  refine rk_iload_n rfl rfl ?_
  refine rk_iast rfl r1 (rfl) (by omega) (by decide) ?_
  refine hp_gen r1 (fun h1 g1 hk1 hl1 => ?_)
  replace r0 := (hk1 _ (by omega)).trans r0
  replace r2 := (hk1 _ (by omega)).trans r2
  replace r3 := (hk1 _ (by omega)).trans r3
  replace r4 := (hk1 _ (by omega)).trans r4
  replace r5 := (hk1 _ (by omega)).trans r5
  replace F0 := F0.tr (Fr.mk1 hk1 hl1 (by omega) (by omega))
  replace r1 := g1
  refine rk_aload_n rfl rfl ?_
  refine rk_get rfl (by assumption) rfl ?_
  refine rk_iload_n rfl rfl ?_
  refine rk_bipush (v := nI 6) rfl (by decide) ?_
  refine rk_imul rfl (pk_mul _ _) ?_
  refine rk_iload_n rfl rfl ?_
  refine rk_iadd rfl (nI_add _ _) ?_
  refine rk_iconst (v := (-1)) rfl (by decide) ?_
  refine rk_iast rfl r2 (rfl) (by omega) (by decide) ?_
  refine hp_gen r2 (fun h1 g1 hk1 hl1 => ?_)
  replace r0 := (hk1 _ (by omega)).trans r0
  replace r1 := (hk1 _ (by omega)).trans r1
  replace r3 := (hk1 _ (by omega)).trans r3
  replace r4 := (hk1 _ (by omega)).trans r4
  replace r5 := (hk1 _ (by omega)).trans r5
  replace F0 := F0.tr (Fr.mk1 hk1 hl1 (by omega) (by omega))
  replace r2 := g1
  refine rk_aload_n rfl rfl ?_
  refine rk_get rfl (by assumption) rfl ?_
  refine rk_iload_n rfl rfl ?_
  refine rk_bipush (v := nI 6) rfl (by decide) ?_
  refine rk_imul rfl (pk_mul _ _) ?_
  refine rk_iload_n rfl rfl ?_
  refine rk_iadd rfl (nI_add _ _) ?_
  refine rk_iconst (v := nI 0) rfl (by decide) ?_
  refine rk_iast rfl r3 (rfl) (by omega) (by decide) ?_
  refine hp_gen r3 (fun h1 g1 hk1 hl1 => ?_)
  replace r0 := (hk1 _ (by omega)).trans r0
  replace r1 := (hk1 _ (by omega)).trans r1
  replace r2 := (hk1 _ (by omega)).trans r2
  replace r4 := (hk1 _ (by omega)).trans r4
  replace r5 := (hk1 _ (by omega)).trans r5
  replace F0 := F0.tr (Fr.mk1 hk1 hl1 (by omega) (by omega))
  replace r3 := g1
  refine rk_return rfl rfl ⟨_, rfl, F0, ?_, fun j => if j = 0 then upd (G 0) (r * 6 + t) (nI to) else if j = 1 then upd (G 1) (r * 6 + t) (-1) else if j = 2 then upd (G 2) (r * 6 + t) (nI 0) else if j = 3 then G 3 else G 4, r1, r2, r3, r4, r5, fun r' i hr' hi => ?_, fun r' i hr' hi => ?_, fun r' i hr' hi z => ?_, fun r' hr' => ?_, fun w hw => ?_⟩
  · rw [r0, cHo, cHo, ek 0 (by omega) (by omega), ek 1 (by omega) (by omega), ek 280 (by omega) (by omega), ek 270 (by omega) (by omega), ek 271 (by omega) (by omega), ek 268 (by omega) (by omega), ek 269 (by omega) (by omega)]
  · rw [ek 0 (by omega) (by omega)] at hr'
    rw [ek 1 (by omega) (by omega)] at hi
    rw [vN_pl (by omega) (by omega) (by omega)]
    show upd (G 0) (r * 6 + t) (nI to) (r' * 6 + i) = _
    simp only [upd]
    by_cases q : r' = r ∧ i = t
    · rw [if_pos q, if_pos (by omega)]
    · rw [if_neg q, if_neg (by omega)]; exact gg1 r' i hr' hi
  · show upd (G 2) (r * 6 + t) (nI 0) (r' * 6 + i) = nI (vN N r t to (170 + (6 * r' + i)))
    simp only [upd]
    by_cases q : r' * 6 + i = r * 6 + t
    · rw [if_pos q, show 170 + (6 * r' + i) = 170 + (6 * r + t) by omega, vN, un_s]
    · rw [if_neg q, vN, un_n (by omega), uN, un_n (by omega)]; exact gg2 r' i hr' hi
  · have z' : 0 < vN N r t to (170 + (6 * r' + i)) := z
    show upd (G 1) (r * 6 + t) (-1) (r' * 6 + i) = nI (vN N r t to (86 + (6 * r' + i)))
    simp only [upd]
    by_cases q : r' * 6 + i = r * 6 + t
    · rw [show 170 + (6 * r' + i) = 170 + (6 * r + t) by omega, vN, un_s] at z'
      exact absurd z' (by omega)
    · rw [vN, un_n (by omega), uN, un_n (by omega)] at z'
      rw [if_neg q, vN, un_n (by omega), uN, un_n (by omega)]
      exact gg3 r' i hr' hi z'
  · show G 3 r' = nI (vN N r t to (254 + r'))
    rw [ek _ (by omega) (by omega)]
    exact gg4 r' hr'
  · rw [ek 271 (by omega) (by omega)] at hw
    show G 4 w = nI (vN N r t to (272 + w))
    rw [ek _ (by omega) (by omega)]
    exact gg5 w hw
/-- the draft: like the house, but for one way -/
def DFT (h : ai_H) (N : Nat → Nat) : Prop := ∃ Nd, HN Nd ∧ CH h 9 Nd ∧ SW N Nd
theorem DFT.at {h : ai_H} {N : Nat → Nat} (D : DFT h N) : ∃ F G, HouseAt h 9 F G := by
  obtain ⟨Nd, -, C, -⟩ := D
  exact C.at
theorem SW.to {N Nd : Nat → Nat} {r t v to : Nat} (hN : HN N) (hr : r < N 0) (ht : t < N 1) (S : SW (uN N r t v) Nd) : SW (uN N r t to) (vN Nd r t to) := by
  have hn := hN.n
  have h6 := hN.t
  obtain ⟨a, b, c, d⟩ := S
  have ek : ∀ v k, ¬ (2 ≤ k ∧ k < 86) → uN N r t v k = N k := fun v k hk => uN_n hk (by omega) (by omega)
  have ev : ∀ k, ¬ (2 ≤ k ∧ k < 86) → ¬ (170 ≤ k ∧ k < 254) → vN Nd r t to k = Nd k := fun k hk hk2 => vN_k hk hk2 (by omega) (by omega)
  rw [ek v 0 (by omega)] at a
  rw [ek v 1 (by omega)] at b
  rw [ek v 270 (by omega)] at c
  refine ⟨?_, ?_, ?_, fun r' t' hr' ht' => ?_⟩
  · rw [ev 0 (by omega) (by omega), ek _ 0 (by omega)]; exact a
  · rw [ev 1 (by omega) (by omega), ek _ 1 (by omega)]; exact b
  · rw [ev 270 (by omega) (by omega), ek _ 270 (by omega)]; exact c
  · rw [ek _ 0 (by omega)] at hr'
    rw [ek _ 1 (by omega)] at ht'
    rw [vN_pl (by omega) (by omega) (by omega), uN_pl (by omega) (by omega)]
    by_cases q : r' = r ∧ t' = t
    · rw [if_pos q, if_pos q]
    · rw [if_neg q, if_neg q]
      have := d r' t' (by rw [ek v 0 (by omega)]; exact hr') (by rw [ek v 1 (by omega)]; exact ht')
      rw [uN_pl (by omega) (by omega), if_neg q] at this
      exact this
theorem uN_self {N : Nat → Nat} {r t : Nat} : uN N r t (pl N r t) = N := by
  funext k
  by_cases q : k = 2 + (6 * r + t)
  · subst q; exact un_s _ _ _
  · exact un_n q
def FrD (h h1 : ai_H) : Prop := h1.length = h.length ∧ ∀ q : Nat, ¬ (9 ≤ q ∧ q < 15) → q ≠ 29 → h1[q]? = h[q]?
theorem FrD.rfl' {h : ai_H} : FrD h h := ⟨rfl, fun _ _ _ => rfl⟩
theorem FrD.tr {h h1 h2 : ai_H} (a : FrD h h1) (b : FrD h1 h2) : FrD h h2 := ⟨b.1.trans a.1, fun q x y => (b.2 q x y).trans (a.2 q x y)⟩
theorem FrD.f {h h1 : ai_H} {i j : Nat} (b : Fr i j h h1) (hi : (9 ≤ i ∧ j ≤ 15) ∨ (29 ≤ i ∧ j ≤ 30)) : FrD h h1 := ⟨b.1, fun q x y => b.2 q (by omega)⟩
theorem l62 {X : ai_X} {h : ai_H} {N : Nat → Nat} {r t : Nat} (hN : HN N) (d27 : h[27]? = some cPa) (hr : r < N 0) (ht : t < N 1) : ∀ (d : Nat) (to v : Nat) (Nd : Nat → Nat) (g : ai_H), N 0 < to + d → (to ≤ N 0) → (v < N 0) → (FrD h g) → (HN Nd) → (CH g 9 Nd) → (SW (uN N r t v) Nd) → (ShI g 29 14) → (∀ to', to' < to → ¬ to' = pl N r t → ¬ hm1 (uN N r t to') (-1) = true) → Rk X am_62 7 [some (.ref 27), some (.ref 9), some (.int (nI r)), some (.int (nI t)), some (.int (nI (pl N r t))), some (.int (nI to))] [] g (Qi (fun w h1 => FrD h h1 ∧ ShI h1 29 14 ∧ (∃ F G, HouseAt h1 9 F G) ∧ ((w = -1 ∧ (∀ to, to < N 0 → ¬ to = pl N r t → ¬ hm1 (uN N r t to) (-1) = true) ∧ DFT h1 N) ∨ ∃ to, w = nI to ∧ to < N 0 ∧ ¬ to = pl N r t ∧ hm1 (uN N r t to) (-1) = true ∧ ∀ to', to' < to → ¬ to' = pl N r t → ¬ hm1 (uN N r t to') (-1) = true))) := by
  intro d
  induction d with
  | zero => intro to v Nd g hd hto hv F hNd C S S29 D; exfalso; omega
  | succ d ih =>
    intro to v Nd g hd hto hv F hNd C S S29 D
    have e0 := C.1
    have e27 := (F.2 27 (by omega) (by omega)).trans d27
    have hn := hN.n
    have h6 := hN.t
    have hU : ∀ x, x < N 0 → HN (uN N r t x) := fun x hx => uN_HN hN hr ht hx
    have n0 : Nd 0 = N 0 := S.1.trans (uN_n (by omega) (by omega) (by omega))
    have n1 : Nd 1 = N 1 := S.2.1.trans (uN_n (by omega) (by omega) (by omega))
    have hpr := hN.xpl hr ht
    have hN2 : to < N 0 → HN (vN Nd r t to) := fun y => vN_HN hNd (by omega) (by omega) (by omega)
    have S2 : SW (uN N r t to) (vN Nd r t to) := S.to hN hr ht
    have ho2 : vN Nd r t to 0 = Nd 0 := vN_k (by omega) (by omega) (by omega) (by omega)
    refine rk_iload rfl rfl ?_
    refine rk_aload_n rfl rfl ?_
    refine rk_get rfl (by assumption) rfl ?_
    rw [n0]
    refine rk_icmp_ge rfl rfl (fun hc10 => ?_) (fun hc10 => ?_)
    · replace hc10 := (nI_leI (by omega) (by omega)).mp hc10
      refine rk_aload_n rfl rfl ?_
      refine rk_iload_n rfl rfl ?_
      refine rk_iload_n rfl rfl ?_
      refine rk_iload rfl rfl ?_
      refine rk_cv3v rfl rfl (by assumption) rfl rfl (Nat.le_of_ble_eq_true rfl) (Nat.le_of_ble_eq_true rfl) ((s32C hNd C (by omega) (by omega) (show pl N r t < Nd 0 by omega)).skv) (fun h1 hF => ?_)
      obtain ⟨⟨F1, C1⟩, k1⟩ := hF
      have F2 : FrD h h1 := F.tr (FrD.f F1 (Or.inl ⟨by omega, by omega⟩))
      have S3 := S29.sk k1
      have SX : SW N (vN Nd r t (pl N r t)) := by
        have := S.to (to := pl N r t) hN hr ht
        rwa [uN_self] at this
      refine rk_iconst (v := (-1)) rfl (by decide) ?_
      exact rk_ireturn rfl rfl ⟨_, _, rfl, F2, S3, C1.at, Or.inl ⟨rfl, fun to' y1 y2 => D to' (by omega) y2, _, vN_HN hNd (by omega) (by omega) (by omega), C1, SX⟩⟩
    · replace hc10 := mt (nI_leI (by omega) (by omega)).mpr hc10
      refine rk_iload rfl rfl ?_
      refine rk_iload rfl rfl ?_
      refine rk_icmp_eq rfl rfl (fun hc13 => ?_) (fun hc13 => ?_)
      · replace hc13 := (nI_eq (by omega) (by omega)).mp hc13
        refine rk_iinc rfl rfl (n_inc _) rfl ?_
        refine rk_goto rfl rfl ?_
        first
          | (refine ih (to + 1) v Nd g (by omega) (by omega) hv F hNd C S S29 (fun to' y1 y2 => ?_)
             by_cases q : to' = to
             · subst q; exact absurd hc13 y2
             · exact D to' (by omega) y2)
          | (refine ih (to + 1) to _ _ (by omega) (by omega) (by omega) F5 hN2 C5 S2 S5 (fun to' y1 y2 => ?_)
             by_cases q : to' = to
             · subst q; exact hno
             · exact D to' (by omega) y2)
      · replace hc13 := mt (nI_eq (by omega) (by omega)).mpr hc13
        refine rk_aload_n rfl rfl ?_
        refine rk_iload_n rfl rfl ?_
        refine rk_iload_n rfl rfl ?_
        refine rk_iload rfl rfl ?_
        refine rk_cv3v rfl rfl (by assumption) rfl rfl (Nat.le_of_ble_eq_true rfl) (Nat.le_of_ble_eq_true rfl) ((s32C hNd C (by omega) (by omega) (show to < Nd 0 by omega)).skv) (fun h1 hF => ?_)
        obtain ⟨⟨F1, C1⟩, k1⟩ := hF
        replace hN2 := hN2 (by omega)
        have F2 : FrD h h1 := F.tr (FrD.f F1 (Or.inl ⟨by omega, by omega⟩))
        have S3 := S29.sk k1
        replace e27 := (F2.2 27 (by omega) (by omega)).trans d27
        replace e0 := C1.1
        refine rk_aload_n rfl rfl ?_
        refine rk_aload_n rfl rfl ?_
        refine rk_iconst (v := (-1)) rfl (by decide) ?_
        refine rk_cv2i rfl rfl (by assumption) rfl rfl (Nat.le_of_ble_eq_true rfl) (Nat.le_of_ble_eq_true rfl) ((s60 (bt := -1) hN2 C1 e27 (by omega) (by omega) S3).ski) (fun w h1 hF => ?_)
        obtain ⟨⟨rfl, F4⟩, k4⟩ := hF
        have F5 := F2.tr (FrD.f F4 (Or.inr ⟨by omega, by omega⟩))
        have C5 := C1.fr2 F4 (by omega)
        have S5 := S3.sk k4
        replace e0 := C5.1
        refine rk_if_eq rfl rfl (fun hc23 => ?_) (fun hc23 => ?_)
        · replace hc23 := (bI_0).mp hc23
          have hno : ¬ hm1 (uN N r t to) (-1) = true := by rw [← S2.hm (hU to (by omega)) hN2]; exact hc23
          refine rk_iinc rfl rfl (n_inc _) rfl ?_
          refine rk_goto rfl rfl ?_
          first
            | (refine ih (to + 1) v Nd g (by omega) (by omega) hv F hNd C S S29 (fun to' y1 y2 => ?_)
               by_cases q : to' = to
               · subst q; exact absurd hc13 y2
               · exact D to' (by omega) y2)
            | (refine ih (to + 1) to _ _ (by omega) (by omega) (by omega) F5 hN2 C5 S2 S5 (fun to' y1 y2 => ?_)
               by_cases q : to' = to
               · subst q; exact hno
               · exact D to' (by omega) y2)
        · replace hc23 := Decidable.not_not.mp (mt bI_0.mpr hc23)
          have hye : hm1 (uN N r t to) (-1) = true := by rw [← S2.hm (hU to (by omega)) hN2]; exact hc23
          refine rk_iload rfl rfl ?_
          exact rk_ireturn rfl rfl ⟨_, _, rfl, F5, S5, C5.at, Or.inr ⟨to, rfl, by omega, hc13, hye, D⟩⟩
theorem s62 {X : ai_X} {h : ai_H} {N : Nat → Nat} {r t : Nat} (hN : HN N) (d27 : h[27]? = some cPa) (hr : r < N 0) (ht : t < N 1) (D : DFT h N) (S29 : ShI h 29 14) : Mt X am_62 [.ref 27, .ref 9, .int (nI r), .int (nI t)] h (Qi (fun w h1 => FrD h h1 ∧ ShI h1 29 14 ∧ (∃ F G, HouseAt h1 9 F G) ∧ ((w = -1 ∧ (∀ to, to < N 0 → ¬ to = pl N r t → ¬ hm1 (uN N r t to) (-1) = true) ∧ DFT h1 N) ∨ ∃ to, w = nI to ∧ to < N 0 ∧ ¬ to = pl N r t ∧ hm1 (uN N r t to) (-1) = true ∧ ∀ to', to' < to → ¬ to' = pl N r t → ¬ hm1 (uN N r t to') (-1) = true))) := by
  obtain ⟨Nd, hNd, C, S⟩ := D
  have hn := hN.n
  have h6 := hN.t
  obtain ⟨a, b, c, d⟩ := id S
  have e0 := C.1
  refine rk_aload_n rfl rfl ?_
  refine rk_iload_n rfl rfl ?_
  refine rk_iload_n rfl rfl ?_
  refine rk_cv2e rfl rfl (by assumption) rfl rfl (Nat.le_of_ble_eq_true rfl) (Nat.le_of_ble_eq_true rfl) (s27N C hNd (by omega) (by omega)) ?_
  rw [d r t hr ht]
  refine rk_istore rfl (Nat.le_of_ble_eq_true rfl) rfl ?_
  refine rk_iconst (v := nI 0) rfl (by decide) ?_
  refine rk_istore rfl (Nat.le_of_ble_eq_true rfl) rfl ?_
  exact l62 hN d27 hr ht (N 0 + 1) 0 (pl N r t) Nd h (by omega) (Nat.zero_le _) (hN.xpl hr ht) FrD.rfl' hNd C (by rw [uN_self]; exact S) S29 (fun to' y => absurd y (by omega))
def mq (N : Nat → Nat) (e : Nat) : Bool := decide ((e / 84 < N 0 ∧ e / 14 % 6 < N 1) ∧ e % 14 < N 0 ∧ ¬ e % 14 = pl N (e / 84) (e / 14 % 6) ∧ hm1 (uN N (e / 84) (e / 14 % 6) (e % 14)) (-1) = true)
def mes (N : Nat → Nat) : Nat := ffi (mq N) 1176 0
def mans (N : Nat → Nat) (c : Nat) : Int32 := if mes N = 1176 then -1 else nI (if c = 0 then mes N / 84 else if c = 1 then mes N / 14 % 6 else mes N % 14)
theorem mq_at {N : Nat → Nat} {r t to : Nat} (hr : r < N 0) (ht : t < N 1) (h6 : t < 6) (hto : to < 14) : mq N ((r * 6 + t) * 14 + to) = true ↔ to < N 0 ∧ ¬ to = pl N r t ∧ hm1 (uN N r t to) (-1) = true := by
  unfold mq
  rw [decide_eq_true_iff]
  have e1 : ((r * 6 + t) * 14 + to) / 84 = r := by omega
  have e2 : ((r * 6 + t) * 14 + to) / 14 % 6 = t := by omega
  have e3 : ((r * 6 + t) * 14 + to) % 14 = to := by omega
  rw [e1, e2, e3]
  exact ⟨fun h => h.2, fun h => ⟨⟨hr, ht⟩, h⟩⟩
theorem mq_b {N : Nat → Nat} {e : Nat} (h : mq N e = true) : e / 84 < N 0 ∧ e / 14 % 6 < N 1 ∧ e % 14 < N 0 := by
  have := of_decide_eq_true h
  exact ⟨this.1.1, this.1.2, this.2.1⟩
theorem mans_no {N : Nat → Nat} {c : Nat} (hn : N 0 ≤ 14) (h : ∀ e, e < N 0 * 84 → ¬ mq N e = true) : mans N c = -1 := by
  have : mes N = 0 + 1176 := ffi_no _ _ (fun i _ hi z => h i (by have := mq_b z; omega) z)
  rw [mans, if_pos (by omega)]
theorem mans_at {N : Nat → Nat} {c e : Nat} (hn : N 0 ≤ 14) (he : mq N e = true) (h : ∀ e', e' < e → ¬ mq N e' = true) : mans N c = nI (if c = 0 then e / 84 else if c = 1 then e / 14 % 6 else e % 14) := by
  have hb := mq_b he
  have : mes N = e := ffi_at _ _ _ (Nat.zero_le _) (by omega) he (fun i _ hi => h i hi)
  rw [mans, if_neg (by omega), this]
/-- up to this way there is none -/
abbrev NOM (N : Nat → Nat) (k : Nat) : Prop := ∀ e, e < k → ¬ mq N e = true
theorem NOM.tone {N : Nat → Nat} {r t : Nat} (hr : r < N 0) (ht : t < N 1) (hn : N 0 ≤ 14) (h6 : N 1 ≤ 6) (D : NOM N ((r * 6 + t) * 14)) (h : ∀ to, to < N 0 → ¬ to = pl N r t → ¬ hm1 (uN N r t to) (-1) = true) : NOM N ((r * 6 + (t + 1)) * 14) := fun e he z => by
  have hb := mq_b z
  by_cases q : e < (r * 6 + t) * 14
  · exact D e q z
  · have e1 : e = (r * 6 + t) * 14 + e % 14 := by omega
    rw [e1] at z
    have := (mq_at hr ht (by omega) (by omega)).mp z
    exact h _ this.1 this.2.1 this.2.2
theorem NOM.room {N : Nat → Nat} {r : Nat} (h6 : N 1 ≤ 6) (D : NOM N ((r * 6 + N 1) * 14)) : NOM N (((r + 1) * 6 + 0) * 14) := fun e he z => by
  have hb := mq_b z
  by_cases q : e < (r * 6 + N 1) * 14
  · exact D e q z
  · omega
theorem l152t {X : ai_X} {h : ai_H} {tp : Int32} {N : Nat → Nat} (d0 : h[0]? = some (cOne tp)) (hN : HN N) (C : CH h 3 N) (d27 : h[27]? = some cPa) {c : Nat} (hc : c < 3) {r : Nat} (hr : r < N 0) (z : ∀ g c4, FrD h g → ShI g 29 14 → DFT g N → NOM N ((r * 6 + N 1) * 14) → Rk X am_152 63 [some (.ref 0), some (.int (nI c)), some (.int (nI r)), some (.int (nI (N 1))), c4] [] g (Qi (fun w h1 => w = mans N c ∧ FrD h h1 ∧ ∃ F G, HouseAt h1 9 F G))) : ∀ (d : Nat) (t : Nat) (g : ai_H) (c4 : Option Value), N 1 < t + d → (t ≤ N 1) → (FrD h g) → (ShI g 29 14) → (DFT g N) → (NOM N ((r * 6 + t) * 14)) → Rk X am_152 34 [some (.ref 0), some (.int (nI c)), some (.int (nI r)), some (.int (nI t)), c4] [] g (Qi (fun w h1 => w = mans N c ∧ FrD h h1 ∧ ∃ F G, HouseAt h1 9 F G)) := by
  intro d
  induction d with
  | zero => intro t g c4 hd ht F S29 T D; exfalso; omega
  | succ d ih =>
    intro t g c4 hd ht F S29 T D
    have C2 : CH g 3 N := C.fr (fun q _ _ => F.2 q (by omega) (by omega))
    have e3 := C2.1
    have e0 := (F.2 0 (by omega) (by omega)).trans d0
    have e27 := (F.2 27 (by omega) (by omega)).trans d27
    have hn := hN.n
    have h6 := hN.t
    refine rk_iload_n rfl rfl ?_
    refine rk_aload_n rfl rfl ?_
    refine rk_get rfl (by assumption) rfl ?_
    refine rk_get rfl (by assumption) rfl ?_
    refine rk_icmp_ge rfl rfl (fun hc38 => ?_) (fun hc38 => ?_)
    · replace hc38 := (nI_leI (by omega) (by omega)).mp hc38
      have ht2 : t = N 1 := by omega
      subst ht2
      exact z g _ F S29 T D
    · replace hc38 := mt (nI_leI (by omega) (by omega)).mpr hc38
      refine rk_aload_n rfl rfl ?_
      refine rk_get rfl (by assumption) rfl ?_
      refine rk_aload_n rfl rfl ?_
      refine rk_get rfl (by assumption) rfl ?_
      refine rk_iload_n rfl rfl ?_
      refine rk_iload_n rfl rfl ?_
      refine rk_cv3i rfl rfl (by assumption) rfl rfl (Nat.le_of_ble_eq_true rfl) (Nat.le_of_ble_eq_true rfl) (s62 hN e27 hr (by omega) T S29) (fun w h1 hF => ?_)
      obtain ⟨F1, S1, A1, z1⟩ := hF
      rcases z1 with ⟨rfl, z2, z3⟩ | ⟨to, rfl, z2, z3, z4, z5⟩
      · refine rk_istore rfl (Nat.le_of_ble_eq_true rfl) rfl ?_
        refine rk_iload rfl rfl ?_
        refine rk_iconst (v := (-1)) rfl (by decide) ?_
        refine rk_icmp_eq rfl rfl (fun hc49 => ?_) (fun hc49 => ?_)
        · refine rk_iinc rfl rfl (n_inc _) rfl ?_
          refine rk_goto rfl rfl ?_
          exact ih (t + 1) _ _ (by omega) (by omega) (F.tr F1) S1 z3 (NOM.tone hr (by omega) hn h6 D z2)
        · exact absurd rfl hc49
      have hmq : mq N ((r * 6 + t) * 14 + to) = true := (mq_at (by omega) (by omega) (by omega) (by omega)).mpr ⟨z2, z3, z4⟩
      have hfst : ∀ e', e' < (r * 6 + t) * 14 + to → ¬ mq N e' = true := fun e' he z => by
        by_cases q : e' < (r * 6 + t) * 14
        · exact D e' q z
        · have e1 : e' = (r * 6 + t) * 14 + e' % 14 := by omega
          rw [e1] at z
          have := (mq_at (by omega) (by omega) (by omega) (by omega)).mp z
          exact z5 _ (by omega) this.2.1 this.2.2
      have hans := mans_at (c := c) hn hmq hfst
      rw [show ((r * 6 + t) * 14 + to) / 84 = r by omega, show ((r * 6 + t) * 14 + to) / 14 % 6 = t by omega, show ((r * 6 + t) * 14 + to) % 14 = to by omega] at hans
      refine rk_istore rfl (Nat.le_of_ble_eq_true rfl) rfl ?_
      refine rk_iload rfl rfl ?_
      refine rk_iconst (v := (-1)) rfl (by decide) ?_
      refine rk_icmp_eq rfl rfl (fun hc49 => ?_) (fun hc49 => ?_)
      · exact absurd hc49 (nm_eq (by omega))
      · refine rk_iload_n rfl rfl ?_
        refine rk_if_ne rfl rfl (fun hc51 => ?_) (fun hc51 => ?_)
        · replace hc51 := mt (n0_eq (by omega)).mpr hc51
          refine rk_iload_n rfl rfl ?_
          refine rk_iconst (v := nI 1) rfl (by decide) ?_
          refine rk_icmp_ne rfl rfl (fun hc56 => ?_) (fun hc56 => ?_)
          · replace hc56 := mt (nI_eq (by omega) (by omega)).mpr hc56
            refine rk_iload rfl rfl ?_
            first
              | exact rk_ireturn rfl rfl ⟨_, _, rfl, by rw [hans, if_pos (by omega)], F.tr F1, A1⟩
              | exact rk_ireturn rfl rfl ⟨_, _, rfl, by rw [hans, if_neg (by omega), if_pos (by omega)], F.tr F1, A1⟩
              | exact rk_ireturn rfl rfl ⟨_, _, rfl, by rw [hans, if_neg (by omega), if_neg (by omega)], F.tr F1, A1⟩
          · replace hc56 := Decidable.not_not.mp hc56
            replace hc56 := (nI_eq (by omega) (by omega)).mp hc56
            refine rk_iload_n rfl rfl ?_
            refine rk_goto rfl rfl ?_
            first
              | exact rk_ireturn rfl rfl ⟨_, _, rfl, by rw [hans, if_pos (by omega)], F.tr F1, A1⟩
              | exact rk_ireturn rfl rfl ⟨_, _, rfl, by rw [hans, if_neg (by omega), if_pos (by omega)], F.tr F1, A1⟩
              | exact rk_ireturn rfl rfl ⟨_, _, rfl, by rw [hans, if_neg (by omega), if_neg (by omega)], F.tr F1, A1⟩
        · replace hc51 := Decidable.not_not.mp hc51
          replace hc51 := (n0_eq (by omega)).mp hc51
          refine rk_iload_n rfl rfl ?_
          refine rk_goto rfl rfl ?_
          first
            | exact rk_ireturn rfl rfl ⟨_, _, rfl, by rw [hans, if_pos (by omega)], F.tr F1, A1⟩
            | exact rk_ireturn rfl rfl ⟨_, _, rfl, by rw [hans, if_neg (by omega), if_pos (by omega)], F.tr F1, A1⟩
            | exact rk_ireturn rfl rfl ⟨_, _, rfl, by rw [hans, if_neg (by omega), if_neg (by omega)], F.tr F1, A1⟩
theorem l152 {X : ai_X} {h : ai_H} {tp : Int32} {N : Nat → Nat} (d0 : h[0]? = some (cOne tp)) (hN : HN N) (C : CH h 3 N) (d27 : h[27]? = some cPa) {c : Nat} (hc : c < 3) : ∀ (d : Nat) (r : Nat) (g : ai_H) (c3 c4 : Option Value), N 0 < r + d → (r ≤ N 0) → (FrD h g) → (ShI g 29 14) → (DFT g N) → (NOM N ((r * 6 + 0) * 14)) → Rk X am_152 27 [some (.ref 0), some (.int (nI c)), some (.int (nI r)), c3, c4] [] g (Qi (fun w h1 => w = mans N c ∧ FrD h h1 ∧ ∃ F G, HouseAt h1 9 F G)) := by
  intro d
  induction d with
  | zero => intro r g c3 c4 hd hr F S29 T D; exfalso; omega
  | succ d ih =>
    intro r g c3 c4 hd hr F S29 T D
    have C2 : CH g 3 N := C.fr (fun q _ _ => F.2 q (by omega) (by omega))
    have e3 := C2.1
    have e0 := (F.2 0 (by omega) (by omega)).trans d0
    have e27 := (F.2 27 (by omega) (by omega)).trans d27
    have hn := hN.n
    have h6 := hN.t
    refine rk_iload_n rfl rfl ?_
    refine rk_aload_n rfl rfl ?_
    refine rk_get rfl (by assumption) rfl ?_
    refine rk_get rfl (by assumption) rfl ?_
    refine rk_icmp_ge rfl rfl (fun hc31 => ?_) (fun hc31 => ?_)
    · replace hc31 := (nI_leI (by omega) (by omega)).mp hc31
      refine rk_iconst (v := (-1)) rfl (by decide) ?_
      exact rk_ireturn rfl rfl ⟨_, _, rfl, (mans_no hn (fun e he => D e (by omega))).symm, F, T.at⟩
    · replace hc31 := mt (nI_leI (by omega) (by omega)).mpr hc31
      refine rk_iconst (v := nI 0) rfl (by decide) ?_
      refine rk_istore_n rfl (Nat.le_of_ble_eq_true rfl) rfl ?_
      refine l152t d0 hN C d27 hc (r := r) (by omega) (fun g2 c4 F2 S2 T2 D2 => ?_) (N 1 + 1) 0 g _ (by omega) (Nat.zero_le _) F S29 T D
      refine rk_iinc rfl rfl (n_inc _) rfl ?_
      refine rk_goto rfl rfl ?_
      exact ih (r + 1) g2 _ _ (by omega) (by omega) F2 S2 T2 (NOM.room h6 D2)
theorem c152_v {X : ai_X} {h : ai_H} {tp : Int32} {N : Nat → Nat} (d0 : h[0]? = some (cOne tp)) (hN : HN N) (C : CH h 3 N) (d27 : h[27]? = some cPa) {c : Nat} (hc : c < 3) (S29 : ShI h 29 14) (R9 : ∃ F G, HouseAt h 9 F G) (h0 : ¬ N 0 = 0) (hh : ¬ hm1 N (-1) = true) : Mt X am_152 [.ref 0, .int (nI c)] h (Qi (fun w h1 => w = mans N c ∧ FrD h h1 ∧ ∃ F G, HouseAt h1 9 F G)) := by
  have e3 := C.1
  have hn := hN.n
  have h6 := hN.t
  refine rk_iload_n rfl rfl ?_
  refine rk_if_lt rfl rfl (fun hc1 => ?_) (fun hc1 => ?_)
  · replace hc1 := (n0_lt (by omega)).mp hc1
    exact hc1.elim
  · replace hc1 := mt (n0_lt (by omega)).mpr hc1
    refine rk_iload_n rfl rfl ?_
    refine rk_iconst (v := nI 2) rfl (by decide) ?_
    refine rk_icmp_le rfl rfl (fun hc4 => ?_) (fun hc4 => ?_)
    · replace hc4 := (nI_leI (by omega) (by omega)).mp hc4
      refine rk_aload_n rfl rfl ?_
      refine rk_get rfl (by assumption) rfl ?_
      refine rk_get rfl (by assumption) rfl ?_
      refine rk_if_eq rfl rfl (fun hc10 => ?_) (fun hc10 => ?_)
      · replace hc10 := (n0_eq (by omega)).mp hc10
        exact absurd hc10 h0
      · replace hc10 := mt (n0_eq (by omega)).mpr hc10
        refine rk_aload_n rfl rfl ?_
        refine rk_get rfl (by assumption) rfl ?_
        refine rk_aload_n rfl rfl ?_
        refine rk_get rfl (by assumption) rfl ?_
        refine rk_iconst (v := (-1)) rfl (by decide) ?_
        refine rk_cv2i rfl rfl (by assumption) rfl rfl (Nat.le_of_ble_eq_true rfl) (Nat.le_of_ble_eq_true rfl) ((s60 (bt := -1) hN C d27 (by omega) h0 S29).ski) (fun w h1 hF => ?_)
        obtain ⟨⟨rfl, F1⟩, k1⟩ := hF
        have S1 := S29.sk k1
        have C1 := C.fr2 F1 (by omega)
        have R9b : ∃ F G, HouseAt h1 9 F G := by
          obtain ⟨F, G, z⟩ := R9
          exact ⟨F, G, z.fr (fun q _ _ => F1.2 q (by omega))⟩
        have e0 := (F1.2 0 (by omega)).trans d0
        replace e3 := C1.1
        have e9 := R9b.choose_spec.choose_spec.1
        refine rk_if_eq rfl rfl (fun hc17 => ?_) (fun hc17 => ?_)
        · replace hc17 := (bI_0).mp hc17
          refine rk_aload_n rfl rfl ?_
          refine rk_get rfl (by assumption) rfl ?_
          refine rk_aload_n rfl rfl ?_
          refine rk_get rfl (by assumption) rfl ?_
          refine rk_cv1v rfl rfl (by assumption) rfl rfl (Nat.le_of_ble_eq_true rfl) (Nat.le_of_ble_eq_true rfl) ((s22C hN R9b C1 (by omega)).skv) (fun h1 hF => ?_)
          obtain ⟨⟨F2, C9⟩, k2⟩ := hF
          have S2 := S1.sk k2
          refine rk_iconst (v := nI 0) rfl (by decide) ?_
          refine rk_istore_n rfl (Nat.le_of_ble_eq_true rfl) rfl ?_
          exact l152 d0 hN C d27 hc (N 0 + 1) 0 _ _ _ (by omega) (Nat.zero_le _) ((FrD.f F1 (Or.inr ⟨by omega, by omega⟩)).tr (FrD.f F2 (Or.inl ⟨by omega, by omega⟩))) S2 ⟨N, hN, C9, rfl, rfl, rfl, fun _ _ _ _ => rfl⟩ (fun e he => absurd he (by omega))
        · replace hc17 := Decidable.not_not.mp (mt bI_0.mpr hc17)
          exact absurd hc17 hh
    · replace hc4 := mt (nI_leI (by omega) (by omega)).mpr hc4
      omega
theorem c152_h {X : ai_X} {h : ai_H} {tp : Int32} {N : Nat → Nat} (d0 : h[0]? = some (cOne tp)) (hN : HN N) (C : CH h 3 N) (d27 : h[27]? = some cPa) {c : Nat} (hc : c < 3) (S29 : ShI h 29 14) (h0 : ¬ N 0 = 0) (hh : hm1 N (-1) = true) : Mt X am_152 [.ref 0, .int (nI c)] h (Qi (fun w h1 => w = -5 ∧ Fr 29 30 h h1)) := by
  have e3 := C.1
  have hn := hN.n
  have h6 := hN.t
  refine rk_iload_n rfl rfl ?_
  refine rk_if_lt rfl rfl (fun hc1 => ?_) (fun hc1 => ?_)
  · replace hc1 := (n0_lt (by omega)).mp hc1
    exact hc1.elim
  · replace hc1 := mt (n0_lt (by omega)).mpr hc1
    refine rk_iload_n rfl rfl ?_
    refine rk_iconst (v := nI 2) rfl (by decide) ?_
    refine rk_icmp_le rfl rfl (fun hc4 => ?_) (fun hc4 => ?_)
    · replace hc4 := (nI_leI (by omega) (by omega)).mp hc4
      refine rk_aload_n rfl rfl ?_
      refine rk_get rfl (by assumption) rfl ?_
      refine rk_get rfl (by assumption) rfl ?_
      refine rk_if_eq rfl rfl (fun hc10 => ?_) (fun hc10 => ?_)
      · replace hc10 := (n0_eq (by omega)).mp hc10
        exact absurd hc10 h0
      · replace hc10 := mt (n0_eq (by omega)).mpr hc10
        refine rk_aload_n rfl rfl ?_
        refine rk_get rfl (by assumption) rfl ?_
        refine rk_aload_n rfl rfl ?_
        refine rk_get rfl (by assumption) rfl ?_
        refine rk_iconst (v := (-1)) rfl (by decide) ?_
        refine rk_cv2i rfl rfl (by assumption) rfl rfl (Nat.le_of_ble_eq_true rfl) (Nat.le_of_ble_eq_true rfl) (s60 (bt := -1) hN C d27 (by omega) h0 S29) (fun w h1 hF => ?_)
        obtain ⟨rfl, F1⟩ := hF
        refine rk_if_eq rfl rfl (fun hc17 => ?_) (fun hc17 => ?_)
        · replace hc17 := (bI_0).mp hc17
          exact absurd hh hc17
        · replace hc17 := Decidable.not_not.mp (mt bI_0.mpr hc17)
          refine rk_bipush (v := (-5)) rfl (by decide) ?_
          exact rk_ireturn rfl rfl ⟨_, _, rfl, rfl, F1⟩
    · replace hc4 := mt (nI_leI (by omega) (by omega)).mpr hc4
      omega
theorem c152_0 {X : ai_X} {h : ai_H} {tp : Int32} {N : Nat → Nat} (d0 : h[0]? = some (cOne tp)) (hN : HN N) (C : CH h 3 N) {c : Nat} (hc : c < 3) (h0 : N 0 = 0) : Mt X am_152 [.ref 0, .int (nI c)] h (Qe (-5) h) := by
  have e3 := C.1
  have hn := hN.n
  refine rk_iload_n rfl rfl ?_
  refine rk_if_lt rfl rfl (fun hc1 => ?_) (fun hc1 => ?_)
  · replace hc1 := (n0_lt (by omega)).mp hc1
    exact hc1.elim
  · replace hc1 := mt (n0_lt (by omega)).mpr hc1
    refine rk_iload_n rfl rfl ?_
    refine rk_iconst (v := nI 2) rfl (by decide) ?_
    refine rk_icmp_le rfl rfl (fun hc4 => ?_) (fun hc4 => ?_)
    · replace hc4 := (nI_leI (by omega) (by omega)).mp hc4
      refine rk_aload_n rfl rfl ?_
      refine rk_get rfl (by assumption) rfl ?_
      refine rk_get rfl (by assumption) rfl ?_
      refine rk_if_eq rfl rfl (fun hc10 => ?_) (fun hc10 => ?_)
      · replace hc10 := (n0_eq (by omega)).mp hc10
        refine rk_bipush (v := (-5)) rfl (by decide) ?_
        exact rk_ireturn rfl rfl Qe_mk
      · replace hc10 := mt (n0_eq (by omega)).mpr hc10
        exact absurd h0 hc10
    · replace hc4 := mt (nI_leI (by omega) (by omega)).mpr hc4
      omega
theorem c152_x {X : ai_X} {h : ai_H} {tp : Int32} {N : Nat → Nat} (d0 : h[0]? = some (cOne tp)) (hN : HN N) (C : CH h 3 N) {a : Int32} (ha : ¬ (¬ a < 0 ∧ ¬ nI 2 < a)) : Mt X am_152 [.ref 0, .int a] h (Qe (-2) h) := by
  have e3 := C.1
  refine rk_iload_n rfl rfl ?_
  refine rk_if_lt rfl rfl (fun hc1 => ?_) (fun hc1 => ?_)
  · refine rk_bipush (v := (-2)) rfl (by decide) ?_
    exact rk_ireturn rfl rfl Qe_mk
  · refine rk_iload_n rfl rfl ?_
    refine rk_iconst (v := nI 2) rfl (by decide) ?_
    refine rk_icmp_le rfl rfl (fun hc4 => ?_) (fun hc4 => ?_)
    · exact absurd ⟨hc1, i32_le.mp hc4⟩ ha
    · refine rk_bipush (v := (-2)) rfl (by decide) ?_
      exact rk_ireturn rfl rfl Qe_mk
