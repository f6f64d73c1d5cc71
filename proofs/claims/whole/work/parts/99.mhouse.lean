/-! HOUSE: the model's line and house -/
/-- a line without its end -/
def lnX (b : Nat → Nat) (n N t w : Nat) (c : Nat → Int32) (q : Nat) : RR :=
  if 10 < tkd b n q then fR (if tkd b n q = 14 then 1 else 2) (ts b n q)
  else if ¬ lnF N t w (tkd b n q) = 0 then fR (lnF N t w (tkd b n q)) (ts b n q)
  else lnN b n N t w (tkd b n q) c (te b n q)
theorem bd_f {k pl : Nat} {g : (Nat → Int32) → Nat → RR} (h : ¬ k = 0) : (fR k pl).bd g = fR k pl := if_neg h
theorem lnL_bd {b : Nat → Nat} {n N t w q : Nat} {c : Nat → Int32} : lnL b n N t w c q = (lnX b n N t w c q).bd (semi b n) := by
  unfold lnL lnX
  by_cases h : 10 < tkd b n q
  · rw [if_pos h, if_pos h]
    exact (bd_f (by split <;> decide)).symm
  · rw [if_neg h, if_neg h]
    by_cases h2 : lnF N t w (tkd b n q) = 0
    · rw [if_neg (fun y => y h2), if_neg (fun y => y h2)]
    · rw [if_pos h2, if_pos h2]
      exact (bd_f h2).symm
theorem lnX_0 {b : Nat → Nat} {n N t w q : Nat} {c : Nat → Int32} (h : tkd b n q = 0) : lnX b n N t w c q = if 0 < N then fR 4 (ts b n q) else num b n 2 14 (te b n q) (fun x q => okR (upd c 0 (nI x)) q) := by
  rw [lnX, h, if_neg (show ¬ 10 < 0 by decide)]
  by_cases z : 0 < N
  · have hf : lnF N t w 0 = 4 := by
      unfold lnF
      repeat' split
      all_goals omega
    rw [hf, if_pos z, if_pos (by decide)]
  · have hf : lnF N t w 0 = 0 := by
      unfold lnF
      repeat' split
      all_goals omega
    rw [hf, if_neg z, if_neg (by decide), lnN, if_pos rfl]
theorem lnX_1 {b : Nat → Nat} {n N t w q : Nat} {c : Nat → Int32} (h : tkd b n q = 1) : lnX b n N t w c q = if N = 0 then fR 2 (ts b n q) else if 0 < t then fR 4 (ts b n q) else num b n 1 6 (te b n q) (fun x q => okR (upd c 1 (nI x)) q) := by
  rw [lnX, h, if_neg (show ¬ 10 < 1 by decide)]
  by_cases z : N = 0
  · have hf : lnF N t w 1 = 2 := by
        unfold lnF
        repeat' split
        all_goals omega
    rw [hf, if_pos z, if_pos (by decide)]
  · by_cases z2 : 0 < t
    · have hf : lnF N t w 1 = 4 := by
        unfold lnF
        repeat' split
        all_goals omega
      rw [hf, if_neg z, if_pos z2, if_pos (by decide)]
    · have hf : lnF N t w 1 = 0 := by
        unfold lnF
        repeat' split
        all_goals omega
      rw [hf, if_neg z, if_neg z2, if_neg (by decide), lnN, if_neg (by decide), if_pos rfl]
theorem lnX_t {b : Nat → Nat} {n N t w q : Nat} {c : Nat → Int32} (h0 : ¬ tkd b n q = 0) (h1 : ¬ tkd b n q = 1) (ht : t = 0) : lnX b n N t w c q = fR (if tkd b n q = 14 then 1 else 2) (ts b n q) := by
  rw [lnX]
  by_cases z : 10 < tkd b n q
  · rw [if_pos z]
  · have hf : lnF N t w (tkd b n q) = 2 := by
      unfold lnF
      repeat' split
      all_goals omega
    rw [if_neg z, hf, if_pos (by decide), if_neg (by omega)]
theorem lnX_9 {b : Nat → Nat} {n N t w q : Nat} {c : Nat → Int32} (h : tkd b n q = 9) (hN : 1 ≤ N) (ht : 1 ≤ t) : lnX b n N t w c q = if 8 ≤ w then fR 4 (ts b n q) else num b n 0 (N - 1) (te b n q) (fun r q => okR (cw c w r) q) := by
  rw [lnX, h, if_neg (show ¬ 10 < 9 by decide)]
  by_cases z : 8 ≤ w
  · have hf : lnF N t w 9 = 4 := by
      unfold lnF
      repeat' split
      all_goals omega
    rw [hf, if_pos z, if_pos (by decide)]
  · have hf : lnF N t w 9 = 0 := by
      unfold lnF
      repeat' split
      all_goals omega
    rw [hf, if_neg z, if_neg (by decide), lnN, if_neg (by decide), if_neg (by decide), if_neg (by decide), if_neg (by decide), if_neg (by decide), if_neg (by decide)]
    rfl
theorem lnX_k {b : Nat → Nat} {n N t w q k : Nat} {c : Nat → Int32} (h : tkd b n q = k) (hk : 2 ≤ k) (hk2 : k ≤ 8) (hN : 1 ≤ N) (ht : 1 ≤ t) : lnX b n N t w c q = lnN b n N t w k c (te b n q) := by
  have hf : lnF N t w k = 0 := by
    unfold lnF
    repeat' split
    all_goals omega
  rw [lnX, h, if_neg (by omega), hf, if_neg (by decide)]
theorem lnX_e {b : Nat → Nat} {n N t w q : Nat} {c : Nat → Int32} (h : 9 < tkd b n q) : lnX b n N t w c q = fR (if tkd b n q = 14 then 1 else 2) (ts b n q) := by
  rw [lnX]
  by_cases z : 10 < tkd b n q
  · rw [if_pos z]
  · have hf : lnF N t w (tkd b n q) = 2 := by
      unfold lnF
      repeat' split
      all_goals omega
    rw [if_neg z, hf, if_pos (by decide), if_neg (by omega)]
theorem lnX_q {b : Nat → Nat} {n N t w l q : Nat} {c : Nat → Int32} (hq : q ≤ n) (hv : VC c N t w l) : (lnX b n N t w c q).k ≤ 4 ∧ ((lnX b n N t w c q).k = 0 → (lnX b n N t w c q).q ≤ n) := by
  unfold lnX
  by_cases h : 10 < tkd b n q
  · rw [if_pos h]
    exact ⟨by show (if _ then 1 else 2) ≤ 4; split <;> omega, fun _ => Nat.zero_le _⟩
  · rw [if_neg h]
    by_cases h2 : lnF N t w (tkd b n q) = 0
    · rw [if_neg (fun y => y h2)]
      obtain ⟨o1, o2⟩ := lnN_v (b := b) h2 (te_b hq).2.1 hv
      exact ⟨o1, fun y => (o2 y).2.1⟩
    · rw [if_pos h2]
      refine ⟨?_, fun _ => Nat.zero_le _⟩
      show lnF N t w (tkd b n q) ≤ 4
      unfold lnF
      repeat' split
      all_goals omega
theorem MSd.fr {h0 h h1 : ai_H} {v w : Nat → Int32} {b : Nat → Nat} {n : Nat} {r : RR} (F : FrWd h0 h) (p : MPd v w) (H : MSd h h1 w b n r) : MSd h0 h1 v b n r := by
  obtain ⟨a, w1, f, c0, p1, rest⟩ := H
  exact ⟨F.tr a, w1, f, c0, p.tr p1, rest⟩
theorem m204t {X : ai_X} {h0 h : ai_H} {v : Nat → Int32} {b : Nat → Nat} {n : Nat} {r : RR} {o : Option Value} (M : MSd h0 h v b n r) (Tp : TP h 55 b) (hn : n ≤ 600) (v8 : v 8 = nI n) (hr : r.k ≤ 4 ∧ (r.k = 0 → r.q ≤ n)) : Rk X am_204 118 [some (.ref 52), o] [] h (Qv (fun h2 => MSd h0 h2 v b n (r.bd (semi b n)))) := by
  obtain ⟨FW, w, f, c0, P0, e56, ⟨k0, y0, T0, hf⟩ | ⟨k0, y0, x0⟩⟩ := M
  · rw [RR.bd, if_pos k0, semi]
    refine rk_aload_n rfl rfl ?_
    refine rk_bipush (v := nI 12) rfl (by decide) ?_
    refine rk_cv1v rfl rfl (by assumption) rfl rfl (Nat.le_of_ble_eq_true rfl) (Nat.le_of_ble_eq_true rfl) (s192 c0 Tp hn (P0.e8 v8) y0 T0 (hr.2 k0)) (fun h1 hF => ?_)
    obtain ⟨F1, w1, c1, Q1, hF⟩ := hF
    replace e56 := (F1.2 56 (by omega)).trans e56
    replace FW := FW.t52 F1
    refine rk_aload_n rfl rfl ?_
    refine rk_get rfl (by assumption) rfl ?_
    refine rk_sipush (v := nI 280) rfl (by decide) ?_
    refine rk_dup2 rfl ?_
    refine rk_iald rfl (by assumption) (rfl) (by omega) (by decide) ?_
    rw [hf 280 (by omega) (Or.inr (by omega))]
    refine rk_iconst (v := nI 1) rfl (by decide) ?_
    refine rk_iadd rfl rfl ?_
    refine rk_iast rfl e56 (rfl) (by omega) (by decide) ?_
    refine hp_gen e56 (fun h1 g1 hk1 hl1 => ?_)
    replace c1 := (hk1 _ (by omega)).trans c1
    replace FW := FW.t56 hk1 hl1
    replace e56 := g1
    rcases hF with ⟨k12, y1, T1⟩ | ⟨k12, y1, x1⟩
    · exact rk_return rfl rfl ⟨_, rfl, by rw [if_pos k12]; exact MSd.ok FW c1 (P0.tr Q1) e56 y1 T1 (hf.u (by omega))⟩
    · exact rk_return rfl rfl ⟨_, rfl, by rw [if_neg k12]; exact MSd.f FW c1 (P0.tr Q1) e56 (by split <;> decide) y1 x1⟩
  · rw [RR.bd, if_neg k0]
    have hf0 : ¬ w 11 = 0 := fun y => k0 ((n0_eq (by omega)).mp (y0.symm.trans y))
    refine rk_aload_n rfl rfl ?_
    refine rk_bipush (v := nI 12) rfl (by decide) ?_
    refine rk_cv1v rfl rfl (by assumption) rfl rfl (Nat.le_of_ble_eq_true rfl) (Nat.le_of_ble_eq_true rfl) (s192F c0 hf0) (fun h1 hF => ?_)
    subst hF
    refine rk_aload_n rfl rfl ?_
    refine rk_get rfl (by assumption) rfl ?_
    refine rk_sipush (v := nI 280) rfl (by decide) ?_
    refine rk_dup2 rfl ?_
    refine rk_iald rfl (by assumption) (rfl) (by omega) (by decide) ?_
    refine rk_iconst (v := nI 1) rfl (by decide) ?_
    refine rk_iadd rfl rfl ?_
    refine rk_iast rfl e56 (rfl) (by omega) (by decide) ?_
    refine hp_gen e56 (fun h1 g1 hk1 hl1 => ?_)
    replace c0 := (hk1 _ (by omega)).trans c0
    replace FW := FW.t56 hk1 hl1
    replace e56 := g1
    exact rk_return rfl rfl ⟨_, rfl, FW, w, _, c0, P0, e56, Or.inr ⟨k0, y0, x0⟩⟩
theorem s204 {X : ai_X} {h : ai_H} {b : Nat → Nat} {n N t u l q : Nat} {v f c : Nat → Int32} (c0 : h[52]? = some (cMdl v)) (Tp : TP h 55 b) (hn : n ≤ 600) (v8 : v 8 = nI n) (y0 : v 11 = 0) (T0 : MDT v b n q) (hq0 : q ≤ n) (e56 : h[56]? = some (cI 281 f)) (hf : MCr f c) (hv : VC c N t u l) : Mt X am_204 [.ref 52] h (Qv (fun h1 => MSd h h1 v b n (lnL b n N t u c q))) := by
  obtain ⟨a0, a1, a2, a3, a4, a5, a6, a7⟩ := id hv
  have f0 : f 0 = nI N := (hf 0 (by omega) (Or.inr (by omega))).trans a0
  have f1 : f 1 = nI t := (hf 1 (by omega) (Or.inr (by omega))).trans a1
  have hq1 := (te_b (b := b) hq0).2.1
  have hcl0 : t = 0 → ∀ q, 2 ≤ q → q < 280 → c q = clr q := fun z => by
    rcases a7 with y | y
    · exact y.2.2
    · have := y.ht; omega
  rw [lnL_bd]
  refine rk_aload_n rfl rfl ?_
  refine rk_iconst (v := nI 0) rfl (by decide) ?_
  refine rk_cv1e rfl rfl (by assumption) rfl rfl (Nat.le_of_ble_eq_true rfl) (Nat.le_of_ble_eq_true rfl) (s190 c0 y0 T0.2.2.1 tkd_le (kk := 0) (by omega)) ?_
  refine rk_if_eq rfl rfl (fun hc3 => ?_) (fun hc3 => ?_)
  · replace hc3 := (bI_0).mp hc3
    refine rk_aload_n rfl rfl ?_
    refine rk_iconst (v := nI 1) rfl (by decide) ?_
    refine rk_cv1e rfl rfl (by assumption) rfl rfl (Nat.le_of_ble_eq_true rfl) (Nat.le_of_ble_eq_true rfl) (s190 c0 y0 T0.2.2.1 tkd_le (kk := 1) (by omega)) ?_
    refine rk_if_eq rfl rfl (fun hc10 => ?_) (fun hc10 => ?_)
    · replace hc10 := (bI_0).mp hc10
      refine rk_aload_n rfl rfl ?_
      refine rk_get rfl (by assumption) rfl ?_
      refine rk_iconst (v := nI 1) rfl (by decide) ?_
      refine rk_iald rfl (by assumption) (rfl) (by omega) (by decide) ?_
      rw [f1]
      refine rk_if_ne rfl rfl (fun hc18 => ?_) (fun hc18 => ?_)
      · replace hc18 := mt (n0_eq (by omega)).mpr hc18
        have hp := hv.hp (by omega)
        have hN1 : 1 ≤ N := by have := hp.hn; omega
        have ht1 : 1 ≤ t := by omega
        refine rk_aload_n rfl rfl ?_
        refine rk_bipush (v := nI 9) rfl (by decide) ?_
        refine rk_cv1e rfl rfl (by assumption) rfl rfl (Nat.le_of_ble_eq_true rfl) (Nat.le_of_ble_eq_true rfl) (s190 c0 y0 T0.2.2.1 tkd_le (kk := 9) (by omega)) ?_
        refine rk_if_eq rfl rfl (fun hc26 => ?_) (fun hc26 => ?_)
        · replace hc26 := (bI_0).mp hc26
          refine rk_aload_n rfl rfl ?_
          refine rk_iconst (v := nI 2) rfl (by decide) ?_
          refine rk_cv1i rfl rfl (by assumption) rfl rfl (Nat.le_of_ble_eq_true rfl) (Nat.le_of_ble_eq_true rfl) (s191 c0 Tp hn v8 y0 T0 hq0 (kk := 2) (by omega)) (fun w h1 hF => ?_)
          rcases hF with ⟨kk, rfl, F1, w1, c1, Q1, y1, T1⟩ | ⟨hn2, rfl, hh⟩
          · refine rk_if_eq rfl rfl (fun y => absurd y (by decide)) (fun _ => ?_)
            have Tp1 := Tp.fr (F1.2 55 (by omega))
            have e561 := (F1.2 56 (by omega)).trans e56
            have FW1 : FrWd h h1 := FrWd.rfl'.t52 F1
            have hX := (lnX_k (N := N) (t := t) (w := u) (c := c) kk (by omega) (by omega) (by omega) (by omega)).trans (show lnN b n N t u 2 c (te b n q) = _ by rw [lnN, if_neg (by decide), if_neg (by decide), if_pos rfl])
            refine rk_aload_n rfl rfl ?_
            refine rk_cv0v rfl rfl (by assumption) rfl rfl (Nat.le_of_ble_eq_true rfl) (Nat.le_of_ble_eq_true rfl) (s199 c1 Tp1 hn (Q1.e8 v8) y1 T1 hq1 e561 hf a5 a6 a0 a1 (by omega) (by omega)) (fun h1 hF => ?_)
            refine rk_goto rfl rfl ?_
            have hM := MSd.fr FW1 Q1 hF
            have Tp2 := Tp1.fr (hF.1.2 55 (by omega) (by omega))
            exact m204t (by rw [hX]; exact hM) Tp2 hn v8 (lnX_q hq0 hv)
          · have hh2 := hh.symm
            subst hh2
            refine rk_if_eq rfl rfl (fun _ => ?_) (fun y => absurd rfl y)
            refine rk_aload_n rfl rfl ?_
            refine rk_iconst (v := nI 3) rfl (by decide) ?_
            refine rk_cv1i rfl rfl (by assumption) rfl rfl (Nat.le_of_ble_eq_true rfl) (Nat.le_of_ble_eq_true rfl) (s191 c0 Tp hn v8 y0 T0 hq0 (kk := 3) (by omega)) (fun w h1 hF => ?_)
            rcases hF with ⟨kk, rfl, F1, w1, c1, Q1, y1, T1⟩ | ⟨hn3, rfl, hh⟩
            · refine rk_if_eq rfl rfl (fun y => absurd y (by decide)) (fun _ => ?_)
              have Tp1 := Tp.fr (F1.2 55 (by omega))
              have e561 := (F1.2 56 (by omega)).trans e56
              have FW1 : FrWd h h1 := FrWd.rfl'.t52 F1
              have hX := (lnX_k (N := N) (t := t) (w := u) (c := c) kk (by omega) (by omega) (by omega) (by omega)).trans (show lnN b n N t u 3 c (te b n q) = _ by rw [lnN, if_neg (by decide), if_neg (by decide), if_neg (by decide), if_pos rfl])
              refine rk_aload_n rfl rfl ?_
              refine rk_cv0v rfl rfl (by assumption) rfl rfl (Nat.le_of_ble_eq_true rfl) (Nat.le_of_ble_eq_true rfl) (s200 c1 Tp1 hn (Q1.e8 v8) y1 T1 hq1 e561 hf a5 a6 a0 a1 (by omega) (by omega) (hp.hy)) (fun h1 hF => ?_)
              refine rk_goto rfl rfl ?_
              have hM := MSd.fr FW1 Q1 hF
              have Tp2 := Tp1.fr (hF.1.2 55 (by omega) (by omega))
              exact m204t (by rw [hX]; exact hM) Tp2 hn v8 (lnX_q hq0 hv)
            · have hh2 := hh.symm
              subst hh2
              refine rk_if_eq rfl rfl (fun _ => ?_) (fun y => absurd rfl y)
              refine rk_aload_n rfl rfl ?_
              refine rk_iconst (v := nI 4) rfl (by decide) ?_
              refine rk_cv1i rfl rfl (by assumption) rfl rfl (Nat.le_of_ble_eq_true rfl) (Nat.le_of_ble_eq_true rfl) (s191 c0 Tp hn v8 y0 T0 hq0 (kk := 4) (by omega)) (fun w h1 hF => ?_)
              rcases hF with ⟨kk, rfl, F1, w1, c1, Q1, y1, T1⟩ | ⟨hn4, rfl, hh⟩
              · refine rk_if_eq rfl rfl (fun y => absurd y (by decide)) (fun _ => ?_)
                have Tp1 := Tp.fr (F1.2 55 (by omega))
                have e561 := (F1.2 56 (by omega)).trans e56
                have FW1 : FrWd h h1 := FrWd.rfl'.t52 F1
                have hX := (lnX_k (N := N) (t := t) (w := u) (c := c) kk (by omega) (by omega) (by omega) (by omega)).trans (show lnN b n N t u 4 c (te b n q) = _ by rw [lnN, if_neg (by decide), if_neg (by decide), if_neg (by decide), if_neg (by decide), if_pos rfl])
                refine rk_aload_n rfl rfl ?_
                refine rk_cv0v rfl rfl (by assumption) rfl rfl (Nat.le_of_ble_eq_true rfl) (Nat.le_of_ble_eq_true rfl) (s201 c1 Tp1 hn (Q1.e8 v8) y1 T1 hq1 e561 hf a5 a6 a0 a1 (by omega) (by omega)) (fun h1 hF => ?_)
                refine rk_goto rfl rfl ?_
                have hM := MSd.fr FW1 Q1 hF
                have Tp2 := Tp1.fr (hF.1.2 55 (by omega) (by omega))
                exact m204t (by rw [hX]; exact hM) Tp2 hn v8 (lnX_q hq0 hv)
              · have hh2 := hh.symm
                subst hh2
                refine rk_if_eq rfl rfl (fun _ => ?_) (fun y => absurd rfl y)
                refine rk_aload_n rfl rfl ?_
                refine rk_bipush (v := nI 7) rfl (by decide) ?_
                refine rk_cv1i rfl rfl (by assumption) rfl rfl (Nat.le_of_ble_eq_true rfl) (Nat.le_of_ble_eq_true rfl) (s191 c0 Tp hn v8 y0 T0 hq0 (kk := 7) (by omega)) (fun w h1 hF => ?_)
                rcases hF with ⟨kk, rfl, F1, w1, c1, Q1, y1, T1⟩ | ⟨hn7, rfl, hh⟩
                · refine rk_if_eq rfl rfl (fun y => absurd y (by decide)) (fun _ => ?_)
                  have Tp1 := Tp.fr (F1.2 55 (by omega))
                  have e561 := (F1.2 56 (by omega)).trans e56
                  have FW1 : FrWd h h1 := FrWd.rfl'.t52 F1
                  have hX := (lnX_k (N := N) (t := t) (w := u) (c := c) kk (by omega) (by omega) (by omega) (by omega)).trans (show lnN b n N t u 7 c (te b n q) = _ by rw [lnN, if_neg (by decide), if_neg (by decide), if_neg (by decide), if_neg (by decide), if_neg (by decide), if_pos rfl])
                  refine rk_aload_n rfl rfl ?_
                  refine rk_cv0v rfl rfl (by assumption) rfl rfl (Nat.le_of_ble_eq_true rfl) (Nat.le_of_ble_eq_true rfl) (s202 c1 Tp1 hn (Q1.e8 v8) y1 T1 hq1 e561 hf a5 a6 a0 a1 (by omega) (by omega)) (fun h1 hF => ?_)
                  refine rk_goto rfl rfl ?_
                  have hM := MSd.fr FW1 Q1 hF
                  have Tp2 := Tp1.fr (hF.1.2 55 (by omega) (by omega))
                  exact m204t (by rw [hX]; exact hM) Tp2 hn v8 (lnX_q hq0 hv)
                · have hh2 := hh.symm
                  subst hh2
                  refine rk_if_eq rfl rfl (fun _ => ?_) (fun y => absurd rfl y)
                  refine rk_aload_n rfl rfl ?_
                  refine rk_iconst (v := nI 5) rfl (by decide) ?_
                  refine rk_cv1i rfl rfl (by assumption) rfl rfl (Nat.le_of_ble_eq_true rfl) (Nat.le_of_ble_eq_true rfl) (s191 c0 Tp hn v8 y0 T0 hq0 (kk := 5) (by omega)) (fun w h1 hF => ?_)
                  rcases hF with ⟨kk, rfl, F1, w1, c1, Q1, y1, T1⟩ | ⟨hn5, rfl, hh⟩
                  · refine rk_if_eq rfl rfl (fun y => absurd y (by decide)) (fun _ => ?_)
                    have Tp1 := Tp.fr (F1.2 55 (by omega))
                    have e561 := (F1.2 56 (by omega)).trans e56
                    have FW1 : FrWd h h1 := FrWd.rfl'.t52 F1
                    have hX := (lnX_k (N := N) (t := t) (w := u) (c := c) kk (by omega) (by omega) (by omega) (by omega)).trans (show lnN b n N t u 5 c (te b n q) = _ by rw [lnN, if_neg (by decide), if_neg (by decide), if_neg (by decide), if_neg (by decide), if_neg (by decide), if_neg (by decide)])
                    have P1 : MPd v w1 := Q1
                    have FW := FW1
                    replace Tp := Tp1
                    replace e56 := e561
                    refine rk_aload_n rfl rfl ?_
                    refine rk_cv0i rfl rfl (by assumption) rfl rfl (Nat.le_of_ble_eq_true rfl) (Nat.le_of_ble_eq_true rfl) (s194 c1 Tp hn (P1.e8 v8) y1 T1 hq1 e56 f0 (by omega) (by omega)) (fun w h1 hF => ?_)
                    obtain ⟨F1, w2, c2, Q1, hF⟩ := hF
                    have P2 := P1.tr Q1
                    replace FW := FW.t52 F1
                    replace e56 := (F1.2 56 (by omega)).trans e56
                    replace Tp := Tp.fr (F1.2 55 (by omega))
                    have hq : (te b n q) ≤ n := by assumption
                    have hqq := (te_b (b := b) hq).2.1
                    rcases hF with ⟨z2, rfl, y2, T2⟩ | ⟨z2, y2, x2⟩
                    · obtain ⟨b2, d2⟩ := nf_b z2
                      refine rk_istore_n rfl (Nat.le_of_ble_eq_true rfl) rfl ?_
                      refine rk_aload_n rfl rfl ?_
                      refine rk_get rfl (by assumption) rfl ?_
                      refine rk_sipush (v := nI 268) rfl (by decide) ?_
                      refine rk_dup2 rfl ?_
                      refine rk_iald rfl (by assumption) (rfl) (by omega) (by decide) ?_
                      rw [hf 268 (by omega) (Or.inr (by omega))]
                      refine rk_aload_n rfl rfl ?_
                      refine rk_get rfl (by assumption) rfl ?_
                      rw [y2]
                      refine rk_if_ne rfl rfl (fun y => absurd rfl y) (fun _ => ?_)
                      refine rk_iconst (v := nI 1) rfl (by decide) ?_
                      refine rk_iload_n rfl rfl ?_
                      refine rk_ishl rfl (b_1shlU (by omega)) ?_
                      refine rk_goto rfl rfl ?_
                      refine rk_ior rfl rfl ?_
                      refine rk_iast rfl e56 (rfl) (by omega) (by decide) ?_
                      refine hp_gen e56 (fun h1 g1 hk1 hl1 => ?_)
                      replace c2 := (hk1 _ (by omega)).trans c2
                      replace FW := FW.t56 hk1 hl1
                      replace Tp := Tp.fr (hk1 55 (by omega))
                      replace e56 := g1
                      refine rk_goto rfl rfl ?_
                      exact m204t (by rw [hX, num_y z2]; exact MSd.ok FW c2 P2 e56 y2 T2 (hf.u (by omega))) Tp hn v8 (lnX_q hq0 hv)
                    · have hf0 : ¬ w2 11 = 0 := fun y => nf_i z2 (y2.symm.trans y)
                      refine rk_istore_n rfl (Nat.le_of_ble_eq_true rfl) rfl ?_
                      refine rk_aload_n rfl rfl ?_
                      refine rk_get rfl (by assumption) rfl ?_
                      refine rk_sipush (v := nI 268) rfl (by decide) ?_
                      refine rk_dup2 rfl ?_
                      refine rk_iald rfl (by assumption) (rfl) (by omega) (by decide) ?_
                      refine rk_aload_n rfl rfl ?_
                      refine rk_get rfl (by assumption) rfl ?_
                      refine rk_if_ne rfl rfl (fun hc72 => ?_) (fun hc72 => ?_)
                      · refine rk_iconst (v := nI 0) rfl (by decide) ?_
                        refine rk_ior rfl rfl ?_
                        refine rk_iast rfl e56 (rfl) (by omega) (by decide) ?_
                        refine hp_gen e56 (fun h1 g1 hk1 hl1 => ?_)
                        replace c2 := (hk1 _ (by omega)).trans c2
                        replace FW := FW.t56 hk1 hl1
                        replace Tp := Tp.fr (hk1 55 (by omega))
                        replace e56 := g1
                        refine rk_goto rfl rfl ?_
                        exact m204t (by rw [hX, num_n z2]; exact MSd.f FW c2 P2 e56 z2 y2 x2) Tp hn v8 (lnX_q hq0 hv)
                      · replace hc72 := Decidable.not_not.mp hc72
                        exact absurd hc72 hf0
                  · have hh2 := hh.symm
                    subst hh2
                    refine rk_if_eq rfl rfl (fun _ => ?_) (fun y => absurd rfl y)
                    refine rk_aload_n rfl rfl ?_
                    refine rk_bipush (v := nI 6) rfl (by decide) ?_
                    refine rk_cv1i rfl rfl (by assumption) rfl rfl (Nat.le_of_ble_eq_true rfl) (Nat.le_of_ble_eq_true rfl) (s191 c0 Tp hn v8 y0 T0 hq0 (kk := 6) (by omega)) (fun w h1 hF => ?_)
                    rcases hF with ⟨kk, rfl, F1, w1, c1, Q1, y1, T1⟩ | ⟨hn6, rfl, hh⟩
                    · refine rk_if_eq rfl rfl (fun y => absurd y (by decide)) (fun _ => ?_)
                      have Tp1 := Tp.fr (F1.2 55 (by omega))
                      have e561 := (F1.2 56 (by omega)).trans e56
                      have FW1 : FrWd h h1 := FrWd.rfl'.t52 F1
                      have hX := (lnX_k (N := N) (t := t) (w := u) (c := c) kk (by omega) (by omega) (by omega) (by omega)).trans (show lnN b n N t u 6 c (te b n q) = _ by rw [lnN, if_neg (by decide), if_neg (by decide), if_neg (by decide), if_neg (by decide), if_neg (by decide), if_neg (by decide)])
                      have P1 : MPd v w1 := Q1
                      have FW := FW1
                      replace Tp := Tp1
                      replace e56 := e561
                      refine rk_aload_n rfl rfl ?_
                      refine rk_cv0i rfl rfl (by assumption) rfl rfl (Nat.le_of_ble_eq_true rfl) (Nat.le_of_ble_eq_true rfl) (s194 c1 Tp hn (P1.e8 v8) y1 T1 hq1 e56 f0 (by omega) (by omega)) (fun w h1 hF => ?_)
                      obtain ⟨F1, w2, c2, Q1, hF⟩ := hF
                      have P2 := P1.tr Q1
                      replace FW := FW.t52 F1
                      replace e56 := (F1.2 56 (by omega)).trans e56
                      replace Tp := Tp.fr (F1.2 55 (by omega))
                      have hq : (te b n q) ≤ n := by assumption
                      have hqq := (te_b (b := b) hq).2.1
                      rcases hF with ⟨z2, rfl, y2, T2⟩ | ⟨z2, y2, x2⟩
                      · obtain ⟨b2, d2⟩ := nf_b z2
                        refine rk_istore_n rfl (Nat.le_of_ble_eq_true rfl) rfl ?_
                        refine rk_aload_n rfl rfl ?_
                        refine rk_get rfl (by assumption) rfl ?_
                        refine rk_sipush (v := nI 269) rfl (by decide) ?_
                        refine rk_dup2 rfl ?_
                        refine rk_iald rfl (by assumption) (rfl) (by omega) (by decide) ?_
                        rw [hf 269 (by omega) (Or.inr (by omega))]
                        refine rk_aload_n rfl rfl ?_
                        refine rk_get rfl (by assumption) rfl ?_
                        rw [y2]
                        refine rk_if_ne rfl rfl (fun y => absurd rfl y) (fun _ => ?_)
                        refine rk_iconst (v := nI 1) rfl (by decide) ?_
                        refine rk_iload_n rfl rfl ?_
                        refine rk_ishl rfl (b_1shlU (by omega)) ?_
                        refine rk_goto rfl rfl ?_
                        refine rk_ior rfl rfl ?_
                        refine rk_iast rfl e56 (rfl) (by omega) (by decide) ?_
                        refine hp_gen e56 (fun h1 g1 hk1 hl1 => ?_)
                        replace c2 := (hk1 _ (by omega)).trans c2
                        replace FW := FW.t56 hk1 hl1
                        replace Tp := Tp.fr (hk1 55 (by omega))
                        replace e56 := g1
                        refine rk_goto rfl rfl ?_
                        exact m204t (by rw [hX, num_y z2]; exact MSd.ok FW c2 P2 e56 y2 T2 (hf.u (by omega))) Tp hn v8 (lnX_q hq0 hv)
                      · have hf0 : ¬ w2 11 = 0 := fun y => nf_i z2 (y2.symm.trans y)
                        refine rk_istore_n rfl (Nat.le_of_ble_eq_true rfl) rfl ?_
                        refine rk_aload_n rfl rfl ?_
                        refine rk_get rfl (by assumption) rfl ?_
                        refine rk_sipush (v := nI 269) rfl (by decide) ?_
                        refine rk_dup2 rfl ?_
                        refine rk_iald rfl (by assumption) (rfl) (by omega) (by decide) ?_
                        refine rk_aload_n rfl rfl ?_
                        refine rk_get rfl (by assumption) rfl ?_
                        refine rk_if_ne rfl rfl (fun hc95 => ?_) (fun hc95 => ?_)
                        · refine rk_iconst (v := nI 0) rfl (by decide) ?_
                          refine rk_ior rfl rfl ?_
                          refine rk_iast rfl e56 (rfl) (by omega) (by decide) ?_
                          refine hp_gen e56 (fun h1 g1 hk1 hl1 => ?_)
                          replace c2 := (hk1 _ (by omega)).trans c2
                          replace FW := FW.t56 hk1 hl1
                          replace Tp := Tp.fr (hk1 55 (by omega))
                          replace e56 := g1
                          refine rk_goto rfl rfl ?_
                          exact m204t (by rw [hX, num_n z2]; exact MSd.f FW c2 P2 e56 z2 y2 x2) Tp hn v8 (lnX_q hq0 hv)
                        · replace hc95 := Decidable.not_not.mp hc95
                          exact absurd hc95 hf0
                    · have hh2 := hh.symm
                      subst hh2
                      refine rk_if_eq rfl rfl (fun _ => ?_) (fun y => absurd rfl y)
                      refine rk_aload_n rfl rfl ?_
                      refine rk_bipush (v := nI 8) rfl (by decide) ?_
                      refine rk_cv1i rfl rfl (by assumption) rfl rfl (Nat.le_of_ble_eq_true rfl) (Nat.le_of_ble_eq_true rfl) (s191 c0 Tp hn v8 y0 T0 hq0 (kk := 8) (by omega)) (fun w h1 hF => ?_)
                      rcases hF with ⟨kk, rfl, F1, w1, c1, Q1, y1, T1⟩ | ⟨hn8, rfl, hh⟩
                      · refine rk_if_eq rfl rfl (fun y => absurd y (by decide)) (fun _ => ?_)
                        have Tp1 := Tp.fr (F1.2 55 (by omega))
                        have e561 := (F1.2 56 (by omega)).trans e56
                        have FW1 : FrWd h h1 := FrWd.rfl'.t52 F1
                        have hX := (lnX_k (N := N) (t := t) (w := u) (c := c) kk (by omega) (by omega) (by omega) (by omega)).trans (show lnN b n N t u 8 c (te b n q) = _ by rw [lnN, if_neg (by decide), if_neg (by decide), if_neg (by decide), if_neg (by decide), if_neg (by decide), if_neg (by decide)])
                        have P1 : MPd v w1 := Q1
                        have FW := FW1
                        replace Tp := Tp1
                        replace e56 := e561
                        refine rk_aload_n rfl rfl ?_
                        refine rk_get rfl (by assumption) rfl ?_
                        refine rk_sipush (v := nI 270) rfl (by decide) ?_
                        refine rk_aload_n rfl rfl ?_
                        refine rk_cv0i rfl rfl (by assumption) rfl rfl (Nat.le_of_ble_eq_true rfl) (Nat.le_of_ble_eq_true rfl) (s194 c1 Tp hn (P1.e8 v8) y1 T1 hq1 e56 f0 (by omega) (by omega)) (fun w h1 hF => ?_)
                        obtain ⟨F1, w2, c2, Q1, hF⟩ := hF
                        have P2 := P1.tr Q1
                        replace FW := FW.t52 F1
                        replace e56 := (F1.2 56 (by omega)).trans e56
                        replace Tp := Tp.fr (F1.2 55 (by omega))
                        have hq : (te b n q) ≤ n := by assumption
                        have hqq := (te_b (b := b) hq).2.1
                        rcases hF with ⟨z2, rfl, y2, T2⟩ | ⟨z2, y2, x2⟩
                        · obtain ⟨b2, d2⟩ := nf_b z2
                          refine rk_iast rfl e56 (rfl) (by omega) (by decide) ?_
                          refine hp_gen e56 (fun h1 g1 hk1 hl1 => ?_)
                          replace c2 := (hk1 _ (by omega)).trans c2
                          replace FW := FW.t56 hk1 hl1
                          replace Tp := Tp.fr (hk1 55 (by omega))
                          replace e56 := g1
                          refine rk_goto rfl rfl ?_
                          exact m204t (by rw [hX, num_y z2]; exact MSd.ok FW c2 P2 e56 y2 T2 (hf.u (by omega))) Tp hn v8 (lnX_q hq0 hv)
                        · have hf0 : ¬ w2 11 = 0 := fun y => nf_i z2 (y2.symm.trans y)
                          refine rk_iast rfl e56 (rfl) (by omega) (by decide) ?_
                          refine hp_gen e56 (fun h1 g1 hk1 hl1 => ?_)
                          replace c2 := (hk1 _ (by omega)).trans c2
                          replace FW := FW.t56 hk1 hl1
                          replace Tp := Tp.fr (hk1 55 (by omega))
                          replace e56 := g1
                          refine rk_goto rfl rfl ?_
                          exact m204t (by rw [hX, num_n z2]; exact MSd.f FW c2 P2 e56 z2 y2 x2) Tp hn v8 (lnX_q hq0 hv)
                      · have hh2 := hh.symm
                        subst hh2
                        refine rk_if_eq rfl rfl (fun _ => ?_) (fun y => absurd rfl y)
                        refine rk_aload_n rfl rfl ?_
                        refine rk_iconst (v := nI 2) rfl (by decide) ?_
                        refine rk_cv1v rfl rfl (by assumption) rfl rfl (Nat.le_of_ble_eq_true rfl) (Nat.le_of_ble_eq_true rfl) (s189 c0 y0) (fun h1 hF => ?_)
                        obtain ⟨F3, w3, c3', u1, u2, wo⟩ := hF
                        rw [T0.k] at u1
                        have h9x : 9 < tkd b n q := by omega
                        have hX := lnX_e (N := N) (t := t) (w := u) (c := c) h9x
                        exact m204t (by rw [hX]; exact MSd.f (FrWd.rfl'.t52 F3) c3' (mp11 wo) ((F3.2 56 (by omega)).trans e56) (by split <;> decide) (u1.trans (by split <;> rfl)) (u2.trans T0.1)) (Tp.fr (F3.2 55 (by omega))) hn v8 (lnX_q hq0 hv)
        · replace hc26 := Decidable.not_not.mp (mt bI_0.mpr hc26)
          refine rk_aload_n rfl rfl ?_
          refine rk_cv0v rfl rfl (by assumption) rfl rfl (Nat.le_of_ble_eq_true rfl) (Nat.le_of_ble_eq_true rfl) (s203 c0 Tp hn v8 y0 T0 hq0 e56 hf a5 a6 a0 a1 (u := u) a4 a2 (by omega) (by omega)) (fun h1 hF => ?_)
          have hX := lnX_9 (w := u) (c := c) hc26 hN1 ht1
          refine rk_goto rfl rfl ?_
          exact m204t (by rw [hX]; exact hF) (Tp.fr (hF.1.2 55 (by omega) (by omega))) hn v8 (lnX_q hq0 hv)
      · replace hc18 := Decidable.not_not.mp hc18
        replace hc18 := (n0_eq (by omega)).mp hc18
        refine rk_aload_n rfl rfl ?_
        refine rk_iconst (v := nI 2) rfl (by decide) ?_
        refine rk_cv1v rfl rfl (by assumption) rfl rfl (Nat.le_of_ble_eq_true rfl) (Nat.le_of_ble_eq_true rfl) (s189 c0 y0) (fun h1 hF => ?_)
        obtain ⟨F3, w3, c3', u1, u2, wo⟩ := hF
        rw [T0.k] at u1
        have hX := lnX_t (N := N) (w := u) (c := c) hc3 hc10 hc18
        have hF : MSd h h1 v b n (fR (if tkd b n q = 14 then 1 else 2) (ts b n q)) := MSd.f (FrWd.rfl'.t52 F3) c3' (mp11 wo) ((F3.2 56 (by omega)).trans e56) (by split <;> decide) (u1.trans (by split <;> rfl)) (u2.trans T0.1)
        refine rk_goto rfl rfl ?_
        exact m204t (by rw [hX]; exact hF) (Tp.fr (hF.1.2 55 (by omega) (by omega))) hn v8 (lnX_q hq0 hv)
    · replace hc10 := Decidable.not_not.mp (mt bI_0.mpr hc10)
      refine rk_aload_n rfl rfl ?_
      refine rk_cv0v rfl rfl (by assumption) rfl rfl (Nat.le_of_ble_eq_true rfl) (Nat.le_of_ble_eq_true rfl) (s198 c0 Tp hn v8 y0 T0 hq0 e56 hf a5 a6 a0 a1 hcl0 (by omega)) (fun h1 hF => ?_)
      have hX := lnX_1 (N := N) (t := t) (w := u) (c := c) hc10
      refine rk_goto rfl rfl ?_
      exact m204t (by rw [hX]; exact hF) (Tp.fr (hF.1.2 55 (by omega) (by omega))) hn v8 (lnX_q hq0 hv)
  · replace hc3 := Decidable.not_not.mp (mt bI_0.mpr hc3)
    refine rk_aload_n rfl rfl ?_
    refine rk_cv0v rfl rfl (by assumption) rfl rfl (Nat.le_of_ble_eq_true rfl) (Nat.le_of_ble_eq_true rfl) (s197 c0 Tp hn v8 y0 T0 hq0 e56 hf a5 a6 a0 a1 (by omega)) (fun h1 hF => ?_)
    have hX := lnX_0 (N := N) (t := t) (w := u) (c := c) hc3
    refine rk_goto rfl rfl ?_
    exact m204t (by rw [hX]; exact hF) (Tp.fr (hF.1.2 55 (by omega) (by omega))) hn v8 (lnX_q hq0 hv)
