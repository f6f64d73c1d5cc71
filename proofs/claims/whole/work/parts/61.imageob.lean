/-! IMAGE: the obligation -/
theorem fin_i {m c s c1 s1 i p n t w : Nat} {h h3 : ai_H} {tp : Nat} {T A A1 im im1 rs rm v : Nat → Int32} {nu : Nat → Int64} {fk fp : Int32} {b b1 : Nat → Option Nat} {k1 k2 k1' k2' : Nat → Option Nat} (hP : InvP m c s h tp T A im rs rm nu fk fp b) (hi : i < 2) (hII : ∀ i, i < 2 → (b i = none ∧ k1 i = none ∧ k2 i = none ∧ im i = 0) ∨ ∃ p, b i = some p ∧ k1 i = some p ∧ k2 i = some (p + 6) ∧ im i = 1 ∧ (∃ F G, HouseAt h p F G ∧ HC F G A (782 * (i + 1))) ∧ ∃ n f, RouteAt h (p + 6) n f ∧ FC n f A (782 * (i + 1))) (hb1 : b1 i = some p) (hbo : ∀ j, j ≠ i → b1 j = b j) (hD3 : DynOk h3 b1) (hc3 : c + c1 + pend b1 blN ≤ 104) (hs3 : s + s1 + pend b1 blS ≤ 534748) (K : ∀ q : Nat, q < h.length → q ≠ 20 → q ≠ 21 → ¬ (p ≤ q ∧ q < p + 8) → q ≠ 52 → q ≠ 53 → q ≠ 54 → h3[q]? = h[q]?) (e20 : h3[20]? = some (cR 4 2 k1')) (e21 : h3[21]? = some (cR 5 2 k2')) (hk1 : k1' i = some p) (hk2 : k2' i = some (p + 6)) (hko : ∀ j, j ≠ i → k1' j = k1 j ∧ k2' j = k2 j) (HH : ∃ F G, HouseAt h3 p F G ∧ HC F G A 0) (RR : ∃ n f, RouteAt h3 (p + 6) n f ∧ FC n f A 0) (hV : HV A 0 n t w) (hFV : FV A 0 t) (g52 : h3[52]? = some (cMdl (upd v 0 (nI 0)))) (d52 : h[52]? = some (cMdl v)) (c53 : h3[53]? = some (cI 2346 A1)) (hA1 : ∀ q, q < 782 → A1 (782 * (i + 1) + q) = A q) (hA2 : ∀ q, ¬ (782 * (i + 1) ≤ q ∧ q < 782 * (i + 1) + 782) → A1 q = A q) (c54 : h3[54]? = some (cZ 2 im1)) (him : im1 i = 1) (him2 : ∀ j, j ≠ i → im1 j = im j) (k : ai_Sk h h3) : Inv (m + 1) (c + c1) (s + s1) h3 := by
  obtain ⟨hA, hB, hR, hI, hS, hO, hM, hVV, hD, hc, hs⟩ := id hP
  have h80 := hM.len
  have hp := (hD3 i p (by omega) hb1).1
  have eA : At A A1 0 (782 * (i + 1)) := fun k hk => by rw [Nat.zero_add]; exact hA1 k hk
  have eO : ∀ j, j ≠ i → At A A1 (782 * (j + 1)) (782 * (j + 1)) := fun j hj k hk => hA2 _ (by omega)
  have e0 : At A A1 0 0 := fun k hk => hA2 _ (by omega)
  have kk : ∀ q : Nat, q < 80 → q ≠ 20 → q ≠ 21 → q ≠ 52 → q ≠ 53 → q ≠ 54 → h3[q]? = h[q]? := fun q a0 a1 a2 a3 a4 a5 => K q (by omega) a1 a2 (by omega) a3 a4 a5
  have kb : ∀ j p', j < 5 → j ≠ i → b j = some p' → ∀ q, p' ≤ q → q < p' + blN j → h3[q]? = h[q]? := fun j p' hj hji e q q1 q2 => by
    have x1 := hD j p' hj e
    have x2 := (hD3 i p (by omega) hb1).2.2 j p' hj hji ((hbo j hji).trans e)
    have x3 : blN i = 8 := if_pos hi
    exact K q (by omega) (by omega) (by omega) (by omega) (by omega) (by omega) (by omega)
  obtain ⟨⟨F, G, H3, hC3⟩, ⟨F9, G9, R9⟩, ⟨n0, f0, R, hFC⟩, n7, f7, R17⟩ := id hB
  obtain ⟨F5, G5, H5, hC5⟩ := HH
  obtain ⟨n6, f6, R6, hF6⟩ := RR
  refine ⟨tp, T, A1, im1, rs, rm, nu, fk, fp, b1, hA.fr (fun q _ => kk q (by omega) (by omega) (by omega) (by omega) (by omega) (by omega)), ⟨⟨F, G, H3.fr (fun q _ _ => kk q (by omega) (by omega) (by omega) (by omega) (by omega) (by omega)), e0.hc hV hC3⟩, ⟨F9, G9, R9.fr (fun q _ _ => kk q (by omega) (by omega) (by omega) (by omega) (by omega) (by omega))⟩, ⟨n0, f0, R.fr (fun q _ _ => kk q (by omega) (by omega) (by omega) (by omega) (by omega) (by omega)), e0.fc hFV hFC⟩, n7, f7, R17.fr (fun q _ _ => kk q (by omega) (by omega) (by omega) (by omega) (by omega) (by omega))⟩, hR.fr (fun q _ => kk q (by omega) (by omega) (by omega) (by omega) (by omega) (by omega)), ⟨k1', k2', e20, e21, fun j hj => ?_⟩, ?_, hO.fr (fun q _ _ => kk q (by omega) (by omega) (by omega) (by omega) (by omega) (by omega)), hM.up k (hM.obj (kk 62 (by omega) (by omega) (by omega) (by omega) (by omega) (by omega)) (fun v' hv' => ?_)) c53 c54 ((kk 55 (by omega) (by omega) (by omega) (by omega) (by omega) (by omega)).trans hM.2.2.2.1) ((kk 77 (by omega) (by omega) (by omega) (by omega) (by omega) (by omega)).trans hM.2.2.2.2.1) ((kk 78 (by omega) (by omega) (by omega) (by omega) (by omega) (by omega)).trans hM.2.2.2.2.2.1) ((kk 79 (by omega) (by omega) (by omega) (by omega) (by omega) (by omega)).trans hM.2.2.2.2.2.2.1), ⟨hVV.1, hVV.2.1, ⟨n, t, w, e0.hv hV, e0.fv hFV⟩, fun j hj z => ?_⟩, hD3, hc3, hs3⟩
  · by_cases q : j = i
    · subst q
      exact Or.inr ⟨p, hb1, hk1, hk2, him, ⟨F5, G5, H5, eA.hc hV hC5⟩, n6, f6, R6, eA.fc hFV hF6⟩
    · rw [hbo j q, (hko j q).1, (hko j q).2, him2 j q]
      rcases hII j hj with z | ⟨p', z0, z1, z2, z3, ⟨F8, G8, z4, z5⟩, n8, f8, z6, z7⟩
      · exact Or.inl z
      · obtain ⟨n', t', w', hV', hFV'⟩ := hVV.2.2.2 j hj z3
        have x3 : blN j = 8 := if_pos hj
        exact Or.inr ⟨p', z0, z1, z2, z3, ⟨F8, G8, z4.fr (fun q _ _ => kb j p' (by omega) (by assumption) z0 q (by omega) (by omega)), (eO j (by assumption)).hc hV' z5⟩, n8, f8, z6.fr (fun q _ _ => kb j p' (by omega) (by assumption) z0 q (by omega) (by omega)), (eO j (by assumption)).fc hFV' z7⟩
  · have hS1 : InvS h b1 := by
      unfold InvS
      rw [hbo 2 (by omega), hbo 3 (by omega), hbo 4 (by omega)]
      exact hS
    exact hS1.fr (fun q _ _ => kk q (by omega) (by omega) (by omega) (by omega) (by omega) (by omega)) (fun j p' _ hj e q q1 q2 => kb j p' hj (by omega) ((hbo j (by omega)).symm.trans e) q q1 q2)
  · rw [d52] at hv'
    obtain ⟨x1, x2, x3, x4⟩ := cMdl_inj (Option.some.inj hv')
    exact ⟨_, g52, x1, x2, x3, x4⟩
  · by_cases q : j = i
    · subst q
      exact ⟨n, t, w, eA.hv hV, eA.fv hFV⟩
    · rw [him2 j q] at z
      obtain ⟨n', t', w', hV', hFV'⟩ := hVV.2.2.2 j hj z
      exact ⟨n', t', w', (eO j q).hv hV', (eO j q).fv hFV'⟩
theorem ob43 (X : ai_X) : O43 X Inv := by
  intro a0
  refine ob_cells fun m c s h hm I => ?_
  obtain ⟨tp, T, A, im, rs, rm, nu, fk, fp, b, hP⟩ := id I
  obtain ⟨hA, hB, hR, hI, hS, hO, hM, hVV, hD, hc, hs⟩ := id hP
  obtain ⟨v, d52⟩ := I.m52
  have d53 := hM.2.1
  have d54 := hM.2.2.1
  have d0 := hA.1
  have h80 := hM.len
  obtain ⟨⟨F, G, H3, hC3⟩, R9, ⟨n0, f0, R, hFC⟩, R17⟩ := id hB
  obtain ⟨n, t, w, hV, hFV⟩ := hVV.2.2.1
  obtain ⟨k1, k2, d20, d21, hII⟩ := id hI
  by_cases ha : ¬ a0 < 0 ∧ ¬ nI 2 ≤ a0
  · obtain ⟨i, hi, rfl⟩ := in_of (by omega) ha
    rcases hII i hi with ⟨y0, y1, -, y3⟩ | ⟨p, y0, y1, y2, y3, ⟨F1, G1, HI, hC⟩, n6, f6, R6, hF⟩
    · have x8 : blN i = 8 := if_pos hi
      have x788 : blS i = 788 := if_pos hi
      refine ⟨_, 8, 788, _, c176_n d0 d20 d21 H3 hC3 hV R hFC hFV hi y1 h80, ?_⟩
      rintro h1 ⟨l1, K1, e20, e21, HH, RR⟩ s1
      have e52 := (K1 52 (by omega) (by omega) (by omega)).trans d52
      refine ⟨⟨_, e52⟩, md_g rfl rfl rfl rfl e52 (fun h2 g2 hk hl => ?_)⟩
      refine (m286_v g2 ((hk 53 (by omega)).trans ((K1 53 (by omega) (by omega) (by omega)).trans d53)) ((hk 54 (by omega)).trans ((K1 54 (by omega) (by omega) (by omega)).trans d54)) hi).mono ?_
      rintro o ⟨y, h3, e1, hy, l3, K3, ⟨A1, c53, hA1, hA2⟩, im1, c54, him, him2⟩
      subst e1
      refine ⟨_, _, rfl, hy, fun s2 => ?_⟩
      have k3 : ∀ q : Nat, q ≠ 52 → q ≠ 53 → q ≠ 54 → h3[q]? = h1[q]? := fun q a1 a2 a3 => (K3 q a2 a3).trans (hk q a1)
      have hpn := pend_new (w := blN) (p := h.length) y0 (show i < 5 by omega)
      have hps := pend_new (w := blS) (p := h.length) y0 (show i < 5 by omega)
      have hD3 : DynOk h3 (bu b i h.length) := hD.new y0 (by omega) h80 (by omega)
      refine fin_i (b1 := bu b i h.length) (p := h.length) hP hi hII (if_pos rfl) (fun j hj => if_neg hj) hD3 (by omega) (by omega) (fun q a0 a1 a2 a3 a4 a5 a6 => (k3 q a4 a5 a6).trans (K1 q a0 a1 a2)) ((k3 20 (by omega) (by omega) (by omega)).trans e20) ((k3 21 (by omega) (by omega) (by omega)).trans e21) (if_pos rfl) (if_pos rfl) (fun j hj => ⟨if_neg hj, if_neg hj⟩) ?_ ?_ hV hFV ((K3 52 (by omega) (by omega)).trans g2) d52 c53 hA1 hA2 c54 him him2 (s1.trans s2)
      · obtain ⟨F5, G5, z1, z2⟩ := HH
        exact ⟨F5, G5, z1.fr (fun q _ _ => k3 q (by omega) (by omega) (by omega)), z2⟩
      · obtain ⟨n5, f5, z1, z2⟩ := RR
        exact ⟨n5, f5, z1.fr (fun q _ _ => k3 q (by omega) (by omega) (by omega)), z2⟩
    · have hp := (hD i p (by omega) y0).1
      refine ⟨_, 0, 0, _, Qn_0 (c176_v d0 d20 d21 H3 hC3 hV R hFC hFV HI R6 hi y1 y2 hp), ?_⟩
      rintro h1 ⟨l1, K1, HH, RR⟩ s1
      have e52 := (K1 52 (by omega)).trans d52
      refine ⟨⟨_, e52⟩, md_g rfl rfl rfl rfl e52 (fun h2 g2 hk hl => ?_)⟩
      refine (m286_v g2 ((hk 53 (by omega)).trans ((K1 53 (by omega)).trans d53)) ((hk 54 (by omega)).trans ((K1 54 (by omega)).trans d54)) hi).mono ?_
      rintro o ⟨y, h3, e1, hy, l3, K3, ⟨A1, c53, hA1, hA2⟩, im1, c54, him, him2⟩
      subst e1
      refine ⟨_, _, rfl, hy, fun s2 => ?_⟩
      have k3 : ∀ q : Nat, q ≠ 52 → q ≠ 53 → q ≠ 54 → h3[q]? = h1[q]? := fun q a1 a2 a3 => (K3 q a2 a3).trans (hk q a1)
      refine fin_i (b1 := b) (p := p) hP hi hII y0 (fun j hj => rfl) (hD.fr (by omega)) (by omega) (by omega) (fun q a0 a1 a2 a3 a4 a5 a6 => (k3 q a4 a5 a6).trans (K1 q a3)) ((k3 20 (by omega) (by omega) (by omega)).trans ((K1 20 (by omega)).trans d20)) ((k3 21 (by omega) (by omega) (by omega)).trans ((K1 21 (by omega)).trans d21)) y1 y2 (fun j hj => ⟨rfl, rfl⟩) ?_ ?_ hV hFV ((K3 52 (by omega) (by omega)).trans g2) d52 c53 hA1 hA2 c54 him him2 (s1.trans s2)
      · obtain ⟨F5, G5, z1, z2⟩ := HH
        exact ⟨F5, G5, z1.fr (fun q _ _ => k3 q (by omega) (by omega) (by omega)), z2⟩
      · obtain ⟨n5, f5, z1, z2⟩ := RR
        exact ⟨n5, f5, z1.fr (fun q _ _ => k3 q (by omega) (by omega) (by omega)), z2⟩
  · exact og_cells (og_pure I (c176_x d0 d20 d21 ha) (md_thr rfl rfl rfl rfl d52 (fun h2 g2 hk => m286_x g2 ((hk 53 (by omega)).trans d53) ((hk 54 (by omega)).trans d54) ha)))
