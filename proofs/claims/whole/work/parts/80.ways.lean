/-! WAYS: rows counted on and counted back -/
def gft (nx : Nat → Nat → Nat) (Q : Nat → Nat) (i : Nat) (F : Nat → Nat) : Nat → Nat → Nat
  | 0 => F
  | t + 1 => un (gft nx Q i F t) (nx i t) (gft nx Q i F t (nx i t) + Q i)
def gfi (nx : Nat → Nat → Nat) (T : Nat) (Q : Nat → Nat) : Nat → Nat → Nat
  | 0 => fun _ => 0
  | i + 1 => gft nx Q i (gfi nx T Q i) T
def gfk (nx : Nat → Nat → Nat) (T n a : Nat) : Nat → Nat → Nat
  | 0 => fun p => if p = a then 1 else 0
  | k + 1 => gfi nx T (gfk nx T n a k) n
def gws (nx : Nat → Nat → Nat) (W : Nat → Nat) (i : Nat) : Nat → Nat
  | 0 => 0
  | t + 1 => gws nx W i t + W (nx i t)
def gwk (nx : Nat → Nat → Nat) (T : Nat) (g : Nat → Nat) : Nat → Nat → Nat
  | 0 => g
  | k + 1 => fun p => gws nx (gwk nx T g k) p T
theorem gft_sum {nx : Nat → Nat → Nat} {T n : Nat} {Q F W : Nat → Nat} {i : Nat} (hx : ∀ t, t < T → nx i t < n) : ∀ t, t ≤ T → sm (fun p => gft nx Q i F t p * W p) n = sm (fun p => F p * W p) n + Q i * gws nx W i t
  | 0, _ => by rw [gft, gws, Nat.mul_zero, Nat.add_zero]
  | t + 1, ht => by
    rw [gft, gws, sm_un n (hx t (by omega)), gft_sum hx t (by omega), Nat.mul_add, Nat.add_assoc]
theorem gfi_sum {nx : Nat → Nat → Nat} {T n : Nat} {Q W : Nat → Nat} (hx : ∀ i t, i < n → t < T → nx i t < n) : ∀ i, i ≤ n → sm (fun p => gfi nx T Q i p * W p) n = sm (fun i => Q i * gws nx W i T) i
  | 0, _ => sm_z W n
  | i + 1, hi => by
    rw [gfi, gft_sum (fun t ht => hx i t (by omega) ht) T (Nat.le_refl _), gfi_sum hx i (by omega), sm]
theorem gfk_gwk {nx : Nat → Nat → Nat} {T n a L : Nat} {g : Nat → Nat} (hx : ∀ i t, i < n → t < T → nx i t < n) (ha : a < n) : ∀ k, k ≤ L → sm (fun p => gfk nx T n a k p * gwk nx T g (L - k) p) n = gwk nx T g L a
  | 0, _ => (sm_one (P := gwk nx T g L) (a := a) n).2 ha
  | k + 1, hk => by
    rw [← gfk_gwk hx ha k (by omega), gfk, gfi_sum hx n (Nat.le_refl _)]
    refine sm_cg n (fun i hi => ?_)
    have e : L - k = (L - (k + 1)) + 1 := by omega
    rw [e]
    rfl
theorem gfk_all {nx : Nat → Nat → Nat} {T n a L : Nat} {g : Nat → Nat} (hx : ∀ i t, i < n → t < T → nx i t < n) (ha : a < n) : sm (fun p => gfk nx T n a L p * g p) n = gwk nx T g L a := by
  have := gfk_gwk (g := g) hx ha L (Nat.le_refl _)
  rwa [Nat.sub_self] at this
/-- counted back by places or by what is there -/
theorem gwk_cg {nx ny : Nat → Nat → Nat} {T n : Nat} {g f st : Nat → Nat} (hx : ∀ i t, i < n → t < T → nx i t < n) (hs : ∀ i t, i < n → t < T → st (nx i t) = ny (st i) t) (hg : ∀ i, i < n → g i = f (st i)) : ∀ k i, i < n → gwk nx T g k i = gwk ny T f k (st i)
  | 0, i, hi => hg i hi
  | k + 1, i, hi => by
    show gws nx (gwk nx T g k) i T = gws ny (gwk ny T f k) (st i) T
    have : ∀ t, t ≤ T → gws nx (gwk nx T g k) i t = gws ny (gwk ny T f k) (st i) t := by
      intro t
      induction t with
      | zero => intro _; rfl
      | succ t ih =>
        intro ht
        rw [gws, gws, ih (by omega), gwk_cg hx hs hg k _ (hx i t hi (by omega)), hs i t hi (by omega)]
    exact this T (Nat.le_refl _)
theorem gft_skip {nx : Nat → Nat → Nat} {Q F : Nat → Nat} {i : Nat} (h : Q i % MP = 0) (p : Nat) : ∀ t, gft nx Q i F t p % MP = F p % MP
  | 0 => rfl
  | t + 1 => by
    rw [gft]
    by_cases q : p = nx i t
    · rw [q, un_s, mp_skip h]; exact gft_skip h _ t
    · rw [un_n q]; exact gft_skip h p t
theorem updI_unG {f : Nat → Int32} {y : Nat → Nat} {a v m : Nat} (H : ∀ s, s < m → f s = nI (y s % MP)) : ∀ s, s < m → upd f a (nI (v % MP)) s = nI (un y a v s % MP) := by
  intro s hs
  simp only [upd, un]
  by_cases q : s = a
  · rw [if_pos q, if_pos q]
  · rw [if_neg q, if_neg q]; exact H s hs
def gP (s : Nat) : Nat := if pop s 14 = 1 then 1 else 0
/-- the answer -/
abbrev wys (N : Nat → Nat) (n : Nat) : Nat := gwk (img N) (N 1) gP n (al N)
def pix (B : Bf) (x : Nat) : Nat := ffi (fun j => decide (B.st j = x)) B.m 0
theorem pix_at {B : Bf} {x j : Nat} (hi : ∀ i j, i < B.m → j < B.m → B.st i = B.st j → i = j) (hj : j < B.m) (h : B.st j = x) : pix B x = j :=
  ffi_at B.m 0 j (Nat.zero_le _) (by omega) (decide_eq_true h) (fun i _ h2 z => by
    have := hi i j (by omega) hj ((of_decide_eq_true z).trans h.symm)
    omega)
/-! makes its rows of values once -/
def nv (b : Option Nat) : Nat := match b with | none => 2 | some _ => 0
abbrev VAL (h : ai_H) (n1 n2 : Int32) (pv : Nat) : Prop := h[24]? = some (cSets n1 n2 (.ref pv) (.ref (pv + 1))) ∧ ShI h pv 16384 ∧ ShI h (pv + 1) 16384
theorem s111 {X : ai_X} {h : ai_H} {n1 n2 : Int32} {xa xb : Value} {b : Option Nat} (d24 : h[24]? = some (cSets n1 n2 xa xb)) (hv : (b = none ∧ xa = .null ∧ xb = .null) ∨ ∃ p, b = some p ∧ xa = .ref p ∧ xb = .ref (p + 1) ∧ ShI h p 16384 ∧ ShI h (p + 1) 16384) (hl : 80 ≤ h.length) : Mt X am_111 [.ref 24] h (Qn (nv b) (ns b 32768) (Qv (fun h1 => h1.length = h.length + nv b ∧ (∀ q : Nat, q < h.length → q ≠ 24 → h1[q]? = h[q]?) ∧ VAL h1 n1 n2 (np b h.length)))) := by
  rcases hv with ⟨rfl, rfl, rfl⟩ | ⟨p, rfl, rfl, rfl, s1, s2⟩
  · refine rk_aload_n rfl rfl ?_
    refine rk_get rfl d24 rfl ?_
    refine rk_ifnull_n rfl rfl ?_
    refine rk_aload_n rfl rfl ?_
    refine rk_sipush (v := nI 16384) rfl (by decide) ?_
    refine rk_newa (N := 16384) rfl rfl rfl rfl (by omega) ?_
    refine hp_app (fun h1 l1 k1 g1 => ?_)
    replace d24 := (k1 24 (by omega)).trans d24
    refine rk_put rfl d24 (Nat.le_of_ble_eq_true rfl) ft_8_6 rfl (Or.inl rfl) rfl ?_
    refine hp_gen d24 (fun h2 g2 k2 l2 => ?_)
    refine rk_aload_n rfl rfl ?_
    refine rk_sipush (v := nI 16384) rfl (by decide) ?_
    refine rk_newa (N := 16384) rfl rfl rfl rfl (by omega) ?_
    refine hp_app (fun h3 l3 k3 g3 => ?_)
    replace g2 := (k3 24 (by omega)).trans g2
    refine rk_put rfl g2 (Nat.le_of_ble_eq_true rfl) ft_8_7 rfl (Or.inl rfl) rfl ?_
    refine hp_gen g2 (fun h4 g4 k4 l4 => ?_)
    have e1 : h2.length = h.length + 1 := by omega
    rw [e1] at g3 g4
    refine rk_return rfl rfl ⟨(none, h4, 0, 0), ⟨h4, rfl, ?_, fun q hq h24 => ?_, ?_, ⟨fun _ => 0, ?_⟩, ⟨fun _ => 0, ?_⟩⟩, ?_⟩
    · show h4.length = h.length + 2
      omega
    · rw [k4 q h24, k3 q (by omega), k2 q h24, k1 q hq]
    · exact g4
    · show h4[h.length]? = _
      rw [k4 _ (by omega), k3 _ (by omega), k2 _ (by omega)]; exact g1
    · show h4[h.length + 1]? = _
      rw [k4 _ (by omega)]; exact g3
    · rfl
  · refine Qn_0 ?_
    refine rk_aload_n rfl rfl ?_
    refine rk_get rfl d24 rfl ?_
    refine rk_ifnull_r rfl ?_
    refine rk_aload_n rfl rfl ?_
    refine rk_get rfl d24 rfl ?_
    refine rk_ifnn_r rfl rfl ?_
    exact rk_return rfl rfl ⟨_, rfl, rfl, fun _ _ _ => rfl, d24, s1, s2⟩
theorem s100 {X : ai_X} {h : ai_H} {o p cap n base m : Nat} {sl s1 s2 : Nat → Int32} {st T : Nat → Nat} (S : SX h o p cap n base m sl s1 s2 st T) {x : Nat} (hx : x < 2 ^ 31) (hmn : m < n) (hin : ∃ i, i < m ∧ st i = x) : Mt X am_100 [.ref o, .int (nI x)] h (Qi (fun w h1 => h1 = h ∧ ∃ j, j < m ∧ st j = x ∧ w = nI j)) := by
  obtain ⟨c0, c1, c2, c3, hbase, hmc, hsl, hLP, hst, hn, hcn, hop⟩ := id S
  refine rk_aload_n rfl rfl ?_
  refine rk_iload_n rfl rfl ?_
  refine rk_cv1i rfl rfl (by assumption) rfl rfl (Nat.le_of_ble_eq_true rfl) (Nat.le_of_ble_eq_true rfl) (s99 S hx hmn) (fun w h1 hF => ?_)
  obtain ⟨rfl, e, he, rfl, hp, hT⟩ := hF
  have hs : (hfC n x + e) % n < n := Nat.mod_lt _ (by omega)
  obtain ⟨v, hv, hv1, hv2⟩ := hsl _ hs
  have hT1 : T ((hfC n x + e) % n) ≠ 0 ∧ st (T ((hfC n x + e) % n) - 1) = x := by
    rcases hT with z | z
    · obtain ⟨i, hi, hix⟩ := hin
      exact absurd hix (hLP.miss hp z i hi)
    · exact z
  have hTm := hLP.2.1 _ hs
  refine rk_istore_n rfl (Nat.le_of_ble_eq_true rfl) rfl ?_
  refine rk_iload_n rfl rfl ?_
  refine rk_iconst (v := (-1)) rfl (by decide) ?_
  refine rk_icmp_eq rfl rfl (fun hc6 => ?_) (fun hc6 => ?_)
  · exact absurd hc6 (nm_eq (by omega))
  · refine rk_aload_n rfl rfl ?_
    refine rk_get rfl (by assumption) rfl ?_
    refine rk_iload_n rfl rfl ?_
    refine rk_iald rfl (by assumption) (rfl) (by omega) (by omega) ?_
    rw [hv]
    refine rk_aload_n rfl rfl ?_
    refine rk_get rfl (by assumption) rfl ?_
    refine rk_icmp_gt rfl rfl (fun hc13 => ?_) (fun hc13 => ?_)
    · replace hc13 := (nI_ltI (by omega) (by omega)).mp hc13
      refine rk_aload_n rfl rfl ?_
      refine rk_get rfl (by assumption) rfl ?_
      refine rk_iload_n rfl rfl ?_
      refine rk_iald rfl (by assumption) (rfl) (by omega) (by omega) ?_
      rw [hv]
      refine rk_aload_n rfl rfl ?_
      refine rk_get rfl (by assumption) rfl ?_
      refine rk_isub rfl (pk_sub (by omega)) ?_
      refine rk_iconst (v := nI 1) rfl (by decide) ?_
      refine rk_isub rfl (pk_sub (by omega)) ?_
      exact rk_ireturn rfl rfl ⟨_, _, rfl, rfl, T ((hfC n x + e) % n) - 1, by omega, hT1.2, by rw [hv2]⟩
    · replace hc13 := mt (nI_ltI (by omega) (by omega)).mpr hc13
      omega
theorem s100B {X : ai_X} {h : ai_H} {o p cap n x : Nat} {B : Bf} (S : SB h o p cap n B) (hx : x < 2 ^ 31) (hmn : B.m < n) (hin : ∃ i, i < B.m ∧ B.st i = x) (hi : ∀ i j, i < B.m → j < B.m → B.st i = B.st j → i = j) : Mt X am_100 [.ref o, .int (nI x)] h (Qi (fun w h1 => h1 = h ∧ pix B x < B.m ∧ B.st (pix B x) = x ∧ w = nI (pix B x))) := by
  obtain ⟨base, sl, s1, s2, T, a, b⟩ := S
  refine (s100 a hx hmn hin).mono ?_
  rintro o' ⟨w, h1, rfl, rfl, j, y1, y2, rfl⟩
  rw [pix_at hi y1 y2]
  exact ⟨_, _, rfl, rfl, y1, y2, rfl⟩
/-- what the class's loops over sets stand on -/
def CV (h : ai_H) (N : Nat → Nat) (may : Bool) (n1 n2 : Int32) (p pv : Nat) (B : Bf) : Prop := CH h 3 N ∧ h[24]? = some (cSets n1 n2 (.ref pv) (.ref (pv + 1))) ∧ SB h 22 p 16384 16384 B ∧ IM h (tf N may) (N 1) ∧ 80 ≤ p ∧ 80 ≤ pv ∧ (pv + 2 ≤ p ∨ p + 3 ≤ pv) ∧ B.m < 16384 ∧ (∀ i, i < B.m → B.st i < 16384) ∧ (∀ i j, i < B.m → j < B.m → B.st i = B.st j → i = j)
theorem CV.fr {h h1 : ai_H} {N : Nat → Nat} {may : Bool} {n1 n2 : Int32} {p pv : Nat} {B : Bf} (F : Fr pv (pv + 2) h h1) (H : CV h N may n1 n2 p pv B) : CV h1 N may n1 n2 p pv B := by
  obtain ⟨a, b, c, d, e, f, g, r⟩ := H
  exact ⟨a.fr2 F (by omega), (F.2 24 (by omega)).trans b, c.fr (F.2 22 (by omega)) (fun q _ _ => F.2 q (by omega)), d.fr (F.2 25 (by omega)), e, f, g, r⟩
theorem l113t {X : ai_X} {h : ai_H} {N F : Nat → Nat} {n1 n2 : Int32} {p pv : Nat} {B : Bf} (hN : HN N) (V : CV h N true n1 n2 p pv B) (hcl : ∀ i t, i < B.m → t < N 1 → ∃ j, j < B.m ∧ B.st j = img N (B.st i) t) {i : Nat} {G : Nat → Nat} (hi : i < B.m) (A0 : AN h pv 16384 B.m (fun j => F j % MP)) {P : ai_O → Prop} (z : ∀ g c2 c3, Fr (pv + 1) (pv + 2) h g → AN g (pv + 1) 16384 B.m (fun j => (gft (fun i t => pix B (img N (B.st i) t)) F i G (N 1)) j % MP) → Rk X am_113 54 [some (.ref 24), some (.int (nI i)), c2, c3] [] g P) : ∀ (d : Nat) (t : Nat) (g : ai_H) (c3 : Option Value), N 1 < t + d → (t ≤ N 1) → (Fr (pv + 1) (pv + 2) h g) → (AN g (pv + 1) 16384 B.m (fun j => (gft (fun i t => pix B (img N (B.st i) t)) F i G t) j % MP)) → Rk X am_113 13 [some (.ref 24), some (.int (nI i)), some (.int (nI t)), c3] [] g (P) := by
  intro d
  induction d with
  | zero => intro t g c3 hd ht Fg0 A1; exfalso; omega
  | succ d ih =>
    intro t g c3 hd ht Fg0 A1
    have Fg : Fr pv (pv + 2) h g := Fg0.mono (by omega) (by omega)
    obtain ⟨C, d24, S, I, hp80, hv80, hsep, hBm, hst, hinj⟩ := V.fr Fg
    obtain ⟨base, e22⟩ := S.obj
    have e3 := C.1
    have h6 := hN.t
    have hp14 := hN.p14
    obtain ⟨f0, d0, hf0⟩ := A0.fr (Fg0.2 pv (by omega))
    obtain ⟨f1, d1, hf1⟩ := id A1
    have hq := Nat.mod_lt (F i) (show 0 < MP by decide)
    have hq2 : F i % MP < 2 ^ 31 := Nat.lt_trans hq (by decide)
    have hsi := hst i hi
    refine rk_iload_n rfl rfl ?_
    refine rk_aload_n rfl rfl ?_
    refine rk_get rfl (by assumption) rfl ?_
    refine rk_get rfl (by assumption) rfl ?_
    refine rk_icmp_ge rfl rfl (fun hc17 => ?_) (fun hc17 => ?_)
    · replace hc17 := (nI_leI (by omega) (by omega)).mp hc17
      refine z g _ _ Fg0 ?_
      by_cases y : t = N 1
      · rw [← y]; exact A1
      · refine A1.congr (fun j _ => ?_)
        have hz : F i % MP = 0 := by omega
        rw [gft_skip hz, gft_skip hz]
    · replace hc17 := mt (nI_leI (by omega) (by omega)).mpr hc17
      refine rk_aload_n rfl rfl ?_
      refine rk_get rfl (by assumption) rfl ?_
      refine rk_iload_n rfl rfl ?_
      refine rk_iald rfl (by assumption) (rfl) (by omega) (by decide) ?_
      rw [hf0 i hi]
      refine rk_if_eq rfl rfl (fun hc22 => ?_) (fun hc22 => ?_)
      · replace hc22 := (n0_eq (by omega)).mp hc22
        refine z g _ _ Fg0 ?_
        by_cases y : t = N 1
        · rw [← y]; exact A1
        · refine A1.congr (fun j _ => ?_)
          have hz : F i % MP = 0 := by omega
          rw [gft_skip hz, gft_skip hz]
      · replace hc22 := mt (n0_eq (by omega)).mpr hc22
        refine rk_aload_n rfl rfl ?_
        refine rk_get rfl (by assumption) rfl ?_
        refine rk_aload_n rfl rfl ?_
        refine rk_aload_n rfl rfl ?_
        refine rk_get rfl (by assumption) rfl ?_
        refine rk_iload_n rfl rfl ?_
        refine rk_cv1e rfl rfl (by assumption) rfl rfl (Nat.le_of_ble_eq_true rfl) (Nat.le_of_ble_eq_true rfl) (s98B S hi) ?_
        refine rk_iload_n rfl rfl ?_
        refine rk_cv2e rfl rfl (by assumption) rfl rfl (Nat.le_of_ble_eq_true rfl) (Nat.le_of_ble_eq_true rfl) (s105 hN d24 I hsi (by omega)) ?_
        rw [if_pos rfl]
        have him := img_lt (s := B.st i) (t := t) hN (by omega)
        refine rk_cv1i rfl rfl (by assumption) rfl rfl (Nat.le_of_ble_eq_true rfl) (Nat.le_of_ble_eq_true rfl) (s100B S (x := img N (B.st i) t) (by omega) hBm (hcl i t hi (by omega)) hinj) (fun w h1 hF => ?_)
        obtain ⟨rfl, hj, hjs, rfl⟩ := hF
        refine rk_istore_n rfl (Nat.le_of_ble_eq_true rfl) rfl ?_
        refine rk_iload_n rfl rfl ?_
        refine rk_iconst (v := (-1)) rfl (by decide) ?_
        refine rk_icmp_eq rfl rfl (fun hc36 => ?_) (fun hc36 => ?_)
        · exact absurd hc36 (nm_eq (by omega))
        · refine rk_aload_n rfl rfl ?_
          refine rk_get rfl (by assumption) rfl ?_
          refine rk_iload_n rfl rfl ?_
          refine rk_aload_n rfl rfl ?_
          refine rk_get rfl (by assumption) rfl ?_
          refine rk_iload_n rfl rfl ?_
          refine rk_iald rfl (by assumption) (rfl) (by omega) (by decide) ?_
          rw [hf1 _ hj]
          refine rk_aload_n rfl rfl ?_
          refine rk_get rfl (by assumption) rfl ?_
          refine rk_iload_n rfl rfl ?_
          refine rk_iald rfl (by assumption) (rfl) (by omega) (by decide) ?_
          rw [hf0 i hi]
          refine rk_iadd rfl (nI_add _ _) ?_
          refine rk_ldc rfl ?_
          rw [show (1000000007 : Int32) = nI MP by decide]
          refine rk_irem rfl (nI_ne0 (by decide) (by decide)) rem_mp ?_
          refine rk_iast rfl d1 (rfl) (by omega) (by decide) ?_
          refine hp_gen d1 (fun h1 g1 hk1 hl1 => ?_)
          replace d1 := g1
          refine rk_iinc rfl rfl (n_inc _) rfl ?_
          refine rk_goto rfl rfl ?_
          exact ih (t + 1) _ _ (by omega) (by omega) (Fg0.tr (Fr.mk1 hk1 hl1 (by omega) (by omega))) ⟨_, d1, updI_unG hf1⟩
theorem l113 {X : ai_X} {h : ai_H} {N F : Nat → Nat} {n1 n2 : Int32} {p pv : Nat} {B : Bf} (hN : HN N) (V : CV h N true n1 n2 p pv B) (hcl : ∀ i t, i < B.m → t < N 1 → ∃ j, j < B.m ∧ B.st j = img N (B.st i) t) (A0 : AN h pv 16384 B.m (fun j => F j % MP)) {P : ai_O → Prop} (z : ∀ g c1 c2 c3, Fr (pv + 1) (pv + 2) h g → AN g (pv + 1) 16384 B.m (fun j => (gfi (fun i t => pix B (img N (B.st i) t)) (N 1) F B.m) j % MP) → Rk X am_113 56 [some (.ref 24), c1, c2, c3] [] g P) : ∀ (d : Nat) (i : Nat) (g : ai_H) (c2 c3 : Option Value), B.m < i + d → (i ≤ B.m) → (Fr (pv + 1) (pv + 2) h g) → (AN g (pv + 1) 16384 B.m (fun j => (gfi (fun i t => pix B (img N (B.st i) t)) (N 1) F i) j % MP)) → Rk X am_113 6 [some (.ref 24), some (.int (nI i)), c2, c3] [] g (P) := by
  intro d
  induction d with
  | zero => intro i g c2 c3 hd hi Fg0 A1; exfalso; omega
  | succ d ih =>
    intro i g c2 c3 hd hi Fg0 A1
    have hv80 := V.2.2.2.2.2.1
    have Fg : Fr pv (pv + 2) h g := Fg0.mono (by omega) (by omega)
    obtain ⟨C, d24, S, I, hp80, hv80, hsep, hBm, hst, hinj⟩ := V.fr Fg
    obtain ⟨base, e22⟩ := S.obj
    have e3 := C.1
    have h6 := hN.t
    have hp14 := hN.p14
    refine rk_iload_n rfl rfl ?_
    refine rk_aload_n rfl rfl ?_
    refine rk_get rfl (by assumption) rfl ?_
    refine rk_cv0e rfl rfl (by assumption) rfl rfl (Nat.le_of_ble_eq_true rfl) (Nat.le_of_ble_eq_true rfl) (s97B S) ?_
    refine rk_icmp_ge rfl rfl (fun hc10 => ?_) (fun hc10 => ?_)
    · replace hc10 := (nI_leI (by omega) (by omega)).mp hc10
      have hi2 : i = B.m := by omega
      subst hi2
      exact z g _ _ _ Fg0 A1
    · replace hc10 := mt (nI_leI (by omega) (by omega)).mpr hc10
      refine rk_iconst (v := nI 0) rfl (by decide) ?_
      refine rk_istore_n rfl (Nat.le_of_ble_eq_true rfl) rfl ?_
      refine l113t (h := h) hN V hcl (i := i) (by omega) A0 (fun g2 c2 c3 F2 A2 => ?_) (N 1 + 1) 0 g _ (by omega) (Nat.zero_le _) Fg0 A1
      refine rk_iinc rfl rfl (n_inc _) rfl ?_
      refine rk_goto rfl rfl ?_
      exact ih (i + 1) g2 _ _ (by omega) (by omega) F2 A2
theorem s113 {X : ai_X} {h : ai_H} {N F : Nat → Nat} {n1 n2 : Int32} {p pv : Nat} {B : Bf} (hN : HN N) (V : CV h N true n1 n2 p pv B) (hcl : ∀ i t, i < B.m → t < N 1 → ∃ j, j < B.m ∧ B.st j = img N (B.st i) t) (A0 : AN h pv 16384 B.m (fun j => F j % MP)) (S1 : ShI h (pv + 1) 16384) : Mt X am_113 [.ref 24] h (Qv (fun h1 => Fr pv (pv + 2) h h1 ∧ AN h1 pv 16384 B.m (fun j => (gfi (fun i t => pix B (img N (B.st i) t)) (N 1) F B.m) j % MP) ∧ ShI h1 (pv + 1) 16384)) := by
  obtain ⟨f1, c1⟩ := S1
  have Fg : Fr pv (pv + 2) h h := Fr.rfl'
  obtain ⟨C, d24, S, I, hp80, hv80, hsep, hBm, hst, hinj⟩ := V.fr Fg
  obtain ⟨base, e22⟩ := S.obj
  have e3 := C.1
  have h6 := hN.t
  have hp14 := hN.p14
  refine rk_aload_n rfl rfl ?_
  refine rk_get rfl (by assumption) rfl ?_
  refine rk_iconst (v := nI 0) rfl (by decide) ?_
  refine rk_cs2v rfl rfl rfl (Nat.le_of_ble_eq_true rfl) (Nat.le_of_ble_eq_true rfl) (s292 (v := nI 0) (by decide) c1) (fun h1 hF => ?_)
  obtain ⟨F1, f2, d1, hf1⟩ := hF
  refine rk_iconst (v := nI 0) rfl (by decide) ?_
  refine rk_istore_n rfl (Nat.le_of_ble_eq_true rfl) rfl ?_
  refine l113 (h := h) hN V hcl A0 (fun g c1 c2 c3 F2 A2 => ?_) (B.m + 1) 0 _ _ _ (by omega) (Nat.zero_le _) (F1.mono (by omega) (by omega)) ⟨f2, d1, fun j hj => hf1 j (by omega)⟩
  have Fg2 : Fr pv (pv + 2) h g := F2.mono (by omega) (by omega)
  obtain ⟨C2, d24', S2, I2, -⟩ := V.fr Fg2
  obtain ⟨base2, e22'⟩ := S2.obj
  obtain ⟨fa, ca, hfa⟩ := A2
  obtain ⟨fb, cb, hfb⟩ := A0.fr (F2.2 pv (by omega))
  clear d24 e22
  refine rk_aload_n rfl rfl ?_
  refine rk_get rfl (by assumption) rfl ?_
  refine rk_iconst (v := nI 0) rfl (by decide) ?_
  refine rk_aload_n rfl rfl ?_
  refine rk_get rfl (by assumption) rfl ?_
  refine rk_iconst (v := nI 0) rfl (by decide) ?_
  refine rk_aload_n rfl rfl ?_
  refine rk_get rfl (by assumption) rfl ?_
  refine rk_cv0e rfl rfl (by assumption) rfl rfl (Nat.le_of_ble_eq_true rfl) (Nat.le_of_ble_eq_true rfl) (s97B S2) ?_
  refine rk_cpyI rfl ca cb (by omega) (by omega) (by decide) (by decide) (Nat.le_of_ble_eq_true rfl) ?_
  refine hp_gen cb (fun h2 g2 hk2 hl2 => ?_)
  refine rk_return rfl rfl ⟨_, rfl, Fg2.tr (Fr.mk1 hk2 hl2 (by omega) (by omega)), ⟨_, g2, fun j hj => ?_⟩, fa, (hk2 (pv + 1) (by omega)).trans ca⟩
  rw [va_full (by omega)]
  exact hfa j hj
theorem l112a {X : ai_X} {h : ai_H} {N : Nat → Nat} {n1 n2 : Int32} {p pv : Nat} {B : Bf} (hN : HN N) (V : CV h N true n1 n2 p pv B) (hcl : ∀ i t, i < B.m → t < N 1 → ∃ j, j < B.m ∧ B.st j = img N (B.st i) t) {n : Nat} (hn12 : n ≤ 12) {P : ai_O → Prop} (z : ∀ g c2 c3, Fr pv (pv + 2) h g → AN g pv 16384 B.m (fun j => (gfk (fun i t => pix B (img N (B.st i) t)) (N 1) B.m 0 n) j % MP) → ShI g (pv + 1) 16384 → Rk X am_112 22 [some (.ref 24), some (.int (nI n)), c2, c3] [] g P) : ∀ (d : Nat) (k : Nat) (g : ai_H) (c3 : Option Value), n < k + d → (k ≤ n) → (Fr pv (pv + 2) h g) → (AN g pv 16384 B.m (fun j => (gfk (fun i t => pix B (img N (B.st i) t)) (N 1) B.m 0 k) j % MP)) → (ShI g (pv + 1) 16384) → Rk X am_112 15 [some (.ref 24), some (.int (nI n)), some (.int (nI k)), c3] [] g (P) := by
  intro d
  induction d with
  | zero => intro k g c3 hd hk Fg A1 S1; exfalso; omega
  | succ d ih =>
    intro k g c3 hd hk Fg A1 S1
    obtain ⟨C, d24, S, I, hp80, hv80, hsep, hBm, hst, hinj⟩ := V.fr Fg
    obtain ⟨base, e22⟩ := S.obj
    have e3 := C.1
    have h6 := hN.t
    have hp14 := hN.p14
    refine rk_iload_n rfl rfl ?_
    refine rk_iload_n rfl rfl ?_
    refine rk_icmp_ge rfl rfl (fun hc17 => ?_) (fun hc17 => ?_)
    · replace hc17 := (nI_leI (by omega) (by omega)).mp hc17
      have hk2 : k = n := by omega
      subst hk2
      exact z g _ _ Fg A1 S1
    · replace hc17 := mt (nI_leI (by omega) (by omega)).mpr hc17
      refine rk_aload_n rfl rfl ?_
      refine rk_cv0v rfl rfl (by assumption) rfl rfl (Nat.le_of_ble_eq_true rfl) (Nat.le_of_ble_eq_true rfl) (s113 hN (V.fr Fg) hcl A1 S1) (fun h1 hF => ?_)
      obtain ⟨F3, A3, S3⟩ := hF
      refine rk_iinc rfl rfl (n_inc _) rfl ?_
      refine rk_goto rfl rfl ?_
      exact ih (k + 1) _ _ (by omega) (by omega) (Fg.tr F3) A3 S3
theorem l112b {X : ai_X} {h : ai_H} {N : Nat → Nat} {n1 n2 : Int32} {p pv : Nat} {B : Bf} (hN : HN N) (V : CV h N true n1 n2 p pv B) (hcl : ∀ i t, i < B.m → t < N 1 → ∃ j, j < B.m ∧ B.st j = img N (B.st i) t) {n : Nat} (hn12 : n ≤ 12) (A0 : AN h pv 16384 B.m (fun j => (gfk (fun i t => pix B (img N (B.st i) t)) (N 1) B.m 0 n) j % MP)) (h0 : 0 < B.m) : ∀ (d : Nat) (j : Nat), B.m < j + d → (j ≤ B.m) → Rk X am_112 26 [some (.ref 24), some (.int (nI n)), some (.int (nI (sm (fun i => (gfk (fun i t => pix B (img N (B.st i) t)) (N 1) B.m 0 n) i * gP (B.st i)) j % MP))), some (.int (nI j))] [] h (Qe (nI (gwk (img N) (N 1) gP n (B.st 0) % MP)) h) := by
  intro d
  induction d with
  | zero => intro j hd hj; exfalso; omega
  | succ d ih =>
    intro j hd hj
    have Fg : Fr pv (pv + 2) h h := Fr.rfl'
    obtain ⟨C, d24, S, I, hp80, hv80, hsep, hBm, hst, hinj⟩ := V.fr Fg
    obtain ⟨base, e22⟩ := S.obj
    have e3 := C.1
    have h6 := hN.t
    have hp14 := hN.p14
    obtain ⟨f0, d0, hf0⟩ := id A0
    have hpl := pop_le (B.st j) 14
    have b1 := Nat.mod_lt (sm (fun i => (gfk (fun i t => pix B (img N (B.st i) t)) (N 1) B.m 0 n) i * gP (B.st i)) j) (show 0 < MP by decide)
    refine rk_iload_n rfl rfl ?_
    refine rk_aload_n rfl rfl ?_
    refine rk_get rfl (by assumption) rfl ?_
    refine rk_cv0e rfl rfl (by assumption) rfl rfl (Nat.le_of_ble_eq_true rfl) (Nat.le_of_ble_eq_true rfl) (s97B S) ?_
    refine rk_icmp_ge rfl rfl (fun hc30 => ?_) (fun hc30 => ?_)
    · replace hc30 := (nI_leI (by omega) (by omega)).mp hc30
      refine rk_iload_n rfl rfl ?_
      have hj2 : j = B.m := by omega
      subst hj2
      refine rk_ireturn rfl rfl (Qe_of ?_)
      have hx : ∀ i t, i < B.m → t < N 1 → (fun i t => pix B (img N (B.st i) t)) i t < B.m := fun i t hi ht => by
        obtain ⟨q, q1, q2⟩ := hcl i t hi ht
        show pix B (img N (B.st i) t) < B.m
        rw [pix_at hinj q1 q2]; exact q1
      have hs : ∀ i t, i < B.m → t < N 1 → B.st ((fun i t => pix B (img N (B.st i) t)) i t) = img N (B.st i) t := fun i t hi ht => by
        obtain ⟨q, q1, q2⟩ := hcl i t hi ht
        show B.st (pix B (img N (B.st i) t)) = _
        rw [pix_at hinj q1 q2]; exact q2
      rw [gfk_all (g := fun i => gP (B.st i)) hx h0, gwk_cg (f := gP) (st := B.st) hx hs (fun _ _ => rfl) n 0 h0]
    · replace hc30 := mt (nI_leI (by omega) (by omega)).mpr hc30
      refine rk_aload_n rfl rfl ?_
      refine rk_get rfl (by assumption) rfl ?_
      refine rk_iload_n rfl rfl ?_
      refine rk_cv1e rfl rfl (by assumption) rfl rfl (Nat.le_of_ble_eq_true rfl) (Nat.le_of_ble_eq_true rfl) (s98B S (by omega)) ?_
      have hsj := hst j (by omega)
      refine rk_cs1e rfl rfl rfl (Nat.le_of_ble_eq_true rfl) (Nat.le_of_ble_eq_true rfl) (s290 (by omega)) ?_
      refine rk_iconst (v := nI 1) rfl (by decide) ?_
      refine rk_icmp_ne rfl rfl (fun hc37 => ?_) (fun hc37 => ?_)
      · replace hc37 := mt (nI_eq (by omega) (by omega)).mpr hc37
        refine rk_iinc rfl rfl (n_inc _) rfl ?_
        refine rk_goto rfl rfl ?_
        first
          | (have hg1 : gP (B.st j) = 1 := if_pos hc37
             have zz := ih (j + 1) (by omega) (by omega)
             rw [sm, hg1, Nat.mul_one] at zz
             exact zz)
          | (have hg0 : gP (B.st j) = 0 := if_neg hc37
             have zz := ih (j + 1) (by omega) (by omega)
             rw [sm, hg0, Nat.mul_zero, Nat.add_zero] at zz
             exact zz)
      · replace hc37 := Decidable.not_not.mp hc37
        replace hc37 := (nI_eq (by omega) (by omega)).mp hc37
        refine rk_iload_n rfl rfl ?_
        refine rk_aload_n rfl rfl ?_
        refine rk_get rfl (by assumption) rfl ?_
        refine rk_iload_n rfl rfl ?_
        refine rk_iald rfl (by assumption) (rfl) (by omega) (by decide) ?_
        rw [hf0 j (by omega)]
        refine rk_iadd rfl (nI_add _ _) ?_
        refine rk_ldc rfl ?_
        rw [show (1000000007 : Int32) = nI MP by decide]
        refine rk_irem rfl (nI_ne0 (by decide) (by decide)) rem_mp ?_
        refine rk_istore_n rfl (Nat.le_of_ble_eq_true rfl) rfl ?_
        refine rk_iinc rfl rfl (n_inc _) rfl ?_
        refine rk_goto rfl rfl ?_
        first
          | (have hg1 : gP (B.st j) = 1 := if_pos hc37
             have zz := ih (j + 1) (by omega) (by omega)
             rw [sm, hg1, Nat.mul_one] at zz
             exact zz)
          | (have hg0 : gP (B.st j) = 0 := if_neg hc37
             have zz := ih (j + 1) (by omega) (by omega)
             rw [sm, hg0, Nat.mul_zero, Nat.add_zero] at zz
             exact zz)
theorem Qn_Qn {c s c1 s1 : Nat} {P : ai_O → Prop} {o : ai_O} (h : Qn c s (Qn c1 s1 P) o) : Qn (c + c1) (s + s1) P o := by
  obtain ⟨o1, ⟨o2, h2, rfl⟩, rfl⟩ := h
  exact ⟨o2, h2, by simp only [ai_add, Nat.add_assoc]⟩
theorem Qn_m {c s : Nat} {P Q : ai_O → Prop} {o : ai_O} (i : ∀ o, P o → Q o) (h : Qn c s P o) : Qn c s Q o := by
  obtain ⟨o1, h1, e⟩ := h
  exact ⟨o1, i o1 h1, e⟩
/-- what a call has left that searched and made its rows of values -/
def CVE (h h1 : ai_H) (b2 b4 : Option Nat) : Prop := h1.length = h.length + nc b2 + nv b4 ∧ (∀ q : Nat, q < h.length → q ≠ 22 → q ≠ 24 → q ≠ 25 → q ≠ 26 → ¬ (np b2 h.length ≤ q ∧ q < np b2 h.length + 3) → ¬ (np b4 (h.length + nc b2) ≤ q ∧ q < np b4 (h.length + nc b2) + 2) → h1[q]? = h[q]?) ∧ SrchAt h1 22 16384 16384 (some (np b2 h.length)) ∧ (∃ n1 n2, VAL h1 n1 n2 (np b4 (h.length + nc b2))) ∧ ∃ f, h1[25]? = some (cI 1536 f) ∧ ∀ j, j < 12 → f (128 * j) = 0
theorem np_sep {h : ai_H} {b : Nat → Option Nat} (hD : DynOk h b) (h80 : 80 ≤ h.length) : 80 ≤ np (b 2) h.length ∧ 80 ≤ np (b 4) (h.length + nc (b 2)) ∧ (np (b 4) (h.length + nc (b 2)) + 2 ≤ np (b 2) h.length ∨ np (b 2) h.length + 3 ≤ np (b 4) (h.length + nc (b 2))) := by
  cases e2 : b 2 with
  | none =>
    cases e4 : b 4 with
    | none => show 80 ≤ h.length ∧ 80 ≤ h.length + 3 ∧ (h.length + 3 + 2 ≤ h.length ∨ h.length + 3 ≤ h.length + 3); omega
    | some q =>
      have := hD 4 q (by omega) e4
      rw [show blN 4 = 2 from rfl] at this
      show 80 ≤ h.length ∧ 80 ≤ q ∧ (q + 2 ≤ h.length ∨ h.length + 3 ≤ q)
      omega
  | some p =>
    have h2 := hD 2 p (by omega) e2
    cases e4 : b 4 with
    | none =>
      rw [show blN 2 = 3 from rfl] at h2
      show 80 ≤ p ∧ 80 ≤ h.length + 0 ∧ (h.length + 0 + 2 ≤ p ∨ p + 3 ≤ h.length + 0)
      omega
    | some q =>
      have h4 := hD 4 q (by omega) e4
      have := h2.2.2 4 q (by omega) (by omega) e4
      rw [show blN 2 = 3 from rfl, show blN 4 = 2 from rfl] at this
      show 80 ≤ p ∧ 80 ≤ q ∧ (q + 2 ≤ p ∨ p + 3 ≤ q)
      omega
theorem s112 {X : ai_X} {h : ai_H} {N : Nat → Nat} {n1 n2 : Int32} {xa xb : Value} {f25 : Nat → Int32} {b : Nat → Option Nat} {n : Nat} (hN : HN N) (C : CH h 3 N) (d24 : h[24]? = some (cSets n1 n2 xa xb)) (hvals : (b 4 = none ∧ xa = .null ∧ xb = .null) ∨ ∃ p, b 4 = some p ∧ xa = .ref p ∧ xb = .ref (p + 1) ∧ ShI h p 16384 ∧ ShI h (p + 1) 16384) (c25 : h[25]? = some (cI 1536 f25)) (hf : ∀ j, j < 12 → f25 (128 * j) = 0) (h0 : ¬ N 0 = 0) (S : SrchAt h 22 16384 16384 (b 2)) (hD : DynOk h b) (h80 : 80 ≤ h.length) (hn12 : n ≤ 12) : Mt X am_112 [.ref 24, .int (nI n)] h (Qn (nc (b 2)) (ns (b 2) 49152) (Qn (nv (b 4)) (ns (b 4) 32768) (Qi (fun w h1 => w = nI (wys N n % MP) ∧ CVE h h1 (b 2) (b 4))))) := by
  have hb2 : ∀ p, b 2 = some p → 80 ≤ p := fun p e => (hD 2 p (by omega) e).1
  obtain ⟨q1, q2, q3⟩ := np_sep hD h80
  refine rk_aload_n rfl rfl ?_
  refine rk_cq0v rfl rfl d24 rfl rfl (Nat.le_of_ble_eq_true rfl) (Nat.le_of_ble_eq_true rfl) (s109 hN C d24 c25 hf h0 S hb2 h80) (fun h1 hF => ?_)
  obtain ⟨y1, y2, y3, y4⟩ := hF
  obtain ⟨b1, b2', b3⟩ := bz_bd hN h0
  have e24 := (y2 24 (by omega) (by omega) (by omega) (by omega)).trans d24
  have hv' : (b 4 = none ∧ xa = .null ∧ xb = .null) ∨ ∃ p, b 4 = some p ∧ xa = .ref p ∧ xb = .ref (p + 1) ∧ ShI h1 p 16384 ∧ ShI h1 (p + 1) 16384 := by
    rcases hvals with z | ⟨p, e1, e2, e3, e4, e5⟩
    · exact Or.inl z
    · have hd := hD 4 p (by omega) e1
      rw [show blN 4 = 2 from rfl] at hd
      have hsp : ¬ (np (b 2) h.length ≤ p ∧ p < np (b 2) h.length + 3) ∧ ¬ (np (b 2) h.length ≤ p + 1 ∧ p + 1 < np (b 2) h.length + 3) := by
        rw [e1] at q3
        have : p + 2 ≤ np (b 2) h.length ∨ np (b 2) h.length + 3 ≤ p := q3
        omega
      exact Or.inr ⟨p, e1, e2, e3, e4.fr (y2 p (by omega) (by omega) (by omega) hsp.1), e5.fr (y2 (p + 1) (by omega) (by omega) (by omega) hsp.2)⟩
  refine rk_aload_n rfl rfl ?_
  refine rk_cq0v rfl rfl e24 rfl rfl (Nat.le_of_ble_eq_true rfl) (Nat.le_of_ble_eq_true rfl) (s111 e24 hv' (by omega)) (fun h2 hF => ?_)
  obtain ⟨x1, x2, x3, ⟨f4, x4⟩, f5, x5⟩ := hF
  rw [y1] at x3 x4 x5
  generalize hpv : np (b 4) (h.length + nc (b 2)) = pv at *
  generalize hpp : np (b 2) h.length = pp at *
  have kk : ∀ q : Nat, q < h.length → q ≠ 22 → q ≠ 24 → q ≠ 25 → ¬ (pp ≤ q ∧ q < pp + 3) → h2[q]? = h[q]? := fun q a1 a2 a3 a4 a5 => (x2 q (by omega) a3).trans (y2 q a1 a2 a4 a5)
  have hlp : pp + 3 ≤ h1.length := by
    rw [y1, ← hpp]
    cases e2 : b 2 with
    | none => exact Nat.le_refl _
    | some p =>
      have := (hD 2 p (by omega) e2).2.1
      exact this
  have S2 : SB h2 22 pp 16384 16384 (bz N) := y4.fr (x2 22 (by omega) (by omega)) (fun q a1 a2 => x2 q (by omega) (by omega))
  have I2 : IM h2 (tf N true) (N 1) := y3.fr (x2 25 (by omega) (by omega))
  have C2 : CH h2 3 N := C.fr (fun q a1 a2 => kk q (by omega) (by omega) (by omega) (by omega) (by omega))
  have V : CV h2 N true n1 n2 pp pv (bz N) := ⟨C2, x3, S2, I2, q1, q2, q3, b2', b1, b3.2.2.1⟩
  have hC : BC (img N) (N 1) (bz N) := BC.of (fun _ => rfl) (Nat.le_of_lt b2')
  have hcl : ∀ i t, i < (bz N).m → t < N 1 → ∃ j, j < (bz N).m ∧ (bz N).st j = img N ((bz N).st i) t := fun i t hi ht => by
    obtain ⟨j, j1, j2, -⟩ := hC.2 i t hi ht
    exact ⟨j, j1, j2⟩
  generalize hB : bz N = B at *
  refine rk_aload_n rfl rfl ?_
  refine rk_get rfl x3 rfl ?_
  refine rk_iconst (v := nI 0) rfl (by decide) ?_
  refine rk_cs2v rfl rfl rfl (Nat.le_of_ble_eq_true rfl) (Nat.le_of_ble_eq_true rfl) (s292 (by decide) x4) (fun h3 hF => ?_)
  obtain ⟨F3, f6, g3, hf6⟩ := hF
  have e3 := (F3.2 24 (by omega)).trans x3
  refine rk_aload_n rfl rfl ?_
  refine rk_get rfl e3 rfl ?_
  refine rk_iconst (v := nI 0) rfl (by decide) ?_
  refine rk_iconst (v := nI 1) rfl (by decide) ?_
  refine rk_iast rfl g3 rfl (by omega) (by decide) ?_
  refine hp_gen g3 (fun h4 g4 k4 l4 => ?_)
  have F4 : Fr pv (pv + 2) h2 h4 := (F3.mono (by omega) (by omega)).tr (Fr.mk1 k4 l4 (by omega) (by omega))
  refine rk_iconst (v := nI 0) rfl (by decide) ?_
  refine rk_istore_n rfl (Nat.le_of_ble_eq_true rfl) rfl ?_
  refine l112a (h := h2) hN V hcl hn12 (fun g c2 c3 F5 A5 hsh5 => ?_) (n + 1) 0 _ _ (by omega) (Nat.zero_le _) F4 ⟨_, g4, fun j hj => ?_⟩ ⟨f5, ((k4 (pv + 1) (by omega)).trans (F3.2 (pv + 1) (by omega))).trans x5⟩
  · refine rk_iconst (v := nI 0) rfl (by decide) ?_
    refine rk_istore_n rfl (Nat.le_of_ble_eq_true rfl) rfl ?_
    refine rk_iconst (v := nI 0) rfl (by decide) ?_
    refine rk_istore_n rfl (Nat.le_of_ble_eq_true rfl) rfl ?_
    refine (l112b hN (V.fr F5) hcl hn12 A5 b3.1 (B.m + 1) 0 (by omega) (Nat.zero_le _)).mono ?_
    rintro o ⟨w, h5, rfl, rfl, rfl⟩
    obtain ⟨C6, d6, S6, ⟨f, i1, i2, -⟩, -⟩ := V.fr F5
    refine ⟨_, _, rfl, by rw [b3.2.1], ?_⟩
    obtain ⟨f9, c9, -⟩ := A5
    refine ⟨by rw [F5.1, x1, y1], fun q a1 a2 a3 a4 a5 a6 a7 => ?_, ?_, ⟨n1, n2, ?_⟩, f, i1, i2⟩
    · rw [hpv] at a7
      rw [hpp] at a6
      exact (F5.2 q (by omega)).trans (kk q a1 a2 a3 a4 a6)
    · rw [hpp]; exact S6.at'
    · rw [hpv]
      exact ⟨d6, ⟨f9, c9⟩, hsh5⟩
  · simp only [upd]
    by_cases y : j = 0
    · rw [if_pos y, show gfk (fun i t => pix B (img N (B.st i) t)) (N 1) B.m 0 0 j = 1 from if_pos y]; rfl
    · rw [if_neg y, hf6 j (by omega), show gfk (fun i t => pix B (img N (B.st i) t)) (N 1) B.m 0 0 j = 0 from if_neg y]; rfl
