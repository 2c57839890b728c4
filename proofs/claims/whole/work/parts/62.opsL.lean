/-! digest -/
def hN (φ : Nat → Int32) (h : Int64) : Nat → Int64
  | 0 => h
  | m + 1 => 31 * hN φ h m + (φ m).toInt64
theorem hN_congr {φ ψ : Nat → Int32} {h : Int64} : ∀ m : Nat, (∀ j, j < m → φ j = ψ j) → hN φ h m = hN ψ h m
  | 0, _ => rfl
  | m + 1, e => by
    show 31 * hN φ h m + (φ m).toInt64 = 31 * hN ψ h m + (ψ m).toInt64
    rw [hN_congr m (fun j hj => e j (by omega)), e m (by omega)]
theorem dg_n {T : TT} {nc : Nat} (hc : nc ≤ 6) (h9 : T.2.1 0 9 = nI nc) (h : Int64) : ∀ (q j n : Nat), j + q = 6 * nc → q < n → m_X10_digest_l103 n T (hN (T.1 0 5) h j) (nI j) = m_X10_digest_b152 T (hN (T.1 0 5) h (6 * nc)) := by
  have e0 : nI nc * 6 = nI (6 * nc) := by rw [Nat.mul_comm]; exact mu_n nc 6
  intro q
  induction q with
  | zero =>
    intro j n hj hn
    obtain ⟨n, rfl⟩ : ∃ q, n = q + 1 := ⟨n - 1, by omega⟩
    show m_X10_digest_h103 _ _ _ _ = _
    unfold m_X10_digest_h103
    rw [h9, e0, if_pos (nI_le (by omega) (by omega)), show j = 6 * nc by omega]
  | succ q ih =>
    intro j n hj hn
    obtain ⟨n, rfl⟩ : ∃ q, n = q + 1 := ⟨n - 1, by omega⟩
    show m_X10_digest_h103 _ _ _ _ = _
    unfold m_X10_digest_h103
    have h36 : ¬ (36 : Int32) ≤ nI j := nI_ge (b := 36) (by omega) (by decide)
    rw [h9, e0, if_neg (nI_ge (by omega) (by omega)), if_neg h36, if_pos (inb_n (by omega) (by decide)), bT_v, bT_v, cl_n (by omega), nI_1]
    exact ih (j + 1) n (by omega) (by omega)
theorem dg_t {T : TT} {tc : Nat} (hc : tc ≤ 4) (h10 : T.2.1 0 10 = nI tc) (h : Int64) : ∀ (q j n : Nat), j + q = 3 * tc → q < n → m_X10_digest_l154 n T (hN (T.1 0 6) h j) (nI j) = m_X10_digest_b202 T (hN (T.1 0 6) h (3 * tc)) := by
  have e0 : nI tc * 3 = nI (3 * tc) := by rw [Nat.mul_comm]; exact mu_n tc 3
  intro q
  induction q with
  | zero =>
    intro j n hj hn
    obtain ⟨n, rfl⟩ : ∃ q, n = q + 1 := ⟨n - 1, by omega⟩
    show m_X10_digest_h154 _ _ _ _ = _
    unfold m_X10_digest_h154
    rw [h10, e0, if_pos (nI_le (by omega) (by omega)), show j = 3 * tc by omega]
  | succ q ih =>
    intro j n hj hn
    obtain ⟨n, rfl⟩ : ∃ q, n = q + 1 := ⟨n - 1, by omega⟩
    show m_X10_digest_h154 _ _ _ _ = _
    unfold m_X10_digest_h154
    have h12 : ¬ (12 : Int32) ≤ nI j := nI_ge (b := 12) (by omega) (by decide)
    rw [h10, e0, if_neg (nI_ge (by omega) (by omega)), if_neg h12, if_pos (inb_n (by omega) (by decide)), bT_v, bT_v, cl_n (by omega), nI_1]
    exact ih (j + 1) n (by omega) (by omega)
theorem dg_s {T : TT} {o N : Nat} (hN1 : o + N ≤ 175) (h : Int64) : ∀ (q j n : Nat), j + q = N → q < n → m_X11_sums_l6 T n (nI o) (nI N) (hN (fun j => T.1 10 1 (o + j)) h j) (nI j) = some (hN (fun j => T.1 10 1 (o + j)) h N) := by
  intro q
  induction q with
  | zero =>
    intro j n hj hn
    obtain ⟨n, rfl⟩ : ∃ q, n = q + 1 := ⟨n - 1, by omega⟩
    show m_X11_sums_h6 _ _ _ _ _ _ = _
    unfold m_X11_sums_h6
    rw [if_pos (nI_le (by omega) (by omega)), show j = N by omega]
  | succ q ih =>
    intro j n hj hn
    obtain ⟨n, rfl⟩ : ∃ q, n = q + 1 := ⟨n - 1, by omega⟩
    show m_X11_sums_h6 _ _ _ _ _ _ = _
    unfold m_X11_sums_h6
    rw [if_neg (nI_ge (by omega) (by omega)), ad_n, if_pos (inb_n (by omega) (by decide)), bT_v, bT_v, cl_n (by omega), nI_1]
    exact ih (j + 1) n (by omega) (by omega)
theorem dg_d {n : Nat} {T : TT} (hI : Inv n T) {sz nc tc uc dy : Nat} (hR : RK T 0 (T.1 10 1) (99 * n) sz nc tc uc dy) : ∀ (q j m m' : Nat) (h : Int64), j + q = sz → q < m → q < m' → ∃ r, m_X10_digest_l33 m T h (nI j) = some (r, T) ∧ m_X11_digest_l33 T m' h (nI j) = some r := by
  obtain ⟨⟨b1, b2, b3, b4, b5⟩, ⟨i1, i2, i3, i4, i5⟩, ⟨j1, j2, j3, j4, j5⟩, hd, hno, htr, hpa⟩ := hR
  intro q
  induction q with
  | zero =>
    intro j m m' h hj hm hm'
    obtain ⟨m, rfl⟩ : ∃ q, m = q + 1 := ⟨m - 1, by omega⟩
    obtain ⟨m', rfl⟩ : ∃ q, m' = q + 1 := ⟨m' - 1, by omega⟩
    have hj : j = sz := by omega
    subst hj
    have a1 := dg_n b2 i3 h (6 * nc) 0 FU (by omega) (FU_lt (by omega))
    have a2 := dg_t b3 i4 (hN (T.1 0 5) h (6 * nc)) (3 * tc) 0 FU (by omega) (FU_lt (by omega))
    have a3 := dg_s (T := T) (o := 23) (N := 6 * nc) (by omega) h (6 * nc) 0 FU (by omega) (FU_lt (by omega))
    have en : hN (fun j => T.1 10 1 (23 + j)) h (6 * nc) = hN (T.1 0 5) h (6 * nc) := hN_congr _ (fun j hj => (hno.1 j hj).symm)
    rw [en] at a3
    have a4 := dg_s (T := T) (o := 59) (N := 3 * tc) (by omega) (hN (T.1 0 5) h (6 * nc)) (3 * tc) 0 FU (by omega) (FU_lt (by omega))
    have et : hN (fun j => T.1 10 1 (59 + j)) (hN (T.1 0 5) h (6 * nc)) (3 * tc) = hN (T.1 0 6) (hN (T.1 0 5) h (6 * nc)) (3 * tc) := hN_congr _ (fun j hj => (htr.1 j hj).symm)
    rw [et] at a4
    refine ⟨31 * (31 * hN (T.1 0 6) (hN (T.1 0 5) h (6 * nc)) (3 * tc) + T.2.2.1 4 9) + T.2.2.1 4 10, ?_, ?_⟩
    · show m_X10_digest_h33 _ _ _ _ = _
      unfold m_X10_digest_h33
      rw [i1, if_pos (nI_le (Nat.le_refl _) (by omega))]
      refine a1.trans (Eq.trans a2 ?_)
      unfold m_X10_digest_b202
      rw [bT_v]
    · show m_X11_digest_h33 _ _ _ _ = _
      unfold m_X11_digest_h33 m_X11_many
      have e6 : (6 : Int32) * nI nc = nI (6 * nc) := mu_n 6 nc
      have e3 : (3 : Int32) * nI tc = nI (3 * tc) := mu_n 3 tc
      rw [Option.bind_some, j1, if_pos (nI_le (Nat.le_refl _) (by omega)), j3, j4, e6, e3, show m_X11_sums T h 23 (nI (6 * nc)) = _ from a3, Option.bind_some, show m_X11_sums T (hN (T.1 0 5) h (6 * nc)) 59 (nI (3 * tc)) = _ from a4, Option.bind_some, hI.2.2.2.2.2.1, hI.2.2.2.2.2.2]
  | succ q ih =>
    intro j m m' h hj hm hm'
    obtain ⟨m, rfl⟩ : ∃ q, m = q + 1 := ⟨m - 1, by omega⟩
    obtain ⟨m', rfl⟩ : ∃ q, m' = q + 1 := ⟨m' - 1, by omega⟩
    obtain ⟨⟨k, hk, k1, k2⟩, ⟨g, hg, g1, g2⟩, m1⟩ := hd j (by omega)
    obtain ⟨r, z1, z2⟩ := ih (j + 1) m m' (31 * (31 * (31 * h + (nI k).toInt64) + (nI g).toInt64) + (T.1 0 4 j).toInt64) (by omega) (by omega) (by omega)
    have e4 : (4 : Int32) + nI j = nI (4 + j) := ad_n 4 j
    have e10 : (10 : Int32) + nI j = nI (10 + j) := ad_n 10 j
    refine ⟨r, ?_, ?_⟩
    · show m_X10_digest_h33 _ _ _ _ = _
      unfold m_X10_digest_h33
      rw [i1, if_neg (nI_ge (by omega) (by omega)), if_pos (inb_n (by omega) (by decide)), bT_v, if_pos (inb_n (by omega) (by decide)), bT_v, if_pos (inb_n (by omega) (by decide)), bT_v, bT_v, cl_n (by omega), nI_1, k1, g1]
      exact z1
    · show m_X11_digest_h33 _ _ _ _ = _
      unfold m_X11_digest_h33 m_X11_many
      rw [Option.bind_some, j1, if_neg (nI_ge (by omega) (by omega)), kind_m (by omega), Option.bind_some, e4, e10, if_pos (inb_n (by omega) (by decide)), if_pos (inb_n (by omega) (by decide)), bT_v, bT_v, cl_n (by omega), cl_n (by omega), nI_1, k2, g2, ← m1]
      exact z2
theorem dg_c {n : Nat} {T : TT} (hI : Inv n T) {sz nc tc uc dy : Nat} (hR : RK T 0 (T.1 10 1) (99 * n) sz nc tc uc dy) : ∀ (q j m m' : Nat) (h : Int64), j + q = 8 → q < m → q < m' → ∃ r, m_X10_digest_l6 m T h (nI j) = some (r, T) ∧ m_X11_digest_l6 T m' h (nI j) = some r := by
  intro q
  induction q with
  | zero =>
    intro j m m' h hj hm hm'
    obtain ⟨m, rfl⟩ : ∃ q, m = q + 1 := ⟨m - 1, by omega⟩
    obtain ⟨m', rfl⟩ : ∃ q, m' = q + 1 := ⟨m' - 1, by omega⟩
    have hj : j = 8 := by omega
    subst hj
    have hsz := hR.1.1
    obtain ⟨r, z1, z2⟩ := dg_d hI hR sz 0 FU FU h (by omega) (FU_lt (by omega)) (FU_lt (by omega))
    refine ⟨r, ?_, ?_⟩
    · show m_X10_digest_h6 _ _ _ _ = _
      unfold m_X10_digest_h6
      rw [if_pos (by decide)]
      exact z1
    · show m_X11_digest_h6 _ _ _ _ = _
      unfold m_X11_digest_h6
      rw [if_pos (by decide)]
      exact z2
  | succ q ih =>
    intro j m m' h hj hm hm'
    obtain ⟨m, rfl⟩ : ∃ q, m = q + 1 := ⟨m - 1, by omega⟩
    obtain ⟨m', rfl⟩ : ∃ q, m' = q + 1 := ⟨m' - 1, by omega⟩
    obtain ⟨c, c1, c2⟩ := count_c hI j (by omega)
    obtain ⟨r, z1, z2⟩ := ih (j + 1) m m' (31 * h + c.toInt64) (by omega) (by omega) (by omega)
    have h8 : ¬ (8 : Int32) ≤ nI j := nI_ge (b := 8) (by omega) (by decide)
    refine ⟨r, ?_, ?_⟩
    · show m_X10_digest_h6 _ _ _ _ = _
      unfold m_X10_digest_h6
      rw [if_neg h8, c1, Option.bind_some, bT_v, bT_v, nI_1]
      exact z1
    · show m_X11_digest_h6 _ _ _ _ = _
      unfold m_X11_digest_h6
      rw [if_neg h8, c2, Option.bind_some, bT_v, bT_v, nI_1]
      exact z2
theorem op_digest {n : Nat} {T : TT} (hn : n < 64) (h : Inv n T) : ∃ r, m_X10_digest T = some (r, T) ∧ m_X11_digest T = some r ∧ Inv (n + 1) T := by
  obtain ⟨sz, nc, tc, uc, dy, hR⟩ := h.t0
  obtain ⟨r, z1, z2⟩ := dg_c h hR 8 0 FU FU 1433 (by omega) (FU_lt (by omega)) (FU_lt (by omega))
  exact ⟨r, z1, z2, h.keep hn Fr.rf⟩
/-! years by a seed -/
def nx (X : Nat) : Nat := (X * 1103515245 + 12345) % 2147483648
theorem nx_lt (X : Nat) : nx X < 2147483648 := Nat.mod_lt _ (by decide)
theorem nx_v {X : Nat} (hX : X < 2147483648) : (lN X * (1103515245 : Int64) + (12345 : Int64)) - (lN X * (1103515245 : Int64) + (12345 : Int64)) / (2147483648 : Int64) * (2147483648 : Int64) = lN (nx X) := by
  have e : lN X * (1103515245 : Int64) + (12345 : Int64) = lN (X * 1103515245 + 12345) := by
    rw [show lN X * (1103515245 : Int64) = lN (X * 1103515245) from lN_mul X 1103515245]
    exact lN_add _ 12345
  rw [e]
  exact pk_lRem (b := 2147483648) (by omega) (by decide) (by decide)
def chN (X : Nat) : Nat := X / 65536 % 3
theorem ch_n {X : Nat} (hX : X < 2147483648) : ((lN X / (65536 : Int64)) - (lN X / (65536 : Int64)) / (3 : Int64) * (3 : Int64)).toInt32 = nI (chN X) := by
  have e : lN X / (65536 : Int64) = lN (X / 65536) := pk_lDiv (b := 65536) (by omega) (by decide) (by decide)
  have e2 : lN (X / 65536) - lN (X / 65536) / (3 : Int64) * (3 : Int64) = lN (chN X) := pk_lRem (b := 3) (by omega) (by decide) (by decide)
  rw [e, e2, lN_i]
def nxI (X : Nat) : Nat → Nat
  | 0 => X
  | j + 1 => nx (nxI X j)
theorem nxI_lt {X : Nat} (hX : X < 2147483648) : ∀ j, nxI X j < 2147483648
  | 0 => hX
  | j + 1 => nx_lt _
def chD (X : Nat) : Nat → Nat := fun i => chN (nxI X (i + 1))
theorem chD_lt (X i : Nat) : chD X i < 3 := Nat.mod_lt _ (by decide)
def yS (kv : Nat → Nat) (sz : Nat) : Nat → (Nat → Nat) → Nat → Nat → Int32 → Int32
  | 0, _, _, _, s => s
  | m + 1, gv, X, dy, s => yS kv sz m (dGr kv (chD X) gv) (nxI X sz) (dy + 1) (s + sm (dRu kv (chD X) gv dy) sz)
theorem dP_s {kv ch gv : Nat → Nat} {j i : Nat} (h : i ≠ j) : dP kv ch gv (j + 1) i = dP kv ch gv j i := by
  unfold dP
  by_cases h2 : i < j
  · rw [if_pos h2, if_pos (by omega)]
  · rw [if_neg h2, if_neg (by omega)]
theorem mP_s {kv ch gv : Nat → Nat} {mv : Nat → Int32} {dy j i : Nat} (h : i ≠ j) : mP kv ch gv mv dy (j + 1) i = mP kv ch gv mv dy j i := by
  unfold mP
  by_cases h2 : i < j
  · rw [if_pos h2, if_pos (by omega)]
  · rw [if_neg h2, if_neg (by omega)]
theorem CS.act {T : TT} {g sz : Nat} (hg : g < 4) (hs : sz ≤ 6) {kv ch gv : Nat → Nat} {mv : Nat → Int32} {dy j : Nat} (hd : dy < 2 ^ 30) (hj : j < sz) (c1 : ch j < 3) (hC : CS T g sz kv (dP kv ch gv j) (mP kv ch gv mv dy j) dy) : ∃ T', m_X4_act T g (nI j) (nI (ch j)) = some (dRu kv ch gv dy j, T') ∧ CS T' g sz kv (dP kv ch gv (j + 1)) (mP kv ch gv mv dy (j + 1)) dy := by
  obtain ⟨a2, a3, a4, a5, a6⟩ := hC.2.2 j hj
  have d0 : dP kv ch gv j j = gv j := if_neg (by omega)
  have m0 : mP kv ch gv mv dy j j = mv j := if_neg (by omega)
  rw [d0] at a3 a6
  rw [m0] at a4
  have ha := act_v hg hs (i := j) hj hC.1 hC.2.1 a5 c1 a6 (by omega) a2 a3
  refine ⟨_, ha, hC.1, hC.2.1, fun i hi => ?_⟩
  obtain ⟨q2, q3, q4, q5, q6⟩ := hC.2.2 i hi
  by_cases hij : i = j
  · subst hij
    have d1 : dP kv ch gv (i + 1) i = lF (kv i) (ch i) (gv i) := if_pos (by omega)
    have m1 : mP kv ch gv mv dy (i + 1) i = mv i + dRu kv ch gv dy i := if_pos (by omega)
    rw [d1, m1]
    refine ⟨by rw [sA_v, if_neg (by omega), sA_v, if_neg (by omega)]; exact q2, by rw [sA_v, if_pos ⟨rfl, rfl, rfl⟩], by rw [sA_v, if_neg (by omega), sA_v, if_pos ⟨rfl, rfl, rfl⟩, a4]; rfl, q5, lF_lt _ a5 _ c1 _ a6⟩
  · rw [dP_s hij, mP_s hij]
    refine ⟨by rw [sA_v, if_neg (by omega), sA_v, if_neg (by omega)]; exact q2, by rw [sA_v, if_neg (by omega), sA_v, if_neg (by omega)]; exact q3, by rw [sA_v, if_neg (by omega), sA_v, if_neg (by omega)]; exact q4, q5, q6⟩
theorem ye_c {sz : Nat} (hs : sz ≤ 6) (kv gv : Nat → Nat) (mv : Nat → Int32) (dy X : Nat) (hX : X < 2147483648) (hd : dy < 2 ^ 30) (s : Int32) (rec47 : TT → Int32 → Int64 → Int32 → Int32 → Option (Int32 × TT)) (x2 x6 : Int32) : ∀ (q j n : Nat) (T : TT), j + q = sz → q < n → CS T 1 sz kv (dP kv (chD X) gv j) (mP kv (chD X) gv mv dy j) dy → ∃ T', m_X10_years_l56 rec47 n T x2 (lN (nxI X j)) (s + sm (dRu kv (chD X) gv dy) j) x6 (nI j) = rec47 T' x2 (lN (nxI X sz)) (s + sm (dRu kv (chD X) gv dy) sz) (x6 + 1) ∧ CS T' 1 sz kv (dP kv (chD X) gv sz) (mP kv (chD X) gv mv dy sz) (dy + 1) ∧ Sc T T' := by
  intro q
  induction q with
  | zero =>
    intro j n T hj hn hC
    obtain ⟨n, rfl⟩ : ∃ q, n = q + 1 := ⟨n - 1, by omega⟩
    have hj : j = sz := by omega
    subst hj
    refine ⟨sI T 1 8 (nI (dy + 1)), ?_, ⟨by rw [sI_v, if_neg (by omega)]; exact hC.1, by rw [sI_v, if_pos ⟨rfl, rfl⟩], hC.2.2⟩, Fr.rf.wI rfl (by simp [SCI])⟩
    show m_X10_years_h56 _ _ _ _ _ _ _ _ = _
    unfold m_X10_years_h56
    rw [hC.1, if_pos (nI_le (Nat.le_refl _) (by omega)), bT_v, bT_v, hC.2.1, nI_1]
  | succ q ih =>
    intro j n T hj hn hC
    obtain ⟨n, rfl⟩ : ∃ q, n = q + 1 := ⟨n - 1, by omega⟩
    obtain ⟨T1, a1, a2⟩ := hC.act (by decide) hs hd (by omega) (chD_lt X j)
    obtain ⟨T2, z1, z2, z3⟩ := ih (j + 1) n T1 (by omega) (by omega) a2
    have sc : Sc T T1 := (fr_X4_act a1).mono (fun a b q => by simp only [SCA]; omega) (fun _ _ q => q.elim) (fun _ _ q => q)
    refine ⟨T2, ?_, z2, sc.trans z3⟩
    have hxj := nxI_lt hX j
    show m_X10_years_h56 _ _ _ _ _ _ _ _ = _
    unfold m_X10_years_h56
    rw [hC.1, if_neg (nI_ge (by omega) (by omega)), nx_v hxj, bT_v, ch_n (nx_lt _), show m_X4_act T 1 (nI j) (nI (chN (nx (nxI X j)))) = _ from a1, Option.bind_some, bT_v, bT_v, nI_1, Int32.add_assoc]
    exact z1
theorem yr_c {sz M : Nat} (hs : sz ≤ 6) (hM : M < 1000) (kv : Nat → Nat) : ∀ (m d n : Nat) (T : TT) (gv : Nat → Nat) (mv : Nat → Int32) (dy X : Nat) (s : Int32), d + m = M → m < n → X < 2147483648 → dy + m < 2 ^ 30 → CS T 1 sz kv gv mv dy → ∃ T', m_X10_years_l47 n T (nI M) (lN X) s (nI d) = some (yS kv sz m gv X dy s, T') ∧ Sc T T' := by
  intro m
  induction m with
  | zero =>
    intro d n T gv mv dy X s hd hn hX hy hC
    obtain ⟨n, rfl⟩ : ∃ q, n = q + 1 := ⟨n - 1, by omega⟩
    refine ⟨T, ?_, Fr.rf⟩
    show m_X10_years_h47 _ _ _ _ _ _ = _
    unfold m_X10_years_h47
    rw [if_pos (nI_le (by omega) (by omega))]
    rfl
  | succ m ih =>
    intro d n T gv mv dy X s hd hn hX hy hC
    obtain ⟨n, rfl⟩ : ∃ q, n = q + 1 := ⟨n - 1, by omega⟩
    obtain ⟨T1, q1, q2, q3⟩ := ye_c hs kv gv mv dy X hX (by omega) s (m_X10_years_l47 n) (nI M) (nI d) sz 0 FU T (by omega) (FU_lt (by omega)) (by rw [dP_0, mP_0]; exact hC)
    obtain ⟨T2, z1, z2⟩ := ih (d + 1) n T1 (dGr kv (chD X) gv) (fun i => mv i + dRu kv (chD X) gv dy i) (dy + 1) (nxI X sz) (s + sm (dRu kv (chD X) gv dy) sz) (by omega) (by omega) (nxI_lt hX sz) (by omega) (q2.congr (fun i hi => (if_pos hi).symm) (fun i hi => (if_pos hi).symm))
    refine ⟨T2, ?_, q3.trans z2⟩
    show m_X10_years_h47 _ _ _ _ _ _ = _
    unfold m_X10_years_h47
    rw [if_neg (nI_ge (by omega) (by omega))]
    have e0 : s + sm (dRu kv (chD X) gv dy) 0 = s := by show s + 0 = s; simp
    rw [e0, nI_1] at q1
    exact q1.trans z1
def YM (T : TT) (sz : Nat) (kv gv : Nat → Nat) (dy0 : Nat) : Prop := T.1 10 1 0 = nI sz ∧ T.1 10 1 16 = nI dy0 ∧ ∀ i, i < sz → T.1 10 1 (17 + i) = nI (kv i) ∧ T.1 10 7 i = nI (gv i)
theorem ye_m {sz : Nat} (hs : sz ≤ 6) (kv gv : Nat → Nat) (dy0 d X : Nat) (hX : X < 2147483648) (hd : dy0 + d < 2 ^ 30) (s : Int32) (hb : ∀ i, i < sz → kv i < 6 ∧ gv i < 100) (rec74 : TT → Int32 → Int64 → Int32 → Int32 → Option (Int32 × TT)) (x2 : Int32) : ∀ (q j n : Nat) (T : TT), j + q = sz → q < n → YM T sz kv (dP kv (chD X) gv j) dy0 → ∃ T', m_X11_years_l83 rec74 n T x2 (lN (nxI X j)) (s + sm (dRu kv (chD X) gv (dy0 + d)) j) (nI d) (nI j) = rec74 T' x2 (lN (nxI X sz)) (s + sm (dRu kv (chD X) gv (dy0 + d)) sz) (nI (d + 1)) ∧ YM T' sz kv (dP kv (chD X) gv sz) dy0 ∧ Sc T T' := by
  intro q
  induction q with
  | zero =>
    intro j n T hj hn hC
    obtain ⟨n, rfl⟩ : ∃ q, n = q + 1 := ⟨n - 1, by omega⟩
    have hj : j = sz := by omega
    subst hj
    refine ⟨T, ?_, hC, Fr.rf⟩
    show m_X11_years_h83 _ _ _ _ _ _ _ _ = _
    unfold m_X11_years_h83 m_X11_many
    rw [Option.bind_some, hC.1, if_pos (nI_le (Nat.le_refl _) (by omega)), bT_v, nI_1]
  | succ q ih =>
    intro j n T hj hn hC
    obtain ⟨n, rfl⟩ : ∃ q, n = q + 1 := ⟨n - 1, by omega⟩
    obtain ⟨a2, a3⟩ := hC.2.2 j (by omega)
    obtain ⟨a5, a6⟩ := hb j (by omega)
    have c1 := chD_lt X j
    have d0 : dP kv (chD X) gv j j = gv j := if_neg (by omega)
    rw [d0] at a3
    generalize hT0 : sI (sI T 10 6 (nI (gv j))) 10 7 0 = T0
    have t6 : T0.2.1 10 6 = nI (gv j) := by rw [← hT0, sI_v, if_neg (by omega), sI_v, if_pos ⟨rfl, rfl⟩]
    have t7 : T0.2.1 10 7 = 0 := by rw [← hT0, sI_v, if_pos ⟨rfl, rfl⟩]
    have t1 : T0.1 = T.1 := by rw [← hT0]; rfl
    have hgd := goDay_v (T := T0) (d := dy0 + d) a5 (by omega) c1 a6 t6
    generalize hT1 : goF T0 (kv j) (dy0 + d) (chD X j) (gv j) = T1 at hgd
    have u6 : T1.2.1 10 6 = nI (lF (kv j) (chD X j) (gv j)) := by rw [← hT1, goF_6]
    have u7 : T1.2.1 10 7 = dRu kv (chD X) gv (dy0 + d) j := by rw [← hT1, goF_7, t7]; exact Int32.zero_add _
    have u1 : T1.1 = T.1 := by rw [← hT1, goF_1, t1]
    have s1 : Sc T T1 := Fr.trans (Fr.trans ((Fr.rf.wI rfl (by simp [SCI])).wI hT0.symm (by simp [SCI])) Fr.rf) (by rw [← hT1]; exact goF_sc _ _ _ _ _)
    generalize hT' : sA T1 10 7 j (nI (lF (kv j) (chD X j) (gv j))) = T'
    have s2 : Sc T T' := s1.wA hT'.symm (by simp [SCA])
    have v2 : T'.2 = T1.2 := by rw [← hT']; rfl
    have hC' : YM T' sz kv (dP kv (chD X) gv (j + 1)) dy0 := by
      have w : T'.1 10 1 = T.1 10 1 := s2.1 10 1 (by simp [SCA])
      refine ⟨by rw [w]; exact hC.1, by rw [w]; exact hC.2.1, fun i hi => ?_⟩
      rw [w]
      refine ⟨(hC.2.2 i hi).1, ?_⟩
      rw [← hT', sA_v, u1]
      by_cases hij : i = j
      · subst hij
        have d1 : dP kv (chD X) gv (i + 1) i = lF (kv i) (chD X i) (gv i) := if_pos (by omega)
        rw [if_pos ⟨rfl, rfl, rfl⟩, d1]
      · rw [if_neg (by omega), dP_s hij]
        exact (hC.2.2 i hi).2
    obtain ⟨T2, z1, z2, z3⟩ := ih (j + 1) n T' (by omega) (by omega) hC'
    refine ⟨T2, ?_, z2, s2.trans z3⟩
    have hxj := nxI_lt hX j
    show m_X11_years_h83 _ _ _ _ _ _ _ _ = _
    unfold m_X11_years_h83 m_X11_many
    rw [Option.bind_some, hC.1, if_neg (nI_ge (by omega) (by omega)), nx_v hxj, bT_v, if_pos (inb_n (by omega) (by decide)), bT_v, bT_v, show T.1 10 7 (nI j).toNatClampNeg = nI (gv j) by rw [cl_n (by omega)]; exact a3, hT0, kind_m (by omega), Option.bind_some, t1, a2, hC.2.1, ad_n, ch_n (nx_lt _), show m_X11_goDay T0 (nI (kv j)) (nI (dy0 + d)) (nI (chN (nx (nxI X j)))) = _ from hgd, Option.bind_some, if_pos (inb_n (by omega) (by decide)), bT_v, cl_n (by omega), u6, hT', v2, u7, bT_v, bT_v, nI_1, Int32.add_assoc]
    exact z1
theorem yr_m {sz M : Nat} (hs : sz ≤ 6) (hM : M < 1000) (kv : Nat → Nat) (dy0 : Nat) (hd0 : dy0 < 2 ^ 29) : ∀ (m d n : Nat) (T : TT) (gv : Nat → Nat) (X : Nat) (s : Int32), d + m = M → m < n → X < 2147483648 → (∀ i, i < sz → kv i < 6 ∧ gv i < 100) → YM T sz kv gv dy0 → ∃ T', m_X11_years_l74 n T (nI M) (lN X) s (nI d) = some (yS kv sz m gv X (dy0 + d) s, T') ∧ Sc T T' := by
  intro m
  induction m with
  | zero =>
    intro d n T gv X s hd hn hX hb hC
    obtain ⟨n, rfl⟩ : ∃ q, n = q + 1 := ⟨n - 1, by omega⟩
    refine ⟨T, ?_, Fr.rf⟩
    show m_X11_years_h74 _ _ _ _ _ _ = _
    unfold m_X11_years_h74
    rw [if_pos (nI_le (by omega) (by omega))]
    rfl
  | succ m ih =>
    intro d n T gv X s hd hn hX hb hC
    obtain ⟨n, rfl⟩ : ∃ q, n = q + 1 := ⟨n - 1, by omega⟩
    obtain ⟨T1, q1, q2, q3⟩ := ye_m hs kv gv dy0 d X hX (by omega) s hb (m_X11_years_l74 n) (nI M) sz 0 FU T (by omega) (FU_lt (by omega)) (by rw [dP_0]; exact hC)
    obtain ⟨T2, z1, z2⟩ := ih (d + 1) n T1 (dGr kv (chD X) gv) (nxI X sz) (s + sm (dRu kv (chD X) gv (dy0 + d)) sz) (by omega) (by omega) (nxI_lt hX sz) (fun i hi => ⟨(hb i hi).1, dGr_lt (hb i hi).1 (chD_lt X i) (hb i hi).2⟩) ⟨q2.1, q2.2.1, fun i hi => by
      have := q2.2.2 i hi
      have e : dP kv (chD X) gv sz i = dGr kv (chD X) gv i := if_pos hi
      rw [e] at this
      exact this⟩
    refine ⟨T2, ?_, q3.trans z2⟩
    show m_X11_years_h74 _ _ _ _ _ _ = _
    unfold m_X11_years_h74
    rw [if_neg (nI_ge (by omega) (by omega))]
    have e0 : s + sm (dRu kv (chD X) gv (dy0 + d)) 0 = s := by show s + 0 = s; simp
    rw [e0] at q1
    exact q1.trans z1
theorem yg_m {sz dy0 : Nat} (hs : sz ≤ 6) (kv gv : Nat → Nat) (x2 x5 : Int32) (x3 : Int64) : ∀ (q j n : Nat) (T : TT), j + q = sz → q < n → T.1 10 1 0 = nI sz → T.1 10 1 16 = nI dy0 → (∀ i, i < sz → T.1 10 1 (17 + i) = nI (kv i) ∧ T.1 10 1 (4 + i) = nI (gv i)) → (∀ i, i < j → T.1 10 7 i = nI (gv i)) → ∃ T', m_X11_years_l40 n T x2 x3 x5 (nI j) = m_X11_years_l74 FU T' x2 x3 x5 0 ∧ YM T' sz kv gv dy0 ∧ Sc T T' := by
  intro q
  induction q with
  | zero =>
    intro j n T hj hn h0 h16 h1 h2
    obtain ⟨n, rfl⟩ : ∃ q, n = q + 1 := ⟨n - 1, by omega⟩
    have hj : j = sz := by omega
    subst hj
    refine ⟨T, ?_, ⟨h0, h16, fun i hi => ⟨(h1 i hi).1, h2 i hi⟩⟩, Fr.rf⟩
    show m_X11_years_h40 _ _ _ _ _ _ = _
    unfold m_X11_years_h40 m_X11_many
    rw [Option.bind_some, h0, if_pos (nI_le (Nat.le_refl _) (by omega))]
  | succ q ih =>
    intro j n T hj hn h0 h16 h1 h2
    obtain ⟨n, rfl⟩ : ∃ q, n = q + 1 := ⟨n - 1, by omega⟩
    have s1 : Sc T (sA T 10 7 j (nI (gv j))) := Fr.rf.wA rfl (by simp [SCA])
    have w : (sA T 10 7 j (nI (gv j))).1 10 1 = T.1 10 1 := s1.1 10 1 (by simp [SCA])
    obtain ⟨T2, z1, z2, z3⟩ := ih (j + 1) n (sA T 10 7 j (nI (gv j))) (by omega) (by omega) (by rw [w]; exact h0) (by rw [w]; exact h16) (by rw [w]; exact h1) (fun i hi => by
      rw [sA_v]
      by_cases hij : i = j
      · subst hij; rw [if_pos ⟨rfl, rfl, rfl⟩]
      · rw [if_neg (by omega)]; exact h2 i (by omega))
    refine ⟨T2, ?_, z2, s1.trans z3⟩
    have e4 : (4 : Int32) + nI j = nI (4 + j) := ad_n 4 j
    show m_X11_years_h40 _ _ _ _ _ _ = _
    unfold m_X11_years_h40 m_X11_many
    rw [Option.bind_some, h0, if_neg (nI_ge (by omega) (by omega)), e4, if_pos (inb_n (by omega) (by decide)), if_pos (inb_n (by omega) (by decide)), bT_v, bT_v, cl_n (by omega), cl_n (by omega), (h1 j (by omega)).2, nI_1]
    exact z1
theorem op_years {n : Nat} {T : TT} (hn : n < 64) (h : Inv n T) (x y : Int32) : Op n (m_X10_years T x y) (fun T => m_X11_years T x y) := by
  obtain ⟨sz, nc, tc, uc, dy, hR⟩ := h.t0
  have hsz := hR.1.1
  have hbad : ∀ (e1 : m_X10_years T x y = some (-2, rfs T 0)) (e2 : m_X11_years (rfs T 0) x y = some (-2, rfm (rfs T 0) 0)), Op n (m_X10_years T x y) (fun T => m_X11_years T x y) := fun e1 e2 => Op.of e1 e2 (h.refuse hn (by decide))
  rcases rng x 0 999999 (by decide) (by decide) with hb | ⟨X, -, hX, rfl⟩
  · refine hbad ?_ ?_
    · unfold m_X10_years
      rw [show m_X10_within x 0 999999 = some 0 from w_bad hb]
      rfl
    · unfold m_X11_years
      rw [in_bad (lo := nI 0) (hi := nI 999999) (by decide) (by decide) hb]
      rfl
  have w1 : m_X10_within (nI X) 0 999999 = some 1 := w_ok (Nat.zero_le X) hX (by decide)
  have n1 : m_X11_in (nI X).toInt64 0 999999 = some 1 := in_ok (lo := nI 0) (hi := nI 999999) (by decide) (by decide) (nI_rng (Nat.zero_le X) hX (by decide))
  rcases rng y 0 60 (by decide) (by decide) with hb | ⟨M, -, hM, rfl⟩
  · refine hbad ?_ ?_
    · unfold m_X10_years
      rw [w1, Option.bind_some, if_neg (by decide), show m_X10_within y 0 60 = some 0 from w_bad hb]
      rfl
    · unfold m_X11_years
      rw [n1, Option.bind_some, if_neg (by decide), in_bad (lo := nI 0) (hi := nI 60) (by decide) (by decide) hb]
      rfl
  have hdy : dy < 100000 := by have := hR.1.2.2.2.2; have := h.1; omega
  have hC := hR.cs
  generalize hkv : (fun i => (T.1 0 2 i).toNatClampNeg) = kv at hC
  generalize hgv : (fun i => (T.1 0 3 i).toNatClampNeg) = gv at hC
  have hb : ∀ i, i < sz → kv i < 6 ∧ gv i < 100 := fun i hi => ⟨(hC.2.2 i hi).2.2.2.1, (hC.2.2 i hi).2.2.2.2⟩
  obtain ⟨S, e1, ea, ei, el, c7, c2, c3, c4, c5, c6, cp⟩ := copy_v T 1 0 (by omega)
  have sS : Sc T S := ⟨fun a b q => ea a b (fun z => q (by simp [SCA, z])), fun a b q => ei a b (fun z => q (by simp [SCI, z])), fun a b _ => by rw [el]⟩
  have hC1 : CS S 1 sz kv gv (T.1 0 4) dy := ⟨by rw [c7 7 (by omega) (by omega)]; exact hC.1, by rw [c7 8 (by omega) (by omega)]; exact hC.2.1, fun i hi => by rw [c2 i (by omega), c3 i (by omega), c4 i (by omega)]; exact hC.2.2 i hi⟩
  obtain ⟨S1, p1, p2⟩ := yr_c hsz (M := M) (by omega) kv M 0 FU S gv (T.1 0 4) dy X 0 (by omega) (FU_lt (by omega)) (by omega) (by omega) hC1
  have s1 := sS.trans p2
  have w : S1.1 10 1 = T.1 10 1 := s1.1 10 1 (by simp [SCA])
  obtain ⟨S2, q1, q2, q3⟩ := yg_m (dy0 := dy) hsz kv gv (nI M) 0 (lN X) sz 0 FU S1 (by omega) (FU_lt (by omega)) (by rw [w]; exact hR.2.2.1.1) (by rw [w]; exact hR.2.2.1.2.1) (fun i hi => by
    rw [w]
    obtain ⟨⟨k, hk, k1, k2⟩, ⟨g, hg, g1, g2⟩, -⟩ := hR.2.2.2.1 i hi
    obtain ⟨d1, d2, -⟩ := hC.2.2 i hi
    exact ⟨by rw [← d1, k1, k2], by rw [← d2, g1, g2]⟩) (fun i hi => absurd hi (by omega))
  obtain ⟨S3, r1, r2⟩ := yr_m hsz (M := M) (by omega) kv dy (by omega) M 0 FU S2 gv X 0 (by omega) (FU_lt (by omega)) (by omega) hb q2
  refine Op.of (r := yS kv sz M gv X dy 0) (T1 := S1) (T2 := S3) ?_ ?_ (h.keep hn (s1.trans (q3.trans r2)))
  · unfold m_X10_years
    rw [w1, Option.bind_some, if_neg (by decide), show m_X10_within (nI M) 0 60 = some 1 from w_ok (Nat.zero_le M) hM (by decide), Option.bind_some, if_neg (by decide), e1, Option.bind_some, bT_v, nI_l (by omega)]
    exact p1
  · show m_X11_years _ _ _ = _
    unfold m_X11_years
    rw [n1, Option.bind_some, if_neg (by decide), in_ok (lo := nI 0) (hi := nI 60) (by decide) (by decide) (nI_rng (Nat.zero_le M) hM (by decide)), Option.bind_some, if_neg (by decide), bT_v, nI_l (by omega)]
    exact q1.trans r1
