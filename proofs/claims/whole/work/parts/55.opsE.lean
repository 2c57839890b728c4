def dG (kv ch : Nat → Nat) : Nat → (Nat → Nat) → (Nat → Nat)
  | 0, gv => gv
  | m + 1, gv => dG kv ch m (dGr kv ch gv)
def dM (kv ch : Nat → Nat) : Nat → (Nat → Nat) → (Nat → Int32) → Nat → (Nat → Int32)
  | 0, _, mv, _ => mv
  | m + 1, gv, mv, dy => dM kv ch m (dGr kv ch gv) (fun i => mv i + dRu kv ch gv dy i) (dy + 1)
def dS (kv ch : Nat → Nat) (sz : Nat) : Nat → (Nat → Nat) → Nat → Int32 → Int32
  | 0, _, _, s => s
  | m + 1, gv, dy, s => dS kv ch sz m (dGr kv ch gv) (dy + 1) (s + sm (dRu kv ch gv dy) sz)
theorem dP_0 (kv ch gv : Nat → Nat) : dP kv ch gv 0 = gv := by
  funext i
  exact if_neg (by omega)
theorem mP_0 (kv ch gv : Nat → Nat) (mv : Nat → Int32) (dy : Nat) : mP kv ch gv mv dy 0 = mv := by
  funext i
  exact if_neg (by omega)
theorem CS.congr {T : TT} {g sz dy : Nat} {kv gv gv' : Nat → Nat} {mv mv' : Nat → Int32} (h : CS T g sz kv gv mv dy) (h1 : ∀ i, i < sz → gv' i = gv i) (h2 : ∀ i, i < sz → mv' i = mv i) : CS T g sz kv gv' mv' dy := ⟨h.1, h.2.1, fun i hi => by rw [h1 i hi, h2 i hi]; exact h.2.2 i hi⟩
theorem MS.congr {T : TT} {g sz dy : Nat} {kv gv gv' : Nat → Nat} {mv mv' : Nat → Int32} (h : MS T g sz kv gv mv dy) (h1 : ∀ i, i < sz → gv' i = gv i) (h2 : ∀ i, i < sz → mv' i = mv i) : MS T g sz kv gv' mv' dy := ⟨h.1, h.2.1, fun i hi => by rw [h1 i hi, h2 i hi]; exact h.2.2 i hi⟩
theorem pds_c {g sz M : Nat} (hg : g < 4) (hs : sz ≤ 6) (kv ch : Nat → Nat) (x2 x3 : Int32) (hch : Ch sz x2 x3 ch) (hM : M < 1000) : ∀ (m d n : Nat) (T : TT) (gv : Nat → Nat) (mv : Nat → Int32) (dy : Nat) (s : Int32), d + m = M → m < n → dy + m ≤ 9999 → CS T g sz kv gv mv dy → ∃ T', m_X4_passDays_l6 g n T (nI M) x2 x3 s (nI d) = some (dS kv ch sz m gv dy s, T') ∧ CS T' g sz kv (dG kv ch m gv) (dM kv ch m gv mv dy) (dy + m) := by
  intro m
  induction m with
  | zero =>
    intro d n T gv mv dy s hd hn hy hC
    obtain ⟨n, rfl⟩ : ∃ q, n = q + 1 := ⟨n - 1, by omega⟩
    refine ⟨T, ?_, hC⟩
    show m_X4_passDays_h6 _ _ _ _ _ _ _ _ = _
    unfold m_X4_passDays_h6
    rw [if_pos (nI_le (by omega) (by omega))]
    rfl
  | succ m ih =>
    intro d n T gv mv dy s hd hn hy hC
    obtain ⟨n, rfl⟩ : ∃ q, n = q + 1 := ⟨n - 1, by omega⟩
    obtain ⟨T1, q1, q2⟩ := pd_c hg hs kv ch gv mv dy (by omega) x2 x3 s hch (m_X4_passDays_l6 g n) (nI M) (nI d) sz 0 FU T (by omega) (FU_lt (by omega)) (by rw [dP_0, mP_0]; exact hC)
    obtain ⟨T2, z1, z2⟩ := ih (d + 1) n T1 (dGr kv ch gv) (fun i => mv i + dRu kv ch gv dy i) (dy + 1) (s + sm (dRu kv ch gv dy) sz) (by omega) (by omega) (by omega) (q2.congr (fun i hi => (if_pos hi).symm) (fun i hi => (if_pos hi).symm))
    refine ⟨T2, ?_, by rw [show dy + (m + 1) = dy + 1 + m by omega]; exact z2⟩
    show m_X4_passDays_h6 _ _ _ _ _ _ _ _ = _
    unfold m_X4_passDays_h6
    have h9 : ¬ (9999 : Int32) ≤ nI dy := nI_ge (b := 9999) (by omega) (by decide)
    rw [if_neg (nI_ge (by omega) (by omega)), hC.2.1, if_neg h9]
    have e0 : s + sm (dRu kv ch gv dy) 0 = s := by show s + 0 = s; simp
    rw [e0, nI_1] at q1
    exact q1.trans z1
theorem pd_m1 {af an sz : Nat} (ha : 71 ≤ an) (ha2 : an < 2 ^ 31) (hs : sz ≤ 6) {kv ch gv : Nat → Nat} {mv : Nat → Int32} {dy : Nat} (hd : dy < 2 ^ 30) {x2 x3 : Int32} (hch : Ch sz x2 x3 ch) (hb : ∀ i, i < sz → kv i < 6 ∧ gv i < 100) {T : TT} (hC : MS T af sz kv gv mv dy) : ∃ T', m_X11_passDay T 10 af an x2 x3 = some (sm (dRu kv ch gv dy) sz, T') ∧ MS T' af sz kv (dGr kv ch gv) (fun i => mv i + dRu kv ch gv dy i) (dy + 1) ∧ (∀ i, i < 4 ∨ 17 ≤ i → T'.1 10 af i = T.1 10 af i) := by
  obtain ⟨T1, q1, q2, q3⟩ := pd_m ha ha2 hs kv ch gv mv dy hd x2 x3 hch hb sz 0 FU T (by omega) (FU_lt (by omega)) (by rw [dP_0, mP_0]; exact hC)
  exact ⟨T1, q1, q2.congr (fun i hi => (if_pos hi).symm) (fun i hi => (if_pos hi).symm), q3⟩
def FD (T T' : TT) : Prop := Fr (fun a b => a = 10 ∧ b = 1) (fun a b => (a = 10 ∧ b = 6) ∨ (a = 10 ∧ b = 7)) (fun _ _ => False) T T'
theorem pds_m {sz M : Nat} (hs : sz ≤ 6) (kv ch : Nat → Nat) (x3 : Int32) (hch : Ch sz (-1) x3 ch) (hM : M < 1000) : ∀ (m d n : Nat) (T : TT) (gv : Nat → Nat) (mv : Nat → Int32) (dy : Nat) (s : Int32), d + m = M → m < n → dy + m ≤ 9999 → (∀ i, i < sz → kv i < 6 ∧ gv i < 100) → MS T 1 sz kv gv mv dy → ∃ T', m_X11_days_l35 n T (nI M) x3 s (nI d) = some (dS kv ch sz m gv dy s, T') ∧ MS T' 1 sz kv (dG kv ch m gv) (dM kv ch m gv mv dy) (dy + m) ∧ (∀ i, i < 4 ∨ 17 ≤ i → T'.1 10 1 i = T.1 10 1 i) ∧ FD T T' := by
  intro m
  induction m with
  | zero =>
    intro d n T gv mv dy s hd hn hy hb hC
    obtain ⟨n, rfl⟩ : ∃ q, n = q + 1 := ⟨n - 1, by omega⟩
    refine ⟨T, ?_, hC, fun _ _ => rfl, Fr.rf⟩
    show m_X11_days_h35 _ _ _ _ _ _ = _
    unfold m_X11_days_h35
    rw [if_pos (nI_le (by omega) (by omega))]
    rfl
  | succ m ih =>
    intro d n T gv mv dy s hd hn hy hb hC
    obtain ⟨n, rfl⟩ : ∃ q, n = q + 1 := ⟨n - 1, by omega⟩
    obtain ⟨T1, q1, q2, q3⟩ := pd_m1 (an := 175) (by decide) (by decide) hs (by omega) hch hb hC
    obtain ⟨T2, z1, z2, z3, z4⟩ := ih (d + 1) n T1 (dGr kv ch gv) (fun i => mv i + dRu kv ch gv dy i) (dy + 1) (s + sm (dRu kv ch gv dy) sz) (by omega) (by omega) (by omega) (fun i hi => ⟨(hb i hi).1, dGr_lt (hb i hi).1 (hch i hi).1 (hb i hi).2⟩) q2
    refine ⟨T2, ?_, by rw [show dy + (m + 1) = dy + 1 + m by omega]; exact z2, fun i hi => by rw [z3 i hi, q3 i hi], Fr.trans (fr_X11_passDay q1) z4⟩
    show m_X11_days_h35 _ _ _ _ _ _ = _
    unfold m_X11_days_h35
    have h9 : ¬ (9999 : Int32) ≤ nI dy := nI_ge (b := 9999) (by omega) (by decide)
    rw [if_neg (nI_ge (by omega) (by omega)), hC.2.1, if_neg h9, q1, Option.bind_some, bT_v, bT_v, nI_1]
    exact z1
theorem dG_lt {kv ch : Nat → Nat} {sz : Nat} (hch : ∀ i, i < sz → ch i < 3) : ∀ (m : Nat) (gv : Nat → Nat), (∀ i, i < sz → kv i < 6 ∧ gv i < 100) → ∀ i, i < sz → dG kv ch m gv i < 100
  | 0, gv, hb, i, hi => (hb i hi).2
  | m + 1, gv, hb, i, hi => dG_lt hch m (dGr kv ch gv) (fun i hi => ⟨(hb i hi).1, dGr_lt (hb i hi).1 (hch i hi) (hb i hi).2⟩) i hi
theorem RK.cs {T : TT} {g : Nat} {a : Nat → Int32} {bd sz nc tc uc dy : Nat} (h : RK T g a bd sz nc tc uc dy) : CS T g sz (fun i => (T.1 g 2 i).toNatClampNeg) (fun i => (T.1 g 3 i).toNatClampNeg) (T.1 g 4) dy := by
  refine ⟨h.2.1.1, h.2.1.2.1, fun i hi => ?_⟩
  obtain ⟨⟨k, hk, k1, k2⟩, ⟨n, hn, n1, n2⟩, m1⟩ := h.2.2.2.1 i hi
  refine ⟨?_, ?_, rfl, ?_, ?_⟩
  · show _ = nI (T.1 g 2 i).toNatClampNeg
    rw [k1, cl_n (by omega)]
  · show _ = nI (T.1 g 3 i).toNatClampNeg
    rw [n1, cl_n (by omega)]
  · show (T.1 g 2 i).toNatClampNeg < 6
    rw [k1, cl_n (by omega)]
    exact hk
  · show (T.1 g 3 i).toNatClampNeg < 100
    rw [n1, cl_n (by omega)]
    exact hn
theorem days_inv {n : Nat} {T : TT} (hn : n < 64) (h : Inv n T) {sz nc tc uc dy M : Nat} (hR : RK T 0 (T.1 10 1) (99 * n) sz nc tc uc dy) {ch : Nat → Nat} {x2 x3 : Int32} (hch : Ch sz x2 x3 ch) (hM : M ≤ 99) : ∃ (kv gv : Nat → Nat) (mv : Nat → Int32) (T1 S1 T2 : TT), m_X4_remember T 0 = some T1 ∧ m_X4_passDays T1 0 (nI M) x2 x3 = some (dS kv ch sz M gv dy 0, S1) ∧ m_X11_keep S1 = some T2 ∧ MS T2 1 sz kv gv mv dy ∧ (∀ i, i < sz → kv i < 6 ∧ gv i < 100) ∧ (dy + M ≤ 9999) ∧ S1.1 10 = T.1 10 ∧ ∀ S3, MS S3 1 sz kv (dG kv ch M gv) (dM kv ch M gv mv dy) (dy + M) → (∀ i, i < 4 ∨ 17 ≤ i → S3.1 10 1 i = T2.1 10 1 i) → FD T2 S3 → Inv (n + 1) S3 := by
  obtain ⟨⟨b1, b2, b3, b4, b5⟩, ⟨i1, i2, i3, i4, i5⟩, ⟨j1, j2, j3, j4, j5⟩, hd, hno, htr, hpa⟩ := id hR
  have h64 := h.1
  obtain ⟨T1, r1, r2, r3, r4, r5⟩ := rem_v i5 b4 i2 (by omega)
  have rF := fr_X4_remember r1
  have hC := hR.cs
  generalize hkv : (fun i => (T.1 0 2 i).toNatClampNeg) = kv at hC
  generalize hgv : (fun i => (T.1 0 3 i).toNatClampNeg) = gv at hC
  have hC1 : CS T1 0 sz kv gv (T.1 0 4) dy := ⟨by rw [rF.2.1 0 7 (by omega)]; exact hC.1, by rw [rF.2.1 0 8 (by omega)]; exact hC.2.1, fun i hi => by rw [rF.1 0 2 (by omega), rF.1 0 3 (by omega), rF.1 0 4 (by omega)]; exact hC.2.2 i hi⟩
  obtain ⟨S1, p1, p2⟩ := pds_c (g := 0) (by decide) b1 kv ch x2 x3 hch (M := M) (by omega) M 0 FU T1 gv (T.1 0 4) dy 0 (by omega) (FU_lt (by omega)) (by omega) hC1
  have pF := fr_X4_passDays p1
  have s10 : S1.1 10 = T.1 10 := by
    funext b
    rw [pF.1 10 b (by omega), rF.1 10 b (by omega)]
  obtain ⟨T2, k1, k2, k3, k4, k5⟩ := keep_v (T := S1) b4 (by rw [s10]; exact j5)
  have kF := fr_X11_keep k1
  have hb : ∀ i, i < sz → kv i < 6 ∧ gv i < 100 := fun i hi => ⟨(hC.2.2 i hi).2.2.2.1, (hC.2.2 i hi).2.2.2.2⟩
  refine ⟨kv, gv, T.1 0 4, T1, S1, T2, r1, p1, k1, ⟨by rw [k3 0 (by omega) (by omega), s10]; exact j1, by rw [k3 16 (by omega) (by omega), s10]; exact j2, fun i hi => ?_⟩, hb, by omega, s10, fun S3 m1 m2 mF => ?_⟩
  · rw [k3 (17 + i) (by omega) (by omega), k3 (4 + i) (by omega) (by omega), k3 (10 + i) (by omega) (by omega), s10]
    obtain ⟨⟨k, hk, k1, k2⟩, ⟨n, hn, n1, n2⟩, m1⟩ := hd i hi
    obtain ⟨c1, c2, -⟩ := hC.2.2 i hi
    exact ⟨by rw [← c1, k1, k2], by rw [← c2, n1, n2], m1.symm⟩
  · have oA : ∀ a b, ¬ (a = 10 ∧ b = 1) → ¬ (a = 0 ∧ (b = 3 ∨ b = 4 ∨ b = 7)) → S3.1 a b = T.1 a b := fun a b q1 q2 => by
      rw [mF.1 a b q1, kF.1 a b q1, pF.1 a b (by omega), rF.1 a b (by omega)]
    have oC : ∀ b, S3.1 0 b = S1.1 0 b := fun b => by rw [mF.1 0 b (by omega), kF.1 0 b (by omega)]
    have oI : ∀ a b, ¬ (a = 10 ∧ (b = 6 ∨ b = 7)) → S3.2.1 a b = S1.2.1 a b := fun a b q => by rw [mF.2.1 a b (by omega), kF.2.1 a b (fun q => q)]
    have oI2 : ∀ a b, ¬ (a = 10 ∧ (b = 6 ∨ b = 7)) → ¬ (a = 0 ∧ (b = 8 ∨ b = 11)) → S3.2.1 a b = T.2.1 a b := fun a b q q2 => by rw [oI a b q, pF.2.1 a b (by omega), rF.2.1 a b (by omega)]
    have oL : ∀ a b, S3.2.2.1 a b = T.2.2.1 a b := fun a b => by rw [mF.2.2 a b (fun q => q), kF.2.2 a b (fun q => q), pF.2.2 a b (fun q => q), rF.2.2 a b (fun q => q)]
    have o7 : S3.1 0 7 = T1.1 0 7 := by rw [oC, pF.1 0 7 (by omega)]
    have ok : ∀ i, i ≠ 3 → (i < 4 ∨ (17 ≤ i ∧ i < 71)) → S3.1 10 1 i = T.1 10 1 i := fun i q1 q2 => by rw [m2 i (by omega), k3 i (by omega) q1, s10]
    refine ⟨hn, ⟨sz, nc, tc, min uc 7 + 1, dy + M, ⟨⟨b1, b2, b3, by omega, by omega⟩, ⟨by rw [oI2 0 7 (by omega) (by omega)]; exact i1, by rw [oI 0 8 (by omega)]; exact p2.2.1, by rw [oI2 0 9 (by omega) (by omega)]; exact i3, by rw [oI2 0 10 (by omega) (by omega)]; exact i4, by rw [oI 0 11 (by omega), pF.2.1 0 11 (by omega)]; exact r2⟩, ⟨m1.1, m1.2.1, by rw [ok 1 (by omega) (by omega)]; exact j3, by rw [ok 2 (by omega) (by omega)]; exact j4, by rw [m2 3 (by omega)]; exact k2⟩, fun i hi => ?_, ⟨fun j hj => ?_, fun m hm => ?_⟩, ⟨fun j hj => ?_, fun m hm => ?_⟩, fun u hu => ?_⟩⟩, h.img (fun f => oA 2 f (by omega) (by omega)) (fun f => oA 3 f (by omega) (by omega)) (fun k => oI2 2 k (by omega) (by omega)) (fun k => oI2 3 k (by omega) (by omega)) (oA 4 2 (by omega) (by omega)) (oA 10 2 (by omega) (by omega)) (oA 10 3 (by omega) (by omega)), h.tx (oA 5 1 (by omega) (by omega)) (oA 10 8 (by omega) (by omega)) (oI2 5 1 (by omega) (by omega)) (oI2 10 13 (by omega) (by omega)), fun j hj => by rw [oA 4 4 (by omega) (by omega), oA 10 4 (by omega) (by omega)]; exact h.2.2.2.2.1 j hj, by rw [oL, oL]; exact h.2.2.2.2.2.1, by rw [oL, oL]; exact h.2.2.2.2.2.2⟩
    · obtain ⟨c1, c2, c3, c4, c5⟩ := p2.2.2 i hi
      obtain ⟨d1, d2, d3⟩ := m1.2.2 i hi
      exact ⟨⟨kv i, c4, by rw [oC]; exact c1, d1⟩, ⟨_, c5, by rw [oC]; exact c2, d2⟩, by rw [oC, d3]; exact c3⟩
    · rw [oA 0 5 (by omega) (by omega), ok (23 + j) (by omega) (by omega)]
      exact hno.1 j hj
    · rw [ok _ (by omega) (by omega), ok _ (by omega) (by omega), ok _ (by omega) (by omega)]
      exact hno.2 m hm
    · rw [oA 0 6 (by omega) (by omega), ok (59 + j) (by omega) (by omega)]
      exact htr.1 j hj
    · rw [ok _ (by omega) (by omega)]
      exact htr.2 m hm
    · rw [o7]
      by_cases hlt : u < min uc 7
      · obtain ⟨⟨d, q1, q2, q3⟩, q4⟩ := hpa (u + (uc - min uc 7)) (by omega)
        have x : ∀ j, j < 13 → T1.1 0 7 (13 * u + j) = T.1 0 7 (13 * (u + (uc - min uc 7)) + j) := fun j hj => by
          rw [r3 _ (by omega)]
          exact congrArg (T.1 0 7) (by omega)
        have y : ∀ j, j < 13 → S3.1 10 1 (71 + (13 * u + j)) = T.1 10 1 (71 + (13 * (u + (uc - min uc 7)) + j)) := fun j hj => by
          rw [m2 _ (by omega), k4 _ (by omega), s10]
          exact congrArg (T.1 10 1) (by omega)
        refine ⟨⟨d, by omega, (x 0 (by omega)).trans q2, (y 12 (by omega)).trans q3⟩, fun i hi => ?_⟩
        rw [x (1 + i) (by omega), x (7 + i) (by omega), y i (by omega), y (6 + i) (by omega)]
        exact q4 i hi
      · have hu : u = min uc 7 := by omega
        subst hu
        have y : ∀ j, j < 13 → S3.1 10 1 (71 + (13 * min uc 7 + j)) = T.1 10 1 (4 + j) := fun j hj => by
          rw [m2 _ (by omega), k5 j hj, s10]
        refine ⟨⟨dy, by omega, r4.trans i2, (y 12 (by omega)).trans j2⟩, fun i hi => ?_⟩
        obtain ⟨-, q2, q3⟩ := hd i hi
        rw [(r5 i (by omega)).1, (r5 i (by omega)).2, y i (by omega), y (6 + i) (by omega), show 4 + (6 + i) = 10 + i by omega]
        exact ⟨q2, q3⟩
theorem op_days {n : Nat} {T : TT} (hn : n < 64) (h : Inv n T) (x c : Int32) : Op n (m_X10_days T x c) (fun T => m_X11_days T x c) := by
  obtain ⟨sz, nc, tc, uc, dy, hR⟩ := h.t0
  have hbad : ∀ (e1 : m_X10_days T x c = some (-2, rfs T 0)) (e2 : m_X11_days (rfs T 0) x c = some (-2, rfm (rfs T 0) 0)), Op n (m_X10_days T x c) (fun T => m_X11_days T x c) := fun e1 e2 => Op.of e1 e2 (h.refuse hn (by decide))
  rcases rng x 1 99 (by decide) (by decide) with hb | ⟨M, h1, hM, rfl⟩
  · refine hbad ?_ ?_
    · unfold m_X10_days
      rw [show m_X10_within x 1 99 = some 0 from w_bad hb]
      rfl
    · unfold m_X11_days
      rw [in_bad (lo := nI 1) (hi := nI 99) (by decide) (by decide) hb]
      rfl
  have w1 : m_X10_within (nI M) 1 99 = some 1 := w_ok h1 hM (by decide)
  have n1 : m_X11_in (nI M).toInt64 1 99 = some 1 := in_ok (lo := nI 1) (hi := nI 99) (by decide) (by decide) (nI_rng h1 hM (by decide))
  rcases rng c 0 2 (by decide) (by decide) with hb | ⟨c, -, hc, rfl⟩
  · refine hbad ?_ ?_
    · unfold m_X10_days
      rw [w1, Option.bind_some, if_neg (by decide), ch_bad hb]
      rfl
    · unfold m_X11_days
      rw [n1, Option.bind_some, if_neg (by decide), chm_bad hb]
      rfl
  have hch : Ch sz (-1) (nI c) (fun _ => c) := fun i hi => ⟨Nat.lt_succ_of_le hc, if_pos rfl⟩
  obtain ⟨kv, gv, mv, T1, S1, T2, q1, q2, q3, q4, q5, q6, q7, q8⟩ := days_inv hn h hR hch hM
  obtain ⟨S3, z1, z2, z3, z4⟩ := pds_m hR.1.1 kv (fun _ => c) (nI c) hch (M := M) (by omega) M 0 FU T2 gv mv dy 0 (by omega) (FU_lt (by omega)) q6 q5 q4
  refine Op.of (r := dS kv (fun _ => c) sz M gv dy 0) (T1 := S1) (T2 := S3) ?_ ?_ (q8 S3 z2 z3 z4)
  · unfold m_X10_days
    rw [w1, Option.bind_some, if_neg (by decide), ch_ok hc, Option.bind_some, if_neg (by decide), q1, Option.bind_some, q2]
    rfl
  · show m_X11_days _ _ _ = _
    unfold m_X11_days
    rw [n1, Option.bind_some, if_neg (by decide), chm_ok hc, Option.bind_some, if_neg (by decide), q3, Option.bind_some]
    exact z1
theorem op_day {n : Nat} {T : TT} (hn : n < 64) (h : Inv n T) (x c : Int32) : Op n (m_X10_day T x c) (fun T => m_X11_day T x c) := by
  obtain ⟨sz, nc, tc, uc, dy, hR⟩ := h.t0
  have hsz := hR.1.1
  have h0 : (rfs T 0).1 10 1 0 = nI sz := by rw [rfs_told]; exact hR.2.2.1.1
  have hbad : ∀ (e1 : m_X10_day T x c = some (-2, rfs T 0)) (e2 : m_X11_day (rfs T 0) x c = some (-2, rfm (rfs T 0) 0)), Op n (m_X10_day T x c) (fun T => m_X11_day T x c) := fun e1 e2 => Op.of e1 e2 (h.refuse hn (by decide))
  rcases ixd x sz hsz with hb | ⟨i, hi, rfl⟩
  · refine hbad ?_ ?_
    · unfold m_X10_day
      rw [has_bad hR.2.1.1 hb]
      rfl
    · unfold m_X11_day
      rw [dr_bad h0 hsz hb]
      rfl
  rcases rng c 0 2 (by decide) (by decide) with hb | ⟨c, -, hc, rfl⟩
  · refine hbad ?_ ?_
    · unfold m_X10_day
      rw [has_ok hR.2.1.1 hsz hi, Option.bind_some, if_neg (by decide), ch_bad hb]
      rfl
    · unfold m_X11_day
      rw [dr_ok h0 hsz hi, Option.bind_some, if_neg (by decide), chm_bad hb]
      rfl
  have hm1 : ¬ nI i = -1 := fun e => by
    have := congrArg Int32.toInt e
    rw [nI_toInt (by omega)] at this
    have e4 : (-1 : Int32).toInt = -1 := by decide
    omega
  have hch : Ch sz (nI i) (nI c) (fun j => if j = i then c else 2) := fun j hj => by
    rw [if_neg hm1]
    by_cases hij : j = i
    · subst hij
      exact ⟨by show (if j = j then c else 2) < 3; rw [if_pos rfl]; omega, by rw [if_pos rfl]; show _ = nI (if j = j then c else 2); rw [if_pos rfl]⟩
    · have : ¬ nI i = nI j := fun e => hij ((nI_eq (a := i) (b := j) (by omega) (by omega)).mp e).symm
      exact ⟨by show (if j = i then c else 2) < 3; rw [if_neg hij]; omega, by rw [if_neg this]; show _ = nI (if j = i then c else 2); rw [if_neg hij]; rfl⟩
  obtain ⟨kv, gv, mv, T1, S1, T2, q1, q2, q3, q4, q5, q6, q7, q8⟩ := days_inv hn h hR hch (M := 1) (by decide)
  obtain ⟨S3, z1, z2, z3⟩ := pd_m1 (an := 175) (by decide) (by decide) hsz (by omega) hch q5 q4
  have e0 : dS kv (fun j => if j = i then c else 2) sz 1 gv dy 0 = sm (dRu kv (fun j => if j = i then c else 2) gv dy) sz := Int32.zero_add _
  rw [e0] at q2
  refine Op.of (r := sm (dRu kv (fun j => if j = i then c else 2) gv dy) sz) (T1 := S1) (T2 := S3) ?_ ?_ (q8 S3 z2 z3 (fr_X11_passDay z1))
  · unfold m_X10_day
    rw [has_ok hR.2.1.1 hsz hi, Option.bind_some, if_neg (by decide), ch_ok hc, Option.bind_some, if_neg (by decide), q1, Option.bind_some, show m_X4_passDays T1 0 1 (nI i) (nI c) = _ from q2]
    rfl
  · show m_X11_day _ _ _ = _
    unfold m_X11_day
    have h9 : ¬ (9999 : Int32) ≤ nI dy := nI_ge (b := 9999) (by omega) (by decide)
    rw [dr_ok (by rw [q7]; exact hR.2.2.1.1) hsz hi, Option.bind_some, if_neg (by decide), chm_ok hc, Option.bind_some, if_neg (by decide), q3, Option.bind_some, q4.2.1, if_neg h9, z1]
    rfl
