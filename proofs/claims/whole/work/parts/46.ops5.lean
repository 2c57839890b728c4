theorem then_c (T : TT) (h : Nat × Nat) (k c g dy M w : Nat) (mi : Int32) (hh : kn h.1 h.2 = k) (hk : k < 6) (hc : c < 3) (hg : g < 100) (hdy : dy < 100000) (hM : M < 1000) (hw : w ≤ 1) (h8 : T.2.1 0 8 = nI dy) : ∀ (m d f : Nat), d + m = M → m < f → m_X10_then_l80 f T (nI M) (nI c) (nI w) h (nI (gIt k c g d)) (mi + sIt k dy c g d) (nI d) = some (if w = 0 then nI (gIt k c g M) else mi + sIt k dy c g M, T) := by
  intro m
  induction m with
  | zero =>
    intro d f hd hf
    obtain ⟨f, rfl⟩ : ∃ q, f = q + 1 := ⟨f - 1, by omega⟩
    have hd : d = M := by omega
    subst hd
    show m_X10_then_h80 _ _ _ _ _ _ _ _ _ = _
    unfold m_X10_then_h80
    rw [if_pos (nI_le (Nat.le_refl _) (by omega))]
    rcases (show w = 0 ∨ w = 1 by omega) with rfl | rfl
    · rfl
    · rfl
  | succ m ih =>
    intro d f hd hf
    obtain ⟨f, rfl⟩ : ∃ q, f = q + 1 := ⟨f - 1, by omega⟩
    show m_X10_then_h80 _ _ _ _ _ _ _ _ _ = _
    unfold m_X10_then_h80
    have hgd := gIt_lt hk hc hg d
    rw [if_neg (nI_ge (by omega) (by omega))]
    have hb : ∀ r : Int32, r = nI (if c = 0 then rF k ((dy + d) / 20 % 4) (gIt k c g d) else 0) → m_X10_then_b116 (m_X10_then_l80 f) T (nI M) (nI c) (nI w) h (nI (gIt k c g d)) (nI d) (mi + sIt k dy c g d) r = some (if w = 0 then nI (gIt k c g M) else mi + sIt k dy c g M, T) := fun r hr => by
      unfold m_X10_then_b116
      rw [bT_v, left_v hh hk hc hgd, Option.bind_some, bT_v, nI_1, hr, Int32.add_assoc]
      exact ih (d + 1) f (by omega) (by omega)
    by_cases c0 : c = 0
    · subst c0
      rw [if_pos (by decide), h8, ad_n, sea_v (by omega), Option.bind_some, runs_v hh hk (Nat.mod_lt _ (by decide)) hgd, Option.bind_some]
      exact hb _ (by rw [if_pos rfl])
    · have hne : ¬ nI c = 0 := nI_ne0 (by omega) (by omega)
      rw [if_neg hne]
      exact hb 0 (by rw [if_neg c0]; rfl)
theorem then_m (k c g dy M w i : Nat) (hk : k < 6) (hc : c < 3) (hg : g < 100) (hdy : dy < 100000) (hM : M < 1000) (hw : w ≤ 1) (hi : i < 6) : ∀ (m d f : Nat) (T : TT), d + m = M → m < f → T.1 10 1 (17 + i) = nI k → T.1 10 1 16 = nI dy → T.2.1 10 6 = nI (gIt k c g d) → T.2.1 10 7 = sIt k dy c g d → ∃ T3, m_X11_then_l53 f T (nI i) (nI M) (nI c) (nI w) (nI d) = some (if w = 0 then nI (gIt k c g M) else T.1 10 1 (10 + i) + sIt k dy c g M, T3) ∧ Sc T T3 := by
  intro m
  induction m with
  | zero =>
    intro d f T hd hf e1 e2 e3 e4
    obtain ⟨f, rfl⟩ : ∃ q, f = q + 1 := ⟨f - 1, by omega⟩
    have hd : d = M := by omega
    subst hd
    refine ⟨T, ?_, Fr.rf⟩
    show m_X11_then_h53 _ _ _ _ _ _ _ = _
    unfold m_X11_then_h53
    have e10 : (10 : Int32) + nI i = nI (10 + i) := ad_n 10 i
    rw [if_pos (nI_le (Nat.le_refl _) (by omega)), e3, e4, e10, if_pos (inb_n (by omega) (by decide)), cl_n (by omega)]
    rcases (show w = 0 ∨ w = 1 by omega) with rfl | rfl
    · rfl
    · rfl
  | succ m ih =>
    intro d f T hd hf e1 e2 e3 e4
    obtain ⟨f, rfl⟩ : ∃ q, f = q + 1 := ⟨f - 1, by omega⟩
    show ∃ T3, m_X11_then_h53 _ _ _ _ _ _ _ = _ ∧ _
    unfold m_X11_then_h53
    have hgd := gIt_lt hk hc hg d
    rw [if_neg (nI_ge (by omega) (by omega)), kind_m hi, Option.bind_some, e1, e2, ad_n, goDay_v hk (by omega) hc hgd e3, Option.bind_some, bT_v, nI_1]
    obtain ⟨T3, z1, z2⟩ := ih (d + 1) f (goF T k (dy + d) c (gIt k c g d)) (by omega) (by omega) e1 e2 (goF_6 _ _ _ _ _) (by rw [goF_7, e4]; rfl)
    exact ⟨T3, z1, (goF_sc _ _ _ _ _).trans z2⟩
theorem op_then {n : Nat} {T : TT} (hn : n < 64) (h : Inv n T) (x m c w : Int32) : Op n (m_X10_then T x m c w) (fun T => m_X11_then T x m c w) := by
  obtain ⟨sz, nc, tc, uc, dy, hR⟩ := h.t0
  have hsz := hR.1.1
  have hbad : ∀ (e1 : m_X10_then T x m c w = some (-2, rfs T 0)) (e2 : m_X11_then (rfs T 0) x m c w = some (-2, rfm (rfs T 0) 0)), Op n (m_X10_then T x m c w) (fun T => m_X11_then T x m c w) := fun e1 e2 => Op.of e1 e2 (h.refuse hn (by decide))
  have h0 : (rfs T 0).1 10 1 0 = nI sz := by rw [rfs_told]; exact hR.2.2.1.1
  rcases ixd x sz hsz with hb | ⟨i, hi, rfl⟩
  · refine hbad ?_ ?_
    · unfold m_X10_then
      rw [has_bad hR.2.1.1 hb]
      rfl
    · unfold m_X11_then
      rw [dr_bad h0 hsz hb]
      rfl
  rcases rng m 0 99 (by decide) (by decide) with hb | ⟨M, -, hM, rfl⟩
  · refine hbad ?_ ?_
    · unfold m_X10_then
      rw [has_ok hR.2.1.1 hsz hi, Option.bind_some, if_neg (by decide), show m_X10_within m 0 99 = some 0 from w_bad hb]
      rfl
    · unfold m_X11_then
      rw [dr_ok h0 hsz hi, Option.bind_some, if_neg (by decide), in_bad (lo := nI 0) (hi := nI 99) (by decide) (by decide) hb]
      rfl
  have wM : m_X10_within (nI M) 0 99 = some 1 := w_ok (Nat.zero_le M) hM (by decide)
  have nM : m_X11_in (nI M).toInt64 0 99 = some 1 := in_ok (lo := nI 0) (hi := nI 99) (by decide) (by decide) (nI_rng (Nat.zero_le M) hM (by decide))
  rcases rng c 0 2 (by decide) (by decide) with hb | ⟨c, -, hc, rfl⟩
  · refine hbad ?_ ?_
    · unfold m_X10_then
      rw [has_ok hR.2.1.1 hsz hi, Option.bind_some, if_neg (by decide), wM, Option.bind_some, if_neg (by decide), ch_bad hb]
      rfl
    · unfold m_X11_then
      rw [dr_ok h0 hsz hi, Option.bind_some, if_neg (by decide), nM, Option.bind_some, if_neg (by decide), chm_bad hb]
      rfl
  rcases rng w 0 1 (by decide) (by decide) with hb | ⟨w, -, hw, rfl⟩
  · refine hbad ?_ ?_
    · unfold m_X10_then
      rw [has_ok hR.2.1.1 hsz hi, Option.bind_some, if_neg (by decide), wM, Option.bind_some, if_neg (by decide), ch_ok hc, Option.bind_some, if_neg (by decide), show m_X10_within w 0 1 = some 0 from w_bad hb]
      rfl
    · unfold m_X11_then
      rw [dr_ok h0 hsz hi, Option.bind_some, if_neg (by decide), nM, Option.bind_some, if_neg (by decide), chm_ok hc, Option.bind_some, if_neg (by decide), in_bad (lo := nI 0) (hi := nI 1) (by decide) (by decide) hb]
      rfl
  obtain ⟨⟨k, hk, k1, k2⟩, ⟨g, hg, g1, g2⟩, m1⟩ := hR.2.2.2.1 i hi
  have hdy : dy < 100000 := by have := hR.1.2.2.2.2; have := h.1; omega
  have q1 := then_c T (0, 8 + k) k c g dy M w (T.1 0 4 i) (kn0 k) hk (by omega) hg hdy (by omega) hw hR.2.1.2.1 M 0 FU (by omega) (FU_lt (by omega))
  obtain ⟨T3, q3, q4⟩ := then_m k c g dy M w i hk (by omega) hg hdy (by omega) hw (by omega) M 0 FU (sI (sI T 10 6 (nI g)) 10 7 0) (by omega) (FU_lt (by omega)) k2 hR.2.2.1.2.1 (by rw [sI_v, if_neg (by omega), sI_v, if_pos ⟨rfl, rfl⟩]; rfl) (by rw [sI_v, if_pos ⟨rfl, rfl⟩]; rfl)
  refine Op.of (r := if w = 0 then nI (gIt k c g M) else T.1 0 4 i + sIt k dy c g M) (T1 := T) (T2 := T3) ?_ ?_ (h.keep hn (Fr.trans ((Fr.rf.wI rfl (by simp [SCI])).wI rfl (by simp [SCI])) q4))
  · unfold m_X10_then
    rw [has_ok hR.2.1.1 hsz hi, Option.bind_some, if_neg (by decide), wM, Option.bind_some, if_neg (by decide), ch_ok hc, Option.bind_some, if_neg (by decide), show m_X10_within (nI w) 0 1 = some 1 from w_ok (Nat.zero_le w) hw (by decide), Option.bind_some, if_neg (by decide), kind_c hR.2.1.1 hsz hi k1 hk, Option.bind_some, if_pos (inb_n (by omega) (by decide)), bT_v, if_pos (inb_n (by omega) (by decide)), bT_v, cl_n (by omega), g1]
    have e0 : T.1 0 4 i + sIt k dy c g 0 = T.1 0 4 i := by show T.1 0 4 i + 0 = _; simp
    rw [e0] at q1
    exact q1
  · show m_X11_then _ _ _ _ _ = _
    unfold m_X11_then
    rw [dr_ok hR.2.2.1.1 hsz hi, Option.bind_some, if_neg (by decide), nM, Option.bind_some, if_neg (by decide), chm_ok hc, Option.bind_some, if_neg (by decide), in_ok (lo := nI 0) (hi := nI 1) (by decide) (by decide) (nI_rng (Nat.zero_le w) hw (by decide)), Option.bind_some, if_neg (by decide), lay_v (by omega), Option.bind_some, g2, m1]
    exact q3
