/-! how much one had -/
theorem mf_l {h : Nat × Nat} {k g N : Nat} (hh : kn h.1 h.2 = k) (hk : k < 6) (hg : g < 100) (hN : N < 1000) : ∀ (m d n : Nat), d + m = N → m < n → m_X3_milesFromFirstDay_l8 n h (nI N) (sIt k 0 0 g d) (nI (gIt k 0 g d)) (nI d) = some (sIt k 0 0 g N) := by
  intro m
  induction m with
  | zero =>
    intro d n hd hn
    obtain ⟨n, rfl⟩ : ∃ q, n = q + 1 := ⟨n - 1, by omega⟩
    have hd : d = N := by omega
    subst hd
    show m_X3_milesFromFirstDay_h8 _ _ _ _ _ _ = _
    unfold m_X3_milesFromFirstDay_h8
    rw [if_pos (nI_le (Nat.le_refl _) (by omega))]
  | succ m ih =>
    intro d n hd hn
    obtain ⟨n, rfl⟩ : ∃ q, n = q + 1 := ⟨n - 1, by omega⟩
    have hgd := gIt_lt (c := 0) hk (by decide) hg d
    have hI := ih (d + 1) n (by omega) (by omega)
    have es : sIt k 0 0 g (d + 1) = sIt k 0 0 g d + nI (rF k (d / 20 % 4) (gIt k 0 g d)) := by
      show sIt k 0 0 g d + nI (if 0 = 0 then rF k ((0 + d) / 20 % 4) (gIt k 0 g d) else 0) = _
      rw [if_pos rfl, Nat.zero_add]
    rw [es] at hI
    show m_X3_milesFromFirstDay_h8 _ _ _ _ _ _ = _
    unfold m_X3_milesFromFirstDay_h8
    rw [if_neg (nI_ge (by omega) (by omega)), sea_v (by omega), Option.bind_some, runs_v hh hk (Nat.mod_lt _ (by decide)) hgd, Option.bind_some, bT_v, show v_left h 0 (nI (gIt k 0 g d)) = _ from left_v (c := 0) hh hk (by decide) hgd, Option.bind_some, bT_v, nI_1]
    exact hI
theorem mf_v {h : Nat × Nat} {k g N : Nat} (hh : kn h.1 h.2 = k) (hk : k < 6) (hg : g < 100) (hN : N < 1000) : v_milesFromFirstDay h (nI g) (nI N) = some (sIt k 0 0 g N) := by
  have e : v_milesFromFirstDay h (nI g) (nI N) = m_X3_milesFromFirstDay h (nI g) (nI N) := by
    unfold v_milesFromFirstDay
    simp
  rw [e]
  exact mf_l hh hk hg hN N 0 FU (by omega) (FU_lt (by omega))
def tfit (a : Nat → Int32) (i k g m : Nat) : Prop := a (59 + 3 * m) = nI i → sIt k 0 0 g (a (59 + (3 * m + 1))).toNatClampNeg = a (59 + (3 * m + 2))
def tall (a : Nat → Int32) (i k g tc : Nat) : Prop := ∀ m, m < tc → tfit a i k g m
theorem tF_c {T : TT} {a : Nat → Int32} {bd sz nc tc uc dy : Nat} (hR : RK T 0 a bd sz nc tc uc dy) {i k g : Nat} (hk : k < 6) (hg : g < 100) : ∀ (q m n : Nat), m + q = tc → q < n → (∀ j, j < m → tfit a i k g j) → m_X4_tripsFit_l9 T 0 n (nI i) (nI g) (0, 8 + k) (nI m) = some (nI 1) ∧ tall a i k g tc ∨ m_X4_tripsFit_l9 T 0 n (nI i) (nI g) (0, 8 + k) (nI m) = some (nI 0) ∧ ¬ tall a i k g tc := by
  intro q
  obtain ⟨⟨b1, b2, b3, b4, b5⟩, ⟨i1, i2, i3, i4, i5⟩, ⟨j1, j2, j3, j4, j5⟩, hd, hno, htr, hpa⟩ := hR
  induction q with
  | zero =>
    intro m n hm hn hf
    obtain ⟨n, rfl⟩ : ∃ q, n = q + 1 := ⟨n - 1, by omega⟩
    have hm : m = tc := by omega
    subst hm
    refine Or.inl ⟨?_, hf⟩
    show m_X4_tripsFit_h9 _ _ _ _ _ _ _ = _
    unfold m_X4_tripsFit_h9
    rw [i4, if_pos (nI_le (Nat.le_refl _) (by omega))]
    rfl
  | succ q ih =>
    intro m n hm hn hf
    obtain ⟨n, rfl⟩ : ∃ q, n = q + 1 := ⟨n - 1, by omega⟩
    show m_X4_tripsFit_h9 _ _ _ _ _ _ _ = _ ∧ _ ∨ m_X4_tripsFit_h9 _ _ _ _ _ _ _ = _ ∧ _
    unfold m_X4_tripsFit_h9
    have h4 : ¬ (4 : Int32) ≤ nI m := nI_ge (b := 4) (by omega) (by decide)
    have e0 : nI m * 3 = nI (3 * m) := by rw [Nat.mul_comm]; exact mu_n m 3
    have e1 : nI (3 * m) + 1 = nI (3 * m + 1) := ad_n _ 1
    have e2 : nI (3 * m) + 2 = nI (3 * m + 2) := ad_n _ 2
    have k0 : (nI (3 * m)).toNatClampNeg = 3 * m := cl_n (by omega)
    have k1 : (nI (3 * m + 1)).toNatClampNeg = 3 * m + 1 := cl_n (by omega)
    have k2 : (nI (3 * m + 2)).toNatClampNeg = 3 * m + 2 := cl_n (by omega)
    obtain ⟨N, hN, v1⟩ := htr.2 m (by omega)
    have ks : kn (0, 8 + k).1 (0, 8 + k).2 = k := kn0 k
    have g1 : (a (59 + (3 * m + 1))).toNatClampNeg = N := by rw [v1, cl_n (by omega)]
    have go : ∀ hfit : tfit a i k g m, m_X4_tripsFit_b69 T 0 (m_X4_tripsFit_l9 T 0 n) (nI i) (nI g) (0, 8 + k) (nI m) = some (nI 1) ∧ tall a i k g tc ∨ m_X4_tripsFit_b69 T 0 (m_X4_tripsFit_l9 T 0 n) (nI i) (nI g) (0, 8 + k) (nI m) = some (nI 0) ∧ ¬ tall a i k g tc := fun hfit => by
      unfold m_X4_tripsFit_b69
      rw [bT_v, nI_1]
      refine ih (m + 1) n (by omega) (by omega) (fun j hj => ?_)
      by_cases hjm : j < m
      · exact hf j hjm
      · have : j = m := by omega
        subst this
        exact hfit
    rw [i4, if_neg (nI_ge (by omega) (by omega)), if_neg h4, bT_v, e0, e1, e2, if_pos (inb_n (by omega) (by decide)), k0, htr.1 (3 * m) (by omega)]
    by_cases hit : a (59 + 3 * m) = nI i
    · rw [if_pos hit, if_pos (inb_n (by omega) (by decide)), k1, htr.1 (3 * m + 1) (by omega), v1, mf_v ks hk hg (by omega), Option.bind_some, if_pos (inb_n (by omega) (by decide)), k2, htr.1 (3 * m + 2) (by omega)]
      by_cases hx : sIt k 0 0 g N = a (59 + (3 * m + 2))
      · rw [if_pos hx]
        exact go (fun _ => by rw [g1]; exact hx)
      · rw [if_neg hx]
        refine Or.inr ⟨rfl, fun hh => hx ?_⟩
        have := hh m (by omega) hit
        rw [g1] at this
        exact this
    · rw [if_neg hit]
      exact go (fun q => absurd q hit)
/-- the reference's -/
def DT (T : TT) (tc i k : Nat) : Prop := T.1 10 1 2 = nI tc ∧ T.1 10 1 (17 + i) = nI k ∧ ∀ m, m < tc → ∃ n, n ≤ 30 ∧ T.1 10 1 (59 + (3 * m + 1)) = nI n
theorem tI_m {i k g N : Nat} (hi : i < 6) (hk : k < 6) (hg : g < 100) (x3 : Int32) (m : Nat) (hm : m < 4) (hN : N ≤ 30) (rec5 : TT → Int32 → Int32 → Int32 → Int32 → Option (Int32 × TT)) : ∀ (q d n : Nat) (T : TT), d + q = N → q < n → T.1 10 1 (17 + i) = nI k → T.1 10 1 (59 + (3 * m + 1)) = nI N → T.2.1 10 6 = nI (gIt k 0 g d) → T.2.1 10 7 = sIt k 0 0 g d → ∃ T', m_X11_fits_l38 rec5 n T (nI i) (nI g) x3 (nI m) (nI (59 + 3 * m)) (nI d) = (if x3 = 0 then m_X11_fits_b105 rec5 T' (nI i) (nI g) (nI m) else if T'.1 10 1 (59 + 3 * m) = nI i then (if sIt k 0 0 g N = T'.1 10 1 (59 + (3 * m + 2)) then m_X11_fits_b101 rec5 T' (nI i) (nI g) (nI m) else m_X11_fits_b105 rec5 T' (nI i) (nI g) (nI m)) else m_X11_fits_b101 rec5 T' (nI i) (nI g) (nI m)) ∧ Sc T T' := by
  have e1 : nI (59 + 3 * m) + 1 = nI (59 + (3 * m + 1)) := ad_n _ 1
  have e2 : nI (59 + 3 * m) + 2 = nI (59 + (3 * m + 2)) := ad_n _ 2
  have k0 : (nI (59 + 3 * m)).toNatClampNeg = 59 + 3 * m := cl_n (by omega)
  have k1 : (nI (59 + (3 * m + 1))).toNatClampNeg = 59 + (3 * m + 1) := cl_n (by omega)
  have k2 : (nI (59 + (3 * m + 2))).toNatClampNeg = 59 + (3 * m + 2) := cl_n (by omega)
  intro q
  induction q with
  | zero =>
    intro d n T hd hn h17 h59 h6 h7
    obtain ⟨n, rfl⟩ : ∃ q, n = q + 1 := ⟨n - 1, by omega⟩
    have hd : d = N := by omega
    subst hd
    refine ⟨T, ?_, Fr.rf⟩
    show m_X11_fits_h38 _ _ _ _ _ _ _ _ _ = _
    unfold m_X11_fits_h38
    rw [e1, e2, if_pos (inb_n (by omega) (by decide)), k1, h59, if_pos (nI_le (Nat.le_refl _) (by omega)), if_pos (inb_n (by omega) (by decide)), k0, if_pos (inb_n (by omega) (by decide)), k2, h7]
  | succ q ih =>
    intro d n T hd hn h17 h59 h6 h7
    obtain ⟨n, rfl⟩ : ∃ q, n = q + 1 := ⟨n - 1, by omega⟩
    have hgd := gIt_lt (c := 0) hk (by decide) hg d
    obtain ⟨T', z1, z2⟩ := ih (d + 1) n (goF T k d 0 (gIt k 0 g d)) (by omega) (by omega) h17 h59 (goF_6 _ _ _ _ _) (by
      rw [goF_7, h7]
      show _ = sIt k 0 0 g d + nI (if 0 = 0 then rF k ((0 + d) / 20 % 4) (gIt k 0 g d) else 0)
      rw [Nat.zero_add])
    refine ⟨T', ?_, (goF_sc _ _ _ _ _).trans z2⟩
    show m_X11_fits_h38 _ _ _ _ _ _ _ _ _ = _
    unfold m_X11_fits_h38
    rw [e1, if_pos (inb_n (by omega) (by decide)), k1, h59, if_neg (nI_ge (by omega) (by omega)), kind_m hi, Option.bind_some, h17, show m_X11_goDay T (nI k) (nI d) 0 = _ from goDay_v (c := 0) hk (by omega) (by decide) hgd h6, Option.bind_some, bT_v, nI_1]
    exact z1
theorem tF_m {tc i k g : Nat} (htc : tc ≤ 4) (hi : i < 6) (hk : k < 6) (hg : g < 100) (a : Nat → Int32) : ∀ (q m n : Nat) (T : TT) (so : Int32), m + q = tc → q < n → T.1 10 1 = a → DT T tc i k → (so = 1 ∧ (∀ j, j < m → tfit a i k g j) ∨ so = 0 ∧ ¬ tall a i k g tc) → ∃ T', (m_X11_fits_l5 n T (nI i) (nI g) so (nI m) = some (nI 1, T') ∧ tall a i k g tc ∨ m_X11_fits_l5 n T (nI i) (nI g) so (nI m) = some (nI 0, T') ∧ ¬ tall a i k g tc) ∧ Sc T T' := by
  intro q
  induction q with
  | zero =>
    intro m n T so hm hn ha hD hf
    obtain ⟨n, rfl⟩ : ∃ q, n = q + 1 := ⟨n - 1, by omega⟩
    have hm : m = tc := by omega
    subst hm
    refine ⟨T, ?_, Fr.rf⟩
    show m_X11_fits_h5 _ _ _ _ _ _ = _ ∧ _ ∨ m_X11_fits_h5 _ _ _ _ _ _ = _ ∧ _
    unfold m_X11_fits_h5
    rw [hD.1, if_pos (nI_le (Nat.le_refl _) (by omega))]
    rcases hf with ⟨rfl, hf⟩ | ⟨rfl, hf⟩
    · exact Or.inl ⟨rfl, hf⟩
    · exact Or.inr ⟨rfl, hf⟩
  | succ q ih =>
    intro m n T so hm hn ha hD hf
    obtain ⟨n, rfl⟩ : ∃ q, n = q + 1 := ⟨n - 1, by omega⟩
    obtain ⟨N, hN, v1⟩ := hD.2.2 m (by omega)
    have g1 : (a (59 + (3 * m + 1))).toNatClampNeg = N := by rw [← ha, v1, cl_n (by omega)]
    have e0 : (59 : Int32) + (3 : Int32) * nI m = nI (59 + 3 * m) := by
      rw [show (3 : Int32) * nI m = nI (3 * m) from mu_n 3 m]
      exact ad_n 59 _
    obtain ⟨T1, z1, z2⟩ := tI_m hi hk hg so m (by omega) hN (m_X11_fits_l5 n) N 0 FU (sI (sI T 10 6 (nI g)) 10 7 0) (by omega) (FU_lt (by omega)) hD.2.1 v1 (by rw [sI_v, if_neg (by omega), sI_v, if_pos ⟨rfl, rfl⟩]; rfl) (by rw [sI_v, if_pos ⟨rfl, rfl⟩]; rfl)
    have z3 : Sc T T1 := Fr.trans ((Fr.rf.wI rfl (by simp [SCI])).wI rfl (by simp [SCI])) z2
    have c1 : T1.1 10 1 = T.1 10 1 := z3.1 10 1 (by simp [SCA])
    have hD1 : DT T1 tc i k := by unfold DT; rw [c1]; exact hD
    have eq0 : m_X11_fits_l5 (n + 1) T (nI i) (nI g) so (nI m) = m_X11_fits_l38 (m_X11_fits_l5 n) FU (sI (sI T 10 6 (nI g)) 10 7 0) (nI i) (nI g) so (nI m) (nI (59 + 3 * m)) (nI 0) := by
      show m_X11_fits_h5 _ _ _ _ _ _ = _
      unfold m_X11_fits_h5
      rw [hD.1, if_neg (nI_ge (by omega) (by omega)), bT_v, bT_v, bT_v, e0]
      rfl
    rw [eq0, z1]
    have go : ∀ so', (so' = 1 ∧ (∀ j, j < m + 1 → tfit a i k g j) ∨ so' = 0 ∧ ¬ tall a i k g tc) → ∃ T', (m_X11_fits_b106 (m_X11_fits_l5 n) T1 (nI i) (nI g) (nI m) so' = some (nI 1, T') ∧ tall a i k g tc ∨ m_X11_fits_b106 (m_X11_fits_l5 n) T1 (nI i) (nI g) (nI m) so' = some (nI 0, T') ∧ ¬ tall a i k g tc) ∧ Sc T T' := fun so' hso => by
      unfold m_X11_fits_b106
      rw [bT_v, nI_1]
      obtain ⟨T2, y1, y2⟩ := ih (m + 1) n T1 so' (by omega) (by omega) (by rw [c1]; exact ha) hD1 hso
      exact ⟨T2, y1, z3.trans y2⟩
    rcases hf with ⟨rfl, hf⟩ | ⟨rfl, hf⟩
    · rw [if_neg (by decide), c1, ha]
      by_cases hit : a (59 + 3 * m) = nI i
      · rw [if_pos hit]
        by_cases hx : sIt k 0 0 g N = a (59 + (3 * m + 2))
        · rw [if_pos hx]
          refine go 1 (Or.inl ⟨rfl, fun j hj => ?_⟩)
          by_cases hjm : j < m
          · exact hf j hjm
          · have : j = m := by omega
            subst this
            exact fun _ => by rw [g1]; exact hx
        · rw [if_neg hx]
          refine go 0 (Or.inr ⟨rfl, fun hh => hx ?_⟩)
          have := hh m (by omega) hit
          rw [g1] at this
          exact this
      · rw [if_neg hit]
        refine go 1 (Or.inl ⟨rfl, fun j hj => ?_⟩)
        by_cases hjm : j < m
        · exact hf j hjm
        · have : j = m := by omega
          subst this
          exact fun q => absurd q hit
    · rw [if_pos rfl]
      exact go 0 (Or.inr ⟨rfl, hf⟩)
def hdF (b : Nat → Bool) : Nat → Nat × Int32
  | 0 => (0, -1)
  | g + 1 => if b g = true then ((hdF b g).1 + 1, if (hdF b g).1 = 0 then nI g else (hdF b g).2) else hdF b g
theorem hdF_s (b : Nat → Bool) (g : Nat) : hdF b (g + 1) = if b g = true then ((hdF b g).1 + 1, if (hdF b g).1 = 0 then nI g else (hdF b g).2) else hdF b g := rfl
theorem hdF_i (b : Nat → Bool) : ∀ g, g < 1000 → (hdF b g).1 ≤ g ∧ ((hdF b g).1 = 0 ∧ (hdF b g).2 = -1 ∨ ¬ (hdF b g).1 = 0 ∧ ¬ (hdF b g).2 = -1)
  | 0, _ => ⟨Nat.le_refl _, Or.inl ⟨rfl, rfl⟩⟩
  | g + 1, hg => by
    obtain ⟨h1, h2⟩ := hdF_i b g (by omega)
    rw [hdF_s]
    by_cases hb : b g = true
    · rw [if_pos hb]
      refine ⟨Nat.succ_le_succ h1, Or.inr ⟨Nat.succ_ne_zero _, ?_⟩⟩
      show ¬ (if (hdF b g).1 = 0 then nI g else (hdF b g).2) = -1
      rcases h2 with ⟨h2, h3⟩ | ⟨h2, h3⟩
      · rw [if_pos h2]
        intro e
        have := congrArg Int32.toInt e
        rw [nI_toInt (by omega)] at this
        have e4 : (-1 : Int32).toInt = -1 := by decide
        omega
      · rw [if_neg h2]
        exact h3
    · rw [if_neg hb]
      exact ⟨by omega, h2⟩
theorem had_c {T : TT} {a : Nat → Int32} {bd sz nc tc uc dy : Nat} (hR : RK T 0 a bd sz nc tc uc dy) {i k : Nat} (hi : i < sz) (hk : k < 6) (hk2 : T.1 0 2 i = nI k) (b : Nat → Bool) (hb : ∀ g, b g = true ↔ tall a i k g tc) (x2 : Int32) : ∀ (q g n : Nat), g + q = 100 → q < n → m_X10_had_l35 n T (nI i) x2 (nI (hdF b g).1) (hdF b g).2 (nI g) = some (if x2 = 0 then nI (hdF b 100).1 else (hdF b 100).2, T) := by
  intro q
  induction q with
  | zero =>
    intro g n hg hn
    obtain ⟨n, rfl⟩ : ∃ q, n = q + 1 := ⟨n - 1, by omega⟩
    have hg : g = 100 := by omega
    subst hg
    show m_X10_had_h35 _ _ _ _ _ _ _ = _
    unfold m_X10_had_h35
    rw [if_pos (by decide)]
    by_cases h2 : x2 = 0
    · rw [if_pos h2, if_pos h2]
    · rw [if_neg h2, if_neg h2]
  | succ q ih =>
    intro g n hg hn
    obtain ⟨n, rfl⟩ : ∃ q, n = q + 1 := ⟨n - 1, by omega⟩
    have hI := ih (g + 1) n (by omega) (by omega)
    obtain ⟨h1, h2⟩ := hdF_i b g (by omega)
    have h100 : ¬ (100 : Int32) ≤ nI g := nI_ge (b := 100) (by omega) (by decide)
    have et : m_X4_tripsFit T 0 (nI i) (nI g) = m_X4_tripsFit_l9 T 0 FU (nI i) (nI g) (0, 8 + k) 0 := by
      unfold m_X4_tripsFit
      rw [kind_c hR.2.1.1 hR.1.1 hi hk2 hk, Option.bind_some]
    show m_X10_had_h35 _ _ _ _ _ _ _ = _
    unfold m_X10_had_h35
    rw [if_neg h100, et]
    rw [hdF_s] at hI
    rcases tF_c hR (i := i) hk (show g < 100 by omega) tc 0 FU (by omega) (FU_lt (by have := hR.1.2.2.1; omega)) (fun j hj => absurd hj (by omega)) with ⟨e, hh⟩ | ⟨e, hh⟩
    · rw [show m_X4_tripsFit_l9 T 0 FU (nI i) (nI g) (0, 8 + k) 0 = some (nI 1) from e, Option.bind_some, if_neg (by decide), bT_v]
      rw [if_pos ((hb g).mpr hh)] at hI
      unfold m_X10_had_b71 m_X10_had_b73
      rcases h2 with ⟨h2, h3⟩ | ⟨h2, h3⟩
      · rw [if_pos h3, bT_v, nI_1, nI_1]
        rw [if_pos h2] at hI
        exact hI
      · rw [if_neg h3, bT_v, nI_1, nI_1]
        rw [if_neg h2] at hI
        exact hI
    · rw [show m_X4_tripsFit_l9 T 0 FU (nI i) (nI g) (0, 8 + k) 0 = some (nI 0) from e, Option.bind_some, if_pos (by decide)]
      rw [if_neg (fun z => hh ((hb g).mp z))] at hI
      unfold m_X10_had_b73
      rw [bT_v, nI_1]
      exact hI
theorem had_m {tc i k : Nat} (htc : tc ≤ 4) (hi : i < 6) (hk : k < 6) (a : Nat → Int32) (b : Nat → Bool) (hb : ∀ g, b g = true ↔ tall a i k g tc) (x2 : Int32) : ∀ (q g n : Nat) (T : TT), g + q = 100 → q < n → T.1 10 1 = a → DT T tc i k → ∃ T', m_X11_had_l33 n T (nI i) x2 (nI (hdF b g).1) (hdF b g).2 (nI g) = some (if x2 = 0 then nI (hdF b 100).1 else (hdF b 100).2, T') ∧ Sc T T' := by
  intro q
  induction q with
  | zero =>
    intro g n T hg hn ha hD
    obtain ⟨n, rfl⟩ : ∃ q, n = q + 1 := ⟨n - 1, by omega⟩
    have hg : g = 100 := by omega
    subst hg
    refine ⟨T, ?_, Fr.rf⟩
    show m_X11_had_h33 _ _ _ _ _ _ _ = _
    unfold m_X11_had_h33
    rw [if_pos (by decide)]
    by_cases h2 : x2 = 0
    · rw [if_pos h2, if_pos h2]
    · rw [if_neg h2, if_neg h2]
  | succ q ih =>
    intro g n T hg hn ha hD
    obtain ⟨n, rfl⟩ : ∃ q, n = q + 1 := ⟨n - 1, by omega⟩
    obtain ⟨h1, h2⟩ := hdF_i b g (by omega)
    have h99 : ¬ (99 : Int32) < nI g := nI_nlt (b := g) (a := 99) (by omega) (by decide)
    obtain ⟨T1, y, z⟩ := tF_m htc hi hk (show g < 100 by omega) a tc 0 FU T 1 (by omega) (FU_lt (by omega)) ha hD (Or.inl ⟨rfl, fun j hj => absurd hj (by omega)⟩)
    have c1 : T1.1 10 1 = T.1 10 1 := z.1 10 1 (by simp [SCA])
    obtain ⟨T2, hI, z2⟩ := ih (g + 1) n T1 (by omega) (by omega) (by rw [c1]; exact ha) (by unfold DT; rw [c1]; exact hD)
    refine ⟨T2, ?_, z.trans z2⟩
    show m_X11_had_h33 _ _ _ _ _ _ _ = _
    unfold m_X11_had_h33
    rw [if_neg h99]
    rw [hdF_s] at hI
    rcases y with ⟨e, hh⟩ | ⟨e, hh⟩
    · rw [show m_X11_fits T (nI i) (nI g) = some (nI 1, T1) from e, Option.bind_some, if_neg (show ¬ nI 1 = 0 by decide)]
      rw [if_pos ((hb g).mpr hh)] at hI
      unfold m_X11_had_b61 m_X11_had_b66
      rcases h2 with ⟨h2, h3⟩ | ⟨h2, h3⟩
      · have e0 : nI (hdF b g).1 = 0 := by rw [h2]; rfl
        rw [if_pos e0, bT_v, bT_v, nI_1, nI_1]
        rw [if_pos h2] at hI
        exact hI
      · have e0 : ¬ nI (hdF b g).1 = 0 := nI_ne0 (by omega) (by omega)
        rw [if_neg e0, bT_v, bT_v, nI_1, nI_1]
        rw [if_neg h2] at hI
        exact hI
    · rw [show m_X11_fits T (nI i) (nI g) = some (nI 0, T1) from e, Option.bind_some, if_pos (show nI 0 = 0 by decide)]
      rw [if_neg (fun z => hh ((hb g).mp z))] at hI
      unfold m_X11_had_b66
      rw [bT_v, nI_1]
      exact hI
theorem op_had {n : Nat} {T : TT} (hn : n < 64) (h : Inv n T) (x w : Int32) : Op n (m_X10_had T x w) (fun T => m_X11_had T x w) := by
  obtain ⟨sz, nc, tc, uc, dy, hR⟩ := h.t0
  have hsz := hR.1.1
  have hbad : ∀ (e1 : m_X10_had T x w = some (-2, rfs T 0)) (e2 : m_X11_had (rfs T 0) x w = some (-2, rfm (rfs T 0) 0)), Op n (m_X10_had T x w) (fun T => m_X11_had T x w) := fun e1 e2 => Op.of e1 e2 (h.refuse hn (by decide))
  have h0 : (rfs T 0).1 10 1 0 = nI sz := by rw [rfs_told]; exact hR.2.2.1.1
  rcases ixd x sz hsz with hb | ⟨i, hi, rfl⟩
  · refine hbad ?_ ?_
    · unfold m_X10_had
      rw [has_bad hR.2.1.1 hb]
      rfl
    · unfold m_X11_had
      rw [dr_bad h0 hsz hb]
      rfl
  rcases rng w 0 1 (by decide) (by decide) with hb | ⟨w, -, hw, rfl⟩
  · refine hbad ?_ ?_
    · unfold m_X10_had
      rw [has_ok hR.2.1.1 hsz hi, Option.bind_some, if_neg (by decide), show m_X10_within w 0 1 = some 0 from w_bad hb]
      rfl
    · unfold m_X11_had
      rw [dr_ok h0 hsz hi, Option.bind_some, if_neg (by decide), in_bad (lo := nI 0) (hi := nI 1) (by decide) (by decide) hb]
      rfl
  obtain ⟨⟨k, hk, k1, k2⟩, -, -⟩ := hR.2.2.2.1 i hi
  have hb : ∃ b : Nat → Bool, ∀ g, b g = true ↔ tall (T.1 10 1) i k g tc := ⟨fun g => @decide (tall (T.1 10 1) i k g tc) (Classical.propDecidable _), fun g => @decide_eq_true_iff _ (Classical.propDecidable _)⟩
  obtain ⟨b, hb⟩ := hb
  have q1 := had_c hR hi hk k1 b hb (nI w) 100 0 FU (by omega) (FU_lt (by omega))
  obtain ⟨T1, q2, q3⟩ := had_m (i := i) hR.1.2.2.1 (by omega) hk (T.1 10 1) b hb (nI w) 100 0 FU T (by omega) (FU_lt (by omega)) rfl ⟨hR.2.2.1.2.2.2.1, k2, hR.2.2.2.2.2.1.2⟩
  have q1' : m_X10_had_l35 FU T (nI i) (nI w) 0 (-1) 0 = some (if nI w = 0 then nI (hdF b 100).1 else (hdF b 100).2, T) := q1
  have q2' : m_X11_had_l33 FU T (nI i) (nI w) 0 (-1) 0 = some (if nI w = 0 then nI (hdF b 100).1 else (hdF b 100).2, T1) := q2
  generalize (if nI w = 0 then nI (hdF b 100).1 else (hdF b 100).2) = r at q1' q2'
  refine Op.of (r := r) (T1 := T) (T2 := T1) ?_ ?_ (h.keep hn q3)
  · unfold m_X10_had
    rw [has_ok hR.2.1.1 hsz hi, Option.bind_some, if_neg (by decide), show m_X10_within (nI w) 0 1 = some 1 from w_ok (Nat.zero_le w) hw (by decide), Option.bind_some, if_neg (by decide)]
    exact q1'
  · show m_X11_had _ _ _ = _
    unfold m_X11_had
    rw [dr_ok hR.2.2.1.1 hsz hi, Option.bind_some, if_neg (by decide), in_ok (lo := nI 0) (hi := nI 1) (by decide) (by decide) (nI_rng (Nat.zero_le w) hw (by decide)), Option.bind_some, if_neg (by decide)]
    exact q2'
