/-! a day of all -/
def dGr (kv ch gv : Nat → Nat) : Nat → Nat := fun i => lF (kv i) (ch i) (gv i)
def dRu (kv ch gv : Nat → Nat) (dy : Nat) : Nat → Int32 := fun i => nI (if ch i = 0 then rF (kv i) (dy / 20 % 4) (gv i) else 0)
def dP (kv ch gv : Nat → Nat) (j : Nat) : Nat → Nat := fun i => if i < j then dGr kv ch gv i else gv i
def mP (kv ch gv : Nat → Nat) (mv : Nat → Int32) (dy j : Nat) : Nat → Int32 := fun i => if i < j then mv i + dRu kv ch gv dy i else mv i
def CS (T : TT) (g sz : Nat) (kv gv : Nat → Nat) (mv : Nat → Int32) (dy : Nat) : Prop := T.2.1 g 7 = nI sz ∧ T.2.1 g 8 = nI dy ∧ ∀ i, i < sz → T.1 g 2 i = nI (kv i) ∧ T.1 g 3 i = nI (gv i) ∧ T.1 g 4 i = mv i ∧ kv i < 6 ∧ gv i < 100
def MS (T : TT) (af sz : Nat) (kv gv : Nat → Nat) (mv : Nat → Int32) (dy : Nat) : Prop := T.1 10 af 0 = nI sz ∧ T.1 10 af 16 = nI dy ∧ ∀ i, i < sz → T.1 10 af (17 + i) = nI (kv i) ∧ T.1 10 af (4 + i) = nI (gv i) ∧ T.1 10 af (10 + i) = mv i
theorem dGr_lt {kv ch gv : Nat → Nat} {i : Nat} (hk : kv i < 6) (hc : ch i < 3) (hg : gv i < 100) : dGr kv ch gv i < 100 := lF_lt _ hk _ hc _ hg
theorem act_v {T : TT} {g sz i c k n dy : Nat} (hg : g < 4) (hs : sz ≤ 6) (hi : i < sz) (h7 : T.2.1 g 7 = nI sz) (h8 : T.2.1 g 8 = nI dy) (hk : k < 6) (hc : c < 3) (hn : n < 100) (hd : dy < 2 ^ 31) (e2 : T.1 g 2 i = nI k) (e3 : T.1 g 3 i = nI n) : m_X4_act T g (nI i) (nI c) = some (nI (if c = 0 then rF k (dy / 20 % 4) n else 0), sA (sA T g 4 i (T.1 g 4 i + nI (if c = 0 then rF k (dy / 20 % 4) n else 0))) g 3 i (nI (lF k c n))) := by
  have ks : kn (g, 8 + k).1 (g, 8 + k).2 = k := knR hg
  have hin : inb (nI i) 6 := inb_n (by omega) (by decide)
  have hci : (nI i).toNatClampNeg = i := cl_n (by omega)
  have hb : ∀ r : Int32, m_X4_act_b41 g T (nI i) (nI c) (g, 8 + k) r = some (r, sA (sA T g 4 i (T.1 g 4 i + r)) g 3 i (nI (lF k c n))) := fun r => by
    unfold m_X4_act_b41
    have hl : v_left (g, 8 + k) (nI c) ((sA T g 4 (nI i).toNatClampNeg (T.1 g 4 (nI i).toNatClampNeg + r)).1 g 3 (nI i).toNatClampNeg) = some (nI (lF k c n)) := by rw [hci, sA_v, if_neg (by omega), e3, left_v ks hk hc hn]
    rw [if_pos hin, if_pos hin, bT_v, if_pos hin, hl, Option.bind_some, if_pos hin, bT_v, hci]
  unfold m_X4_act
  rw [has_ok h7 hs hi, Option.bind_some, if_neg (by decide), kind_c h7 hs hi e2 hk, Option.bind_some]
  by_cases c0 : c = 0
  · subst c0
    rw [if_pos (by decide), h8, sea_v hd, Option.bind_some, if_pos hin, hci, e3, runs_v ks hk (Nat.mod_lt _ (by decide)) hn, Option.bind_some, hb, if_pos rfl]
  · rw [if_neg (nI_ne0 (by omega) (by omega)), hb, if_neg c0]
    rfl
/-- what each does -/
def Ch (sz : Nat) (x2 x3 : Int32) (ch : Nat → Nat) : Prop := ∀ i, i < sz → ch i < 3 ∧ (if x2 = -1 then x3 else if x2 = nI i then x3 else 2) = nI (ch i)
theorem pd_c {g sz : Nat} (hg : g < 4) (hs : sz ≤ 6) (kv ch gv : Nat → Nat) (mv : Nat → Int32) (dy : Nat) (hd : dy < 2 ^ 30) (x2 x3 s : Int32) (hch : Ch sz x2 x3 ch) (rec6 : TT → Int32 → Int32 → Int32 → Int32 → Int32 → Option (Int32 × TT)) (x1 x5 : Int32) : ∀ (m j n : Nat) (T : TT), j + m = sz → m < n → CS T g sz kv (dP kv ch gv j) (mP kv ch gv mv dy j) dy → ∃ T', m_X4_passDays_l25 g rec6 n T x1 x2 x3 (s + sm (dRu kv ch gv dy) j) x5 (nI j) = rec6 T' x1 x2 x3 (s + sm (dRu kv ch gv dy) sz) (x5 + 1) ∧ CS T' g sz kv (dP kv ch gv sz) (mP kv ch gv mv dy sz) (dy + 1) := by
  intro m
  induction m with
  | zero =>
    intro j n T hj hn hC
    obtain ⟨n, rfl⟩ : ∃ q, n = q + 1 := ⟨n - 1, by omega⟩
    have hj : j = sz := by omega
    subst hj
    refine ⟨sI T g 8 (nI (dy + 1)), ?_, ?_⟩
    · show m_X4_passDays_h25 _ _ _ _ _ _ _ _ _ _ = _
      unfold m_X4_passDays_h25
      rw [hC.1, if_pos (nI_le (Nat.le_refl _) (by omega)), bT_v, bT_v, hC.2.1, nI_1]
    · exact ⟨by rw [sI_v, if_neg (by omega)]; exact hC.1, by rw [sI_v, if_pos ⟨rfl, rfl⟩], hC.2.2⟩
  | succ m ih =>
    intro j n T hj hn hC
    obtain ⟨n, rfl⟩ : ∃ q, n = q + 1 := ⟨n - 1, by omega⟩
    obtain ⟨a2, a3, a4, a5, a6⟩ := hC.2.2 j (by omega)
    obtain ⟨c1, c2⟩ := hch j (by omega)
    have d0 : dP kv ch gv j j = gv j := if_neg (by omega)
    have m0 : mP kv ch gv mv dy j j = mv j := if_neg (by omega)
    rw [d0] at a3 a6
    rw [m0] at a4
    have ha := act_v hg hs (i := j) (by omega) hC.1 hC.2.1 a5 c1 a6 (by omega) a2 a3
    generalize hT' : sA (sA T g 4 j (T.1 g 4 j + nI (if ch j = 0 then rF (kv j) (dy / 20 % 4) (gv j) else 0))) g 3 j (nI (lF (kv j) (ch j) (gv j))) = T' at ha
    have hC' : CS T' g sz kv (dP kv ch gv (j + 1)) (mP kv ch gv mv dy (j + 1)) dy := by
      refine ⟨by rw [← hT']; exact hC.1, by rw [← hT']; exact hC.2.1, fun i hi => ?_⟩
      obtain ⟨q2, q3, q4, q5, q6⟩ := hC.2.2 i hi
      by_cases hij : i = j
      · subst hij
        have d1 : dP kv ch gv (i + 1) i = lF (kv i) (ch i) (gv i) := if_pos (by omega)
        have m1 : mP kv ch gv mv dy (i + 1) i = mv i + dRu kv ch gv dy i := if_pos (by omega)
        rw [d1, m1]
        refine ⟨by rw [← hT', sA_v, if_neg (by omega), sA_v, if_neg (by omega)]; exact q2, by rw [← hT', sA_v, if_pos ⟨rfl, rfl, rfl⟩], by rw [← hT', sA_v, if_neg (by omega), sA_v, if_pos ⟨rfl, rfl, rfl⟩, a4]; rfl, q5, lF_lt _ a5 _ c1 _ a6⟩
      · have d1 : dP kv ch gv (j + 1) i = dP kv ch gv j i := by
          unfold dP
          by_cases h2 : i < j
          · rw [if_pos h2, if_pos (by omega)]
          · rw [if_neg h2, if_neg (by omega)]
        have m1 : mP kv ch gv mv dy (j + 1) i = mP kv ch gv mv dy j i := by
          unfold mP
          by_cases h2 : i < j
          · rw [if_pos h2, if_pos (by omega)]
          · rw [if_neg h2, if_neg (by omega)]
        rw [d1, m1]
        refine ⟨by rw [← hT', sA_v, if_neg (by omega), sA_v, if_neg (by omega)]; exact q2, by rw [← hT', sA_v, if_neg (by omega), sA_v, if_neg (by omega)]; exact q3, by rw [← hT', sA_v, if_neg (by omega), sA_v, if_neg (by omega)]; exact q4, q5, q6⟩
    obtain ⟨T2, z1, z2⟩ := ih (j + 1) n T' (by omega) (by omega) hC'
    refine ⟨T2, ?_, z2⟩
    show m_X4_passDays_h25 _ _ _ _ _ _ _ _ _ _ = _
    unfold m_X4_passDays_h25
    have hb : ∀ w : Int32, w = nI (ch j) → m_X4_passDays_b55 g rec6 (m_X4_passDays_l25 g rec6 n) T x1 x2 x3 x5 (nI j) (s + sm (dRu kv ch gv dy) j) (nI j) w = rec6 T2 x1 x2 x3 (s + sm (dRu kv ch gv dy) sz) (x5 + 1) := fun w hw => by
      unfold m_X4_passDays_b55
      rw [hw, ha, Option.bind_some, bT_v, bT_v, nI_1, Int32.add_assoc]
      exact z1
    rw [hC.1, if_neg (nI_ge (by omega) (by omega))]
    by_cases g1 : x2 = -1
    · rw [if_pos g1] at c2 ⊢
      exact hb _ c2
    · rw [if_neg g1] at c2 ⊢
      by_cases g2 : x2 = nI j
      · rw [if_pos g2] at c2 ⊢
        exact hb _ c2
      · rw [if_neg g2] at c2 ⊢
        exact hb _ c2
theorem pd_m {af an sz : Nat} (ha : 71 ≤ an) (ha2 : an < 2 ^ 31) (hs : sz ≤ 6) (kv ch gv : Nat → Nat) (mv : Nat → Int32) (dy : Nat) (hd : dy < 2 ^ 30) (x2 x3 : Int32) (hch : Ch sz x2 x3 ch) (hb : ∀ i, i < sz → kv i < 6 ∧ gv i < 100) : ∀ (m j n : Nat) (T : TT), j + m = sz → m < n → MS T af sz kv (dP kv ch gv j) (mP kv ch gv mv dy j) dy → ∃ T', m_X11_passDay_l6 10 af an n T x2 x3 (sm (dRu kv ch gv dy) j) (nI j) = some (sm (dRu kv ch gv dy) sz, T') ∧ MS T' af sz kv (dP kv ch gv sz) (mP kv ch gv mv dy sz) (dy + 1) ∧ (∀ i, i < 4 ∨ 17 ≤ i → T'.1 10 af i = T.1 10 af i) := by
  intro m
  have i0 : inb (0 : Int32) an := inb_n (n := 0) (by omega) ha2
  have i16 : inb (16 : Int32) an := inb_n (n := 16) (by omega) ha2
  have k16 : Int32.toNatClampNeg (16 : Int32) = 16 := rfl
  induction m with
  | zero =>
    intro j n T hj hn hC
    obtain ⟨n, rfl⟩ : ∃ q, n = q + 1 := ⟨n - 1, by omega⟩
    have hj : j = sz := by omega
    subst hj
    refine ⟨sA T 10 af 16 (nI (dy + 1)), ?_, ⟨?_, ?_, fun i hi => ?_⟩, fun i hi => ?_⟩
    · show m_X11_passDay_h6 _ _ _ _ _ _ _ _ _ = _
      unfold m_X11_passDay_h6
      have h0 : T.1 10 af (Int32.toNatClampNeg 0) ≤ nI j := by rw [show T.1 10 af (Int32.toNatClampNeg 0) = nI j from hC.1]; exact nI_le (Nat.le_refl _) (by omega)
      rw [if_pos i0, if_pos h0, if_pos i16, if_pos i16, bT_v, k16, hC.2.1, nI_1]
    · rw [sA_v, if_neg (by omega)]; exact hC.1
    · rw [sA_v, if_pos ⟨rfl, rfl, rfl⟩]
    · rw [sA_v, if_neg (by omega), sA_v, if_neg (by omega), sA_v, if_neg (by omega)]; exact hC.2.2 i hi
    · rw [sA_v, if_neg (by omega)]
  | succ m ih =>
    intro j n T hj hn hC
    obtain ⟨n, rfl⟩ : ∃ q, n = q + 1 := ⟨n - 1, by omega⟩
    obtain ⟨a2, a3, a4⟩ := hC.2.2 j (by omega)
    obtain ⟨a5, a6⟩ := hb j (by omega)
    obtain ⟨c1, c2⟩ := hch j (by omega)
    have d0 : dP kv ch gv j j = gv j := if_neg (by omega)
    have m0 : mP kv ch gv mv dy j j = mv j := if_neg (by omega)
    rw [d0] at a3
    rw [m0] at a4
    generalize hT0 : sI (sI T 10 6 (nI (gv j))) 10 7 0 = T0
    have t6 : T0.2.1 10 6 = nI (gv j) := by rw [← hT0, sI_v, if_neg (by omega), sI_v, if_pos ⟨rfl, rfl⟩]
    have t7 : T0.2.1 10 7 = 0 := by rw [← hT0, sI_v, if_pos ⟨rfl, rfl⟩]
    have t1 : T0.1 = T.1 := by rw [← hT0]; rfl
    have hgd := goDay_v (T := T0) (d := dy) a5 (by omega) c1 a6 t6
    generalize hT1 : goF T0 (kv j) dy (ch j) (gv j) = T1 at hgd
    have u6 : T1.2.1 10 6 = nI (lF (kv j) (ch j) (gv j)) := by rw [← hT1, goF_6]
    have u7 : T1.2.1 10 7 = dRu kv ch gv dy j := by rw [← hT1, goF_7, t7]; exact Int32.zero_add _
    have u1 : T1.1 = T.1 := by rw [← hT1, goF_1, t1]
    generalize hT' : sA (sA T1 10 af (4 + j) (nI (lF (kv j) (ch j) (gv j)))) 10 af (10 + j) (mv j + dRu kv ch gv dy j) = T'
    have v2 : T'.2 = T1.2 := by rw [← hT']; rfl
    have v : ∀ i, T'.1 10 af i = if i = 10 + j then mv j + dRu kv ch gv dy j else if i = 4 + j then nI (lF (kv j) (ch j) (gv j)) else T.1 10 af i := fun i => by rw [← hT', sA_v, sA_v, u1]; simp
    have hC' : MS T' af sz kv (dP kv ch gv (j + 1)) (mP kv ch gv mv dy (j + 1)) dy := by
      refine ⟨by rw [v, if_neg (by omega), if_neg (by omega)]; exact hC.1, by rw [v, if_neg (by omega), if_neg (by omega)]; exact hC.2.1, fun i hi => ?_⟩
      obtain ⟨q2, q3, q4⟩ := hC.2.2 i hi
      by_cases hij : i = j
      · subst hij
        have d1 : dP kv ch gv (i + 1) i = lF (kv i) (ch i) (gv i) := if_pos (by omega)
        have m1 : mP kv ch gv mv dy (i + 1) i = mv i + dRu kv ch gv dy i := if_pos (by omega)
        rw [d1, m1]
        refine ⟨by rw [v, if_neg (by omega), if_neg (by omega)]; exact q2, by rw [v, if_neg (by omega), if_pos rfl], by rw [v, if_pos rfl]⟩
      · have d1 : dP kv ch gv (j + 1) i = dP kv ch gv j i := by
          unfold dP
          by_cases h2 : i < j
          · rw [if_pos h2, if_pos (by omega)]
          · rw [if_neg h2, if_neg (by omega)]
        have m1 : mP kv ch gv mv dy (j + 1) i = mP kv ch gv mv dy j i := by
          unfold mP
          by_cases h2 : i < j
          · rw [if_pos h2, if_pos (by omega)]
          · rw [if_neg h2, if_neg (by omega)]
        rw [d1, m1]
        refine ⟨by rw [v, if_neg (by omega), if_neg (by omega)]; exact q2, by rw [v, if_neg (by omega), if_neg (by omega)]; exact q3, by rw [v, if_neg (by omega), if_neg (by omega)]; exact q4⟩
    obtain ⟨T2, z1, z2, z3⟩ := ih (j + 1) n T' (by omega) (by omega) hC'
    refine ⟨T2, ?_, z2, fun i hi => by rw [z3 i hi, v, if_neg (by omega), if_neg (by omega)]⟩
    have e4 : (4 : Int32) + nI j = nI (4 + j) := ad_n 4 j
    have e10 : (10 : Int32) + nI j = nI (10 + j) := ad_n 10 j
    have e17 : (17 : Int32) + nI j = nI (17 + j) := ad_n 17 j
    have k4 : (nI (4 + j)).toNatClampNeg = 4 + j := cl_n (by omega)
    have k10 : (nI (10 + j)).toNatClampNeg = 10 + j := cl_n (by omega)
    have k17 : (nI (17 + j)).toNatClampNeg = 17 + j := cl_n (by omega)
    show m_X11_passDay_h6 _ _ _ _ _ _ _ _ _ = _
    unfold m_X11_passDay_h6
    have hbb : ∀ w : Int32, w = nI (ch j) → m_X11_passDay_b57 10 af an (m_X11_passDay_l6 10 af an n) T0 x2 x3 (sm (dRu kv ch gv dy) j) (nI j) (nI (kv j)) (nI dy) w = some (sm (dRu kv ch gv dy) sz, T2) := fun w hw => by
      unfold m_X11_passDay_b57
      have x8 : (sA T1 10 af (4 + j) (nI (lF (kv j) (ch j) (gv j)))).1 10 af (10 + j) = mv j := by rw [sA_v, if_neg (by omega), u1]; exact a4
      rw [hw, hgd, Option.bind_some, e4, e10, if_pos (inb_n (by omega) ha2), bT_v, if_pos (inb_n (by omega) ha2), if_pos (inb_n (by omega) ha2), bT_v, k4, k10, u6, x8, sA_2, sA_2, u7, hT', bT_v, bT_v, nI_1]
      exact z1
    have h0 : ¬ T.1 10 af (Int32.toNatClampNeg 0) ≤ nI j := by rw [show T.1 10 af (Int32.toNatClampNeg 0) = nI sz from hC.1]; exact nI_ge (by omega) (by omega)
    rw [if_pos i0, if_neg h0, e4, e17, if_pos (inb_n (by omega) ha2), bT_v, bT_v, if_pos (inb_n (by omega) ha2), if_pos i16, k4, k17, k16, a3, hT0, t1, a2, hC.2.1]
    by_cases g1 : x2 = -1
    · rw [if_pos g1] at c2 ⊢
      exact hbb _ c2
    · rw [if_neg g1] at c2 ⊢
      by_cases g2 : x2 = nI j
      · rw [if_pos g2] at c2 ⊢
        exact hbb _ c2
      · rw [if_neg g2] at c2 ⊢
        exact hbb _ c2
