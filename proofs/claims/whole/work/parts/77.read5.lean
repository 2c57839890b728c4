/-! THE TEXT, whole -/
def C9 (T : TT) (g sz : Nat) (kv gv : Nat → Nat) (mv : Nat → Int32) (dy : Nat) : Prop := CS T g sz kv gv mv dy ∧ T.2.1 g 9 = 0 ∧ T.2.1 g 10 = 0 ∧ T.2.1 g 11 = 0
theorem C9.fr {T T' : TT} {g sz dy : Nat} {kv gv : Nat → Nat} {mv : Nat → Int32} (h : C9 T g sz kv gv mv dy) (h1 : ∀ b, T'.1 g b = T.1 g b) (h2 : ∀ k, T'.2.1 g k = T.2.1 g k) : C9 T' g sz kv gv mv dy := by
  unfold C9 CS
  rw [h2, h2, h2, h2, h2, h1, h1, h1]
  exact h
theorem b115_f {T : TT} {f : Nat} {x : Int32} (h3 : T.2.1 5 3 = 0) (h2 : T.2.1 5 2 = nI f) : m_X10_read_b115 T x = some (-10 - nI f, T) := by
  unfold m_X10_read_b115
  rw [h3, if_pos rfl, h2]
theorem b115_e {T : TT} {sz dy : Nat} {kv gv : Nat → Nat} {mv : Nat → Int32} {x : Int32} (h3 : T.2.1 5 3 = 1) (h : C9 T 1 sz kv gv mv dy) (hs : sz ≤ 6) : ∃ T', m_X10_read_b115 T x = some (x, T') ∧ C9 T' 0 sz kv gv mv dy := by
  obtain ⟨T1, c1, c2, c3, c4, c5, c6, c7, c8, -⟩ := copy_v T 0 1 (by decide)
  refine ⟨T1, ?_, ⟨by rw [c5 7 (by decide) (by decide)]; exact h.1.1, by rw [c5 8 (by decide) (by decide)]; exact h.1.2.1, fun i hi => by rw [c6 i (by omega), c7 i (by omega), c8 i (by omega)]; exact h.1.2.2 i hi⟩, by rw [c5 9 (by decide) (by decide)]; exact h.2.1, by rw [c5 10 (by decide) (by decide)]; exact h.2.2.1, by rw [c5 11 (by decide) (by decide)]; exact h.2.2.2⟩
  unfold m_X10_read_b115
  rw [h3, if_neg (by decide), c1]
  rfl
theorem rd_106 (x1 : Int32) : ∀ (m j n : Nat) (S : TT), j + m = 71 → m < n → (∀ i, i < j → S.1 10 1 i = S.1 10 9 i) → ∃ S', m_X11_read_l106 n S x1 (nI j) = some (x1, S') ∧ ∀ i, i < 71 → S'.1 10 1 i = S.1 10 9 i := by
  intro m
  induction m with
  | zero =>
    intro j n S hj hn h
    obtain ⟨n, rfl⟩ : ∃ q, n = q + 1 := ⟨n - 1, by omega⟩
    have hj : j = 71 := by omega
    subst hj
    refine ⟨S, ?_, h⟩
    show m_X11_read_h106 _ _ _ _ = _
    unfold m_X11_read_h106
    rw [if_pos (by decide)]
  | succ m ih =>
    intro j n S hj hn h
    obtain ⟨n, rfl⟩ : ∃ q, n = q + 1 := ⟨n - 1, by omega⟩
    have e9 : (sA S 10 1 j (S.1 10 9 j)).1 10 9 = S.1 10 9 := by
      funext i
      rw [sA_v, if_neg (by omega)]
    obtain ⟨S', z1, z2⟩ := ih (j + 1) n (sA S 10 1 j (S.1 10 9 j)) (by omega) (by omega) (fun i hi => by
      rw [e9, sA_v]
      by_cases c : i = j
      · rw [if_pos ⟨rfl, rfl, c⟩, c]
      · rw [if_neg (fun z => c z.2.2)]
        exact h i (by omega))
    refine ⟨S', ?_, fun i hi => by rw [z2 i hi, e9]⟩
    show m_X11_read_h106 _ _ _ _ = _
    unfold m_X11_read_h106
    have h1 : ¬ (71 : Int32) ≤ nI j := nI_ge (b := 71) (by omega) (by decide)
    rw [if_neg h1, if_pos (inb_n (by omega) (by decide)), if_pos (inb_n (by omega) (by decide)), cl_n (by omega), bT_v, bT_v, nI_1]
    exact z1
theorem M9.told {S S' : TT} {sz dy : Nat} {kv gv : Nat → Nat} {mv : Nat → Int32} (h : M9 S 9 sz kv gv mv dy) (hs : sz ≤ 6) (e : ∀ i, i < 71 → S'.1 10 1 i = S.1 10 9 i) : M9 S' 1 sz kv gv mv dy := ⟨⟨by rw [e 0 (by omega)]; exact h.1.1, by rw [e 16 (by omega)]; exact h.1.2.1, fun i hi => by rw [e (17 + i) (by omega), e (4 + i) (by omega), e (10 + i) (by omega)]; exact h.1.2.2 i hi⟩, by rw [e 1 (by omega)]; exact h.2.1, by rw [e 2 (by omega)]; exact h.2.2.1, by rw [e 3 (by omega)]; exact h.2.2.2⟩
theorem mfl_v {S S' : TT} {k k0 f n : Nat} {r : Int32} (h16 : S.2.1 10 16 = nI k0) (hk0 : k0 ≠ 0) (hk4 : k0 ≤ 4) (ht : m_X11_takesItem S = some (r, S')) (hr : r = 0 ∨ (r = 1 ∧ ¬ S'.2.1 10 16 = 3)) (h14 : S'.2.1 10 14 = nI f) : m_X11_read_l64 (n + 1) S (nI k) = some (-10 - nI f, S') ∧ S'.1 10 1 = S.1 10 1 := by
  refine ⟨?_, (fr_X11_takesItem ht).1 10 1 (by omega)⟩
  show m_X11_read_h64 _ _ _ = _
  unfold m_X11_read_h64
  rw [h16, if_neg (nI_ne0 (by omega) (by omega)), ht, Option.bind_some]
  rcases hr with c | ⟨c, c2⟩
  · subst c
    rw [if_pos rfl, h14]
  · subst c
    rw [if_neg i1n0, if_neg c2, h14]
theorem mg_v {S S' : TT} {b : Nat → Nat} {tl k k0 n q2 sz dy : Nat} {kv gv : Nat → Nat} {mv : Nat → Int32} (ht64 : tl ≤ 64) (h16 : S.2.1 10 16 = nI k0) (hk0 : k0 ≠ 0) (hk4 : k0 ≤ 4) (ht : m_X11_takesItem S = some (1, S')) (hS : TM S' b tl) (h3 : S'.2.1 10 16 = 3) (hq2 : q2 ≤ tl) (hM : MT S' b tl q2) (h9 : M9 S' 9 sz kv gv mv dy) : ∃ S2, m_X11_read_l64 (n + 1) S (nI k) = m_X11_read_l64 n S2 (nI (k + 1)) ∧ TM S2 b tl ∧ MT S2 b tl (tok b tl q2).2.1 ∧ M9 S2 9 sz kv gv mv dy ∧ S2.1 10 1 = S.1 10 1 := by
  obtain ⟨S2, z1, z2⟩ := go_v hS ht64 hq2 hM
  have hF := fr_X11_goBehind z1
  refine ⟨S2, ?_, hS.fr (hF.1 10 8 (fun z => z)) (hF.2.1 10 13 (by omega)), z2, ?_, by rw [hF.1 10 1 (fun z => z), (fr_X11_takesItem ht).1 10 1 (by omega)]⟩
  · show m_X11_read_h64 _ _ _ = _
    unfold m_X11_read_h64
    rw [h16, if_neg (nI_ne0 (by omega) (by omega)), ht, Option.bind_some, if_neg i1n0, if_pos h3, z1, Option.bind_some, bT_v, nI_1]
  · unfold M9 MS
    rw [hF.1 10 9 (fun z => z)]
    exact h9
theorem C9.add {T : TT} {sz : Nat} {kv gv : Nat → Nat} {mv : Nat → Int32} {dy v1 v2 : Nat} (h : C9 T 1 sz kv gv mv dy) (hs : sz < 6) (hv1 : v1 < 6) (hv2 : v2 < 100) : ∃ T', m_X4_addDriver T 1 (nI v1) (nI v2) = some (nI sz, T') ∧ C9 T' 1 (sz + 1) (adN kv sz v1) (adN gv sz v2) (adI mv sz) dy := by
  have e := add_v (T := T) (g := 1) (x := nI v1) (y := nI v2) h.1.1 hs
  generalize hT' : sI (sI (sA (sA (sA T 1 2 sz (nI v1)) 1 3 sz (nI v2)) 1 4 sz 0) 1 7 (nI (sz + 1))) 1 11 0 = T' at e
  have v2' : ∀ i, T'.1 1 2 i = if i = sz then nI v1 else T.1 1 2 i := fun i => by rw [← hT', sI_1, sI_1, sA_v, sA_v, sA_v]; simp
  have v3' : ∀ i, T'.1 1 3 i = if i = sz then nI v2 else T.1 1 3 i := fun i => by rw [← hT', sI_1, sI_1, sA_v, sA_v, sA_v]; simp
  have v4' : ∀ i, T'.1 1 4 i = if i = sz then 0 else T.1 1 4 i := fun i => by rw [← hT', sI_1, sI_1, sA_v, sA_v, sA_v]; simp
  have w : ∀ k, T'.2.1 1 k = if k = 11 then 0 else if k = 7 then nI (sz + 1) else T.2.1 1 k := fun k => by rw [← hT', sI_v, sI_v]; simp [sA_2]
  refine ⟨T', e, ⟨by rw [w, if_neg (by decide), if_pos rfl], by rw [w, if_neg (by decide), if_neg (by decide)]; exact h.1.2.1, fun i hi => ?_⟩, by rw [w, if_neg (by decide), if_neg (by decide)]; exact h.2.1, by rw [w, if_neg (by decide), if_neg (by decide)]; exact h.2.2.1, by rw [w, if_pos rfl]⟩
  rw [v2', v3', v4']
  unfold adN adI
  by_cases c : i = sz
  · rw [if_pos c, if_pos c, if_pos c, if_pos c, if_pos c, if_pos c]
    exact ⟨rfl, rfl, rfl, hv1, hv2⟩
  · rw [if_neg c, if_neg c, if_neg c, if_neg c, if_neg c, if_neg c]
    exact h.1.2.2 i (by omega)
/-- how both read on from p, k items behind them -/
def RD (b : Nat → Nat) (tl p k m n : Nat) (T : TT) (sz : Nat) (kv gv : Nat → Nat) (mv : Nat → Int32) (dy : Nat) : Prop :=
  ∃ (r : Int32) (T' : TT), m_X10_read_l23 n T (nI k) = some (r, T') ∧
    ((∃ (sz' : Nat) (kv' gv' : Nat → Nat) (mv' : Nat → Int32) (dy' : Nat), sz' ≤ 6 ∧ dy' ≤ 99 * tl ∧ C9 T' 0 sz' kv' gv' mv' dy' ∧ ∀ (S : TT) (n' : Nat), m < n' → TM S b tl → MT S b tl p → M9 S 9 sz kv gv mv dy → ∃ S', m_X11_read_l64 n' S (nI k) = some (r, S') ∧ M9 S' 1 sz' kv' gv' mv' dy') ∨
    ((∀ f, T'.1 0 f = T.1 0 f) ∧ (∀ f, T'.2.1 0 f = T.2.1 0 f) ∧ ∀ (S : TT) (n' : Nat), m < n' → TM S b tl → MT S b tl p → M9 S 9 sz kv gv mv dy → ∃ S', m_X11_read_l64 n' S (nI k) = some (r, S') ∧ S'.1 10 1 = S.1 10 1))
theorem RD.fault {b : Nat → Nat} {tl p k m n sz dy f : Nat} {T T5 : TT} {kv gv : Nat → Nat} {mv : Nat → Int32} (hc : m_X10_read_l23 n T (nI k) = m_X10_read_b115 T5 (nI k)) (h3 : T5.2.1 5 3 = 0) (h2 : T5.2.1 5 2 = nI f) (f1 : ∀ f, T5.1 0 f = T.1 0 f) (f2 : ∀ f, T5.2.1 0 f = T.2.1 0 f) (hk0 : (tok b tl p).2.2.1 ≠ 0) (hk4 : (tok b tl p).2.2.1 ≤ 4) (hm : ∀ S : TT, TM S b tl → MT S b tl p → M9 S 9 sz kv gv mv dy → ∃ (r : Int32) (S' : TT), m_X11_takesItem S = some (r, S') ∧ (r = 0 ∨ (r = 1 ∧ ¬ S'.2.1 10 16 = 3)) ∧ S'.2.1 10 14 = nI f) : RD b tl p k m n T sz kv gv mv dy := by
  refine ⟨-10 - nI f, T5, hc.trans (b115_f h3 h2), Or.inr ⟨f1, f2, fun S n' hn' q1 q2 q3 => ?_⟩⟩
  obtain ⟨n', rfl⟩ : ∃ q, n' = q + 1 := ⟨n' - 1, by omega⟩
  obtain ⟨r, S', z1, z2, z3⟩ := hm S q1 q2 q3
  obtain ⟨y1, y2⟩ := mfl_v (k := k) (n := n') q2.2.2.1 hk0 hk4 z1 z2 z3
  exact ⟨S', y1, y2⟩
theorem RD.step {b : Nat → Nat} {tl p p' k m m' n n1 sz dy sz2 dy2 : Nat} {T T2 : TT} {kv gv kv2 gv2 : Nat → Nat} {mv mv2 : Nat → Int32} (ht : tl ≤ 64) (hc : m_X10_read_l23 n T (nI k) = m_X10_read_l23 n1 T2 (nI (k + 1))) (hm1 : m' < m) (f1 : ∀ f, T2.1 0 f = T.1 0 f) (f2 : ∀ f, T2.2.1 0 f = T.2.1 0 f) (hk0 : (tok b tl p).2.2.1 ≠ 0) (hk4 : (tok b tl p).2.2.1 ≤ 4) (hm : ∀ S : TT, TM S b tl → MT S b tl p → M9 S 9 sz kv gv mv dy → ∃ S' : TT, m_X11_takesItem S = some (1, S') ∧ TM S' b tl ∧ S'.2.1 10 16 = 3 ∧ (∃ q2, q2 ≤ tl ∧ MT S' b tl q2 ∧ (tok b tl q2).2.1 = p') ∧ M9 S' 9 sz2 kv2 gv2 mv2 dy2) (hR : RD b tl p' (k + 1) m' n1 T2 sz2 kv2 gv2 mv2 dy2) : RD b tl p k m n T sz kv gv mv dy := by
  have hstep : ∀ (S : TT) (n' : Nat), TM S b tl → MT S b tl p → M9 S 9 sz kv gv mv dy → ∃ S2, m_X11_read_l64 (n' + 1) S (nI k) = m_X11_read_l64 n' S2 (nI (k + 1)) ∧ TM S2 b tl ∧ MT S2 b tl p' ∧ M9 S2 9 sz2 kv2 gv2 mv2 dy2 ∧ S2.1 10 1 = S.1 10 1 := fun S n' q1 q2 q3 => by
    obtain ⟨S', z1, z2, z3, ⟨q2', y1, y2, y3⟩, z5⟩ := hm S q1 q2 q3
    obtain ⟨S2, w1, w2, w3, w4, w5⟩ := mg_v (k := k) (n := n') ht q2.2.2.1 hk0 hk4 z1 z2 z3 y1 y2 z5
    rw [y3] at w3
    exact ⟨S2, w1, w2, w3, w4, w5⟩
  obtain ⟨r, T', z1, z2⟩ := hR
  refine ⟨r, T', hc.trans z1, ?_⟩
  rcases z2 with ⟨sz', kv', gv', mv', dy', y1, y2, y3, y4⟩ | ⟨y1, y2, y3⟩
  · refine Or.inl ⟨sz', kv', gv', mv', dy', y1, y2, y3, fun S n' hn' q1 q2 q3 => ?_⟩
    obtain ⟨n', rfl⟩ : ∃ q, n' = q + 1 := ⟨n' - 1, by omega⟩
    obtain ⟨S2, w1, w2, w3, w4, w5⟩ := hstep S n' q1 q2 q3
    obtain ⟨S', x1, x2⟩ := y4 S2 n' (by omega) w2 w3 w4
    exact ⟨S', w1.trans x1, x2⟩
  · refine Or.inr ⟨fun f => (y1 f).trans (f1 f), fun f => (y2 f).trans (f2 f), fun S n' hn' q1 q2 q3 => ?_⟩
    obtain ⟨n', rfl⟩ : ∃ q, n' = q + 1 := ⟨n' - 1, by omega⟩
    obtain ⟨S2, w1, w2, w3, w4, w5⟩ := hstep S n' q1 q2 q3
    obtain ⟨S', x1, x2⟩ := y3 S2 n' (by omega) w2 w3 w4
    exact ⟨S', w1.trans x1, x2.trans w5⟩
theorem itm01 (b : Nat → Nat) (tl q lo1 hi1 hi2 : Nat) : (itm b tl q lo1 hi1 hi2).1 = 0 ∨ (itm b tl q lo1 hi1 hi2).1 = 1 := by
  unfold itm
  by_cases x1 : NB b tl q lo1 hi1
  · rw [if_pos x1]
    by_cases x2 : NB b tl (tok b tl q).2.1 0 hi2
    · rw [if_pos x2]
      by_cases x3 : (tok b tl (tok b tl (tok b tl q).2.1).2.1).2.2.1 = 3
      · rw [if_pos x3]; exact Or.inr rfl
      · rw [if_neg x3]; exact Or.inl rfl
    · rw [if_neg x2]; exact Or.inl rfl
  · rw [if_neg x1]; exact Or.inl rfl
theorem rd_l {b : Nat → Nat} {tl : Nat} (ht : tl ≤ 64) : ∀ (M m p k n : Nat) (T : TT) (sz : Nat) (kv gv : Nat → Nat) (mv : Nat → Int32) (dy : Nat), m < M → p ≤ tl → tl ≤ p + m → m < n → sz ≤ 6 → 1 ≤ k → k ≤ p → dy ≤ 99 * k → TX T b tl → T.2.1 5 8 = nI p → C9 T 1 sz kv gv mv dy → RD b tl p k m n T sz kv gv mv dy := by
  intro M
  induction M with
  | zero =>
    intro m p k n T sz kv gv mv dy hm
    omega
  | succ M ih =>
    intro m p k n T sz kv gv mv dy hm hp hpm hn hs hk1 hkp hdy hX h8 hC
    obtain ⟨n, rfl⟩ : ∃ q, n = q + 1 := ⟨n - 1, by omega⟩
    obtain ⟨k1, k2, k3, k4, k5, k6⟩ := tok_le (b := b) hp
    have hu : m_X10_read_l23 (n + 1) T (nI k) = (m_X9_takesItem T (if sz < 6 then 0 else 1)).bind (fun z5 => if z5.1 = 0 then m_X10_read_b115 z5.2 (nI k) else if (z5.2.2.1 5 4) = 0 then (m_X4_passDays z5.2 1 (z5.2.2.1 5 5) (-1) (z5.2.2.1 5 6)).bind (fun z7 => m_X10_read_l23 n z7.2 (nI (k + 1))) else (m_X4_addDriver z5.2 1 (z5.2.2.1 5 5) (z5.2.2.1 5 6)).bind (fun z8 => m_X10_read_l23 n z8.2 (nI (k + 1)))) := by
      show m_X10_read_h23 _ _ _ = _
      unfold m_X10_read_h23 m_X4_isFull
      have h150 : ¬ (150 : Int32) ≤ nI k := nI_ge (b := 150) (by omega) (by decide)
      rw [if_neg (nI_nle (by omega) (by omega)), if_neg h150, hC.1.1]
      by_cases c : sz < 6
      · have c' : nI sz < 6 := nI_lt (b := 6) c (by decide)
        rw [if_pos c', if_pos c, Option.bind_some]
        simp only [bT_v, nI_1]
      · have c' : ¬ nI sz < 6 := nI_nlt (b := 6) (by omega) (by omega)
        rw [if_neg c', if_neg c, Option.bind_some]
        simp only [bT_v, nI_1]
    obtain ⟨T5, hX5, hC5, e3, hd1, hd2⟩ := ti_v (x1 := if sz < 6 then 0 else 1) hX ht hp h8
    have hout : ∀ {r0 : Int32} {T6 : TT}, m_X9_takesItem T (if sz < 6 then 0 else 1) = some (r0, T6) → (∀ a f, T6.1 a f = T.1 a f) ∧ (∀ a f, a ≠ 5 → T6.2.1 a f = T.2.1 a f) := fun e => ⟨fun a f => (fr_X9_takesItem e).1 a f (fun z => z), fun a f q => (fr_X9_takesItem e).2.1 a f (by omega)⟩
    have hzero : ∀ {T6 : TT}, m_X9_takesItem T (if sz < 6 then 0 else 1) = some (0, T6) → m_X10_read_l23 (n + 1) T (nI k) = m_X10_read_b115 T6 (nI k) := fun e => by rw [hu, e, Option.bind_some, if_pos rfl]
    by_cases c0 : (tok b tl p).2.2.1 = 0
    · have w1 : ¬ WP b tl p 1 := fun z => absurd z.1 (by omega)
      have w2 : ¬ WP b tl p 2 := fun z => absurd z.1 (by omega)
      have e := (hd2 w1).2.2 w2
      obtain ⟨o1, o2⟩ := hout e
      rw [if_pos c0] at e3
      obtain ⟨T', y1, y2⟩ := b115_e (x := nI k) e3 (hC.fr (o1 1) (fun f => o2 1 f (by decide))) hs
      refine ⟨nI k, T', (hzero e).trans y1, Or.inl ⟨sz, kv, gv, mv, dy, hs, by omega, y2, fun S n' hn' q1 q2 q3 => ?_⟩⟩
      obtain ⟨n', rfl⟩ : ∃ q, n' = q + 1 := ⟨n' - 1, by omega⟩
      obtain ⟨S', x1, x2⟩ := rd_106 (nI k) 71 0 FU S (by omega) (FU_lt (by decide)) (fun i hi => absurd hi (by omega))
      refine ⟨S', ?_, q3.told hs x2⟩
      show m_X11_read_h64 _ _ _ = _
      unfold m_X11_read_h64
      have c16 : nI (tok b tl p).2.2.1 = 0 := by rw [c0]; rfl
      rw [q2.2.2.1, if_pos c16]
      exact x1
    · rw [if_neg c0] at e3
      by_cases w1 : WP b tl p 1
      · obtain ⟨e4, g1, g2⟩ := hd1 w1
        by_cases c : sz < 6
        · have e := g2 (by rw [if_pos c])
          obtain ⟨T6, y1, y2, y3, y4, y5, y6⟩ := b55_v (q := (tok b tl p).2.1) (d := 1) (lo1 := 0) (hi1 := 5) (hi2 := 99) (Or.inr ⟨rfl, rfl, rfl, rfl⟩) hX5 ht k3 hC5.2.1 e4
          have e' := e.trans y1
          obtain ⟨o1, o2⟩ := hout e'
          rcases itm01 b tl (tok b tl p).2.1 0 5 99 with i0 | i1
          · rw [i0] at e'
            refine RD.fault (hzero e') (by rw [y3]; exact e3) (y5 i0) (o1 0) (fun f => o2 0 f (by decide)) c0 k4 (fun S q1 q2 q3 => ?_)
            obtain ⟨r, S', x1, x2, x3, x4⟩ := im_d q1 ht hp q2 q3 c w1
            exact ⟨r, S', x1, (x3 i0).1, (x3 i0).2⟩
          · obtain ⟨z8, z5, z6⟩ := y6 i1
            obtain ⟨l1, l2, l3, l4, l5⟩ := itm_le (b := b) k3 i1
            obtain ⟨T7, a1, a2⟩ := (hC.fr (o1 1) (fun f => o2 1 f (by decide))).add (v1 := (itm b tl (tok b tl p).2.1 0 5 99).2.2.1) (v2 := (itm b tl (tok b tl p).2.1 0 5 99).2.2.2) c (by omega) (by omega)
            have aF := fr_X4_addDriver a1
            rw [i1] at e'
            have hc : m_X10_read_l23 (n + 1) T (nI k) = m_X10_read_l23 n T7 (nI (k + 1)) := by
              rw [hu, e', Option.bind_some, if_neg (show ¬ (nI 1) = 0 by decide)]
              show (if (T6.2.1 5 4) = 0 then _ else (m_X4_addDriver T6 1 (T6.2.1 5 5) (T6.2.1 5 6)).bind _) = _
              rw [y4, if_neg (by decide), z5, z6, a1]
              rfl
            refine RD.step (p' := (itm b tl (tok b tl p).2.1 0 5 99).2.1) (m' := m - 1) ht hc (by omega) (fun f => by rw [aF.1 0 f (by omega)]; exact o1 0 f) (fun f => by rw [aF.2.1 0 f (by omega)]; exact o2 0 f (by decide)) c0 k4 (fun S q1 q2 q3 => ?_) (ih (m - 1) _ (k + 1) n T7 (sz + 1) _ _ _ dy (by omega) l2 (by omega) (by omega) (by omega) (by omega) (by omega) (by omega) (y2.fr (aF.1 5 1 (by omega)) (aF.2.1 5 1 (by omega))) (by rw [aF.2.1 5 8 (by omega)]; exact z8) a2)
            obtain ⟨r, S', x1, x2, x3, x4⟩ := im_d q1 ht hp q2 q3 c w1
            obtain ⟨v1, v2, v3, v4⟩ := x4 i1
            subst v1
            exact ⟨S', x1, x2, v2, v3, v4⟩
        · have e := g1 (by rw [if_neg c]; decide)
          obtain ⟨o1, o2⟩ := hout e
          refine RD.fault (hzero e) e3 hC5.1 (o1 0) (fun f => o2 0 f (by decide)) c0 k4 (fun S q1 q2 q3 => ⟨0, S, ?_, Or.inl rfl, q2.1⟩)
          have h6 : nI sz = 6 := by rw [show sz = 6 by omega]; rfl
          unfold m_X11_takesItem
          rw [show m_X11_spells S 6 100 114 105 118 101 114 = some 1 from (sp_t q1 ht (w := 1) (by decide) hp q2).1 w1, Option.bind_some, if_neg (by decide)]
          unfold m_X11_takesDriver
          rw [q3.1.1, if_pos h6, Option.bind_some, if_pos (Or.inl rfl)]
      · obtain ⟨e4, g1, g2⟩ := hd2 w1
        by_cases w2 : WP b tl p 2
        · have e := g1 w2
          obtain ⟨T6, y1, y2, y3, y4, y5, y6⟩ := b55_v (q := (tok b tl p).2.1) (d := 0) (lo1 := 1) (hi1 := 99) (hi2 := 2) (Or.inl ⟨rfl, rfl, rfl, rfl⟩) hX5 ht k3 hC5.2.1 e4
          have e' := e.trans y1
          obtain ⟨o1, o2⟩ := hout e'
          have hb : ∀ i, i < sz → kv i < 6 ∧ gv i < 100 := fun i hi => ⟨(hC.1.2.2 i hi).2.2.2.1, (hC.1.2.2 i hi).2.2.2.2⟩
          rcases itm01 b tl (tok b tl p).2.1 1 99 2 with i0 | i1
          · rw [i0] at e'
            refine RD.fault (hzero e') (by rw [y3]; exact e3) (y5 i0) (o1 0) (fun f => o2 0 f (by decide)) c0 k4 (fun S q1 q2 q3 => ?_)
            obtain ⟨r, S', x1, x2, x3, x4⟩ := im_y q1 ht hp q2 q3 hs (by omega) hb w1 w2
            exact ⟨r, S', x1, (x3 i0).1, (x3 i0).2⟩
          · obtain ⟨z8, z5, z6⟩ := y6 i1
            obtain ⟨l1, l2, l3, l4, l5⟩ := itm_le (b := b) k3 i1
            have hC6 := hC.fr (o1 1) (fun f => o2 1 f (by decide))
            obtain ⟨T7, a1, a2⟩ := pds_c (g := 1) (by decide) hs kv (fun _ => (itm b tl (tok b tl p).2.1 1 99 2).2.2.2) (-1) (nI (itm b tl (tok b tl p).2.1 1 99 2).2.2.2) (fun i hi => ⟨Nat.lt_succ_of_le l5, if_pos rfl⟩) (M := (itm b tl (tok b tl p).2.1 1 99 2).2.2.1) (by omega) (itm b tl (tok b tl p).2.1 1 99 2).2.2.1 0 FU T6 gv mv dy 0 (by omega) (FU_lt (by omega)) (by omega) hC6.1
            have a1 : m_X4_passDays T6 1 (nI (itm b tl (tok b tl p).2.1 1 99 2).2.2.1) (-1) (nI (itm b tl (tok b tl p).2.1 1 99 2).2.2.2) = _ := a1
            have aF := fr_X4_passDays a1
            rw [i1] at e'
            have hc : m_X10_read_l23 (n + 1) T (nI k) = m_X10_read_l23 n T7 (nI (k + 1)) := by
              rw [hu, e', Option.bind_some, if_neg (show ¬ (nI 1) = 0 by decide)]
              show (if (T6.2.1 5 4) = 0 then (m_X4_passDays T6 1 (T6.2.1 5 5) (-1) (T6.2.1 5 6)).bind _ else _) = _
              rw [y4, if_pos (by decide), z5, z6, a1]
              rfl
            refine RD.step (p' := (itm b tl (tok b tl p).2.1 1 99 2).2.1) (m' := m - 1) ht hc (by omega) (fun f => by rw [aF.1 0 f (by omega)]; exact o1 0 f) (fun f => by rw [aF.2.1 0 f (by omega)]; exact o2 0 f (by decide)) c0 k4 (fun S q1 q2 q3 => ?_) (ih (m - 1) _ (k + 1) n T7 sz kv _ _ _ (by omega) l2 (by omega) (by omega) hs (by omega) (by omega) (by omega) (y2.fr (aF.1 5 1 (by omega)) (aF.2.1 5 1 (by omega))) (by rw [aF.2.1 5 8 (by omega)]; exact z8) ⟨a2, by rw [aF.2.1 1 9 (by omega)]; exact hC6.2.1, by rw [aF.2.1 1 10 (by omega)]; exact hC6.2.2.1, by rw [aF.2.1 1 11 (by omega)]; exact hC6.2.2.2⟩)
            obtain ⟨r, S', x1, x2, x3, x4⟩ := im_y q1 ht hp q2 q3 hs (by omega) hb w1 w2
            obtain ⟨v1, v2, v3, v4⟩ := x4 i1
            subst v1
            exact ⟨S', x1, x2, v2, v3, v4⟩
        · have e := g2 w2
          obtain ⟨o1, o2⟩ := hout e
          refine RD.fault (hzero e) e3 hC5.1 (o1 0) (fun f => o2 0 f (by decide)) c0 k4 (fun S q1 q2 q3 => ⟨0, S, ?_, Or.inl rfl, q2.1⟩)
          unfold m_X11_takesItem
          rw [show m_X11_spells S 6 100 114 105 118 101 114 = some 0 from (sp_t q1 ht (w := 1) (by decide) hp q2).2 w1, Option.bind_some, if_pos rfl, show m_X11_spells S 4 100 97 121 115 0 0 = some 0 from (sp_t q1 ht (w := 2) (by decide) hp q2).2 w2, Option.bind_some, if_pos rfl]
