/-! home again -/
def hv (k dy a n t x : Nat) : Nat := min (mD k dy a (dg n x) t) (mD k dy a (dg n x) n - mD k dy a (dg n x) t)
def FH (k dy a n t : Nat) : Nat := mxF (hv k dy a n t) (3 ^ n)
theorem mxF_s {f : Nat → Nat} : ∀ {n : Nat}, 0 < n → mxF (fun j => f j + 1) n = mxF f n + 1
  | 0, h => absurd h (by omega)
  | 1, _ => by show max 0 (f 0 + 1) = max 0 (f 0) + 1; omega
  | n + 2, _ => by
    have h := mxF_s (f := f) (n := n + 1) (by omega)
    show max (mxF (fun j => f j + 1) (n + 1)) (f (n + 1) + 1) = max (mxF f (n + 1)) (f (n + 1)) + 1
    omega
theorem hv_le {k dy a n t x : Nat} (hk : k < 6) (ha : a < 100) : hv k dy a n t x ≤ 199 * t := Nat.le_trans (Nat.min_le_left _ _) (mD_le hk ha (fun j => dg_lt n x j) t)
theorem FH_le {k dy a n t : Nat} (hk : k < 6) (ha : a < 100) : FH k dy a n t ≤ 199 * t := mxF_lub (fun _ _ => hv_le hk ha)
theorem FH_eq {k dy a n t F : Nat} (ht : t ≤ n) (h1 : ∀ g m, PP k dy t 0 a g m → min m (Af k dy (n - t) t g) ≤ F) (h2 : F = 0 ∨ ∃ g m, PP k dy t 0 a g m ∧ F = min m (Af k dy (n - t) t g)) : F = FH k dy a n t := by
  apply Nat.le_antisymm
  · rcases h2 with h2 | ⟨g, m, hP, h2⟩
    · omega
    · obtain ⟨d, d1, d2, d3⟩ := D_PP t g m hP
      obtain ⟨d', e1, e2, e3⟩ := D_on (k := k) (dy := dy) (a := a) (n - t) t d d1
      rw [show t + (n - t) = n by omega, d2, d3] at e3
      have hc : ∀ i, i < n → dg n (cd d' n) i = d' i := fun i hi => cd_dg e1 n i hi
      have q1 : mD k dy a (dg n (cd d' n)) n = mD k dy a d' n := mD_c n hc
      have q2 : mD k dy a (dg n (cd d' n)) t = m := by rw [mD_c t (fun i hi => (hc i (by omega)).trans (e2 i hi)), d3]
      have q3 : hv k dy a n t (cd d' n) ≤ FH k dy a n t := mxF_ge (cd_lt e1 n)
      unfold hv at q3
      rw [q1, q2, e3, show m + Af k dy (n - t) t g - m = Af k dy (n - t) t g by omega] at q3
      omega
  · refine mxF_lub (fun x hx => ?_)
    have q1 := h1 _ _ (PP_D (fun j => dg_lt n x j) (k := k) (dy := dy) (a := a) t)
    have q2 := mD_up (fun j => dg_lt n x j) (k := k) (dy := dy) (a := a) (n - t) t
    rw [show t + (n - t) = n by omega] at q2
    unfold hv
    omega
theorem ft_l {k dy a n t : Nat} (hk : k < 6) (ha : a < 100) (hn : n ≤ 7) (ht : t ≤ n) {T : TT} (hB : ∀ x, x < 100 → Sp (PP k dy t 0 a x) (T.1 8 (t + 1) x)) (hA : AR T k dy a n 0) : ∀ (q g f V : Nat), g + q = 100 → q < f → V < 5000 → (∀ g' m, g' < g → PP k dy t 0 a g' m → min m (Af k dy (n - t) t g') ≤ V) → (V = 0 ∨ ∃ g' m, PP k dy t 0 a g' m ∧ V = min m (Af k dy (n - t) t g')) → m_X5_farthestTurnAt_l4 T f (nI t) (nI V) (nI g) = some (nI (FH k dy a n t)) := by
  intro q
  induction q with
  | zero =>
    intro g f V hg hf hV h1 h2
    obtain ⟨f, rfl⟩ : ∃ q, f = q + 1 := ⟨f - 1, by omega⟩
    have hg : g = 100 := by omega
    subst hg
    show m_X5_farthestTurnAt_h4 _ _ _ _ _ = _
    unfold m_X5_farthestTurnAt_h4
    rw [if_pos (by decide), FH_eq ht (fun g m hP => h1 g m (PP_le hk t 0 a g m ha hP).2 hP) h2]
  | succ q ih =>
    intro g f V hg hf hV h1 h2
    obtain ⟨f, rfl⟩ : ∃ q, f = q + 1 := ⟨f - 1, by omega⟩
    have h100 : ¬ (100 : Int32) ≤ nI g := nI_ge (b := 100) (by omega) (by decide)
    have i8 : inb (nI t) 8 := inb_n (by omega) (by decide)
    have i100 : inb (nI g) 100 := inb_n (by omega) (by decide)
    show m_X5_farthestTurnAt_h4 _ _ _ _ _ = _
    unfold m_X5_farthestTurnAt_h4 m_X5_farthestTurnAt_b46
    have c8 : T.1 8 (Int32.toNatClampNeg (nI t) + 1) (Int32.toNatClampNeg (nI g)) = T.1 8 (t + 1) g := by rw [cl_n (by omega), cl_n (by omega)]
    have c9 : T.1 9 (Int32.toNatClampNeg (nI t) + 1) (Int32.toNatClampNeg (nI g)) = T.1 9 (t + 1) g := by rw [cl_n (by omega), cl_n (by omega)]
    rw [if_neg h100, if_pos i8, if_pos i100, c8, c9]
    rcases hB g (by omega) with ⟨e, hno⟩ | ⟨B, e, hB1, hB2⟩
    · rw [if_pos e, bT_v, nI_1]
      refine ih (g + 1) f V (by omega) (by omega) hV (fun g' m hg' hP => ?_) h2
      by_cases hgg : g' = g
      · subst hgg; exact absurd hP (hno m)
      · exact h1 g' m (by omega) hP
    · have hBl := (PP_le hk t 0 a g B ha hB1).1
      have hAl := Af_le (dy := dy) hk (n - t) t g (by omega)
      rw [if_neg (by rw [e]; exact m1_ne (by omega)), if_pos i8, if_pos i100, if_pos i8, if_pos i100, hA.at ht (by omega) ⟨B, hB1⟩, e]
      have emn : (if nI (Af k dy (n - t) t g) < nI B then nI (Af k dy (n - t) t g) else nI B) = nI (min B (Af k dy (n - t) t g)) := by
        by_cases h : Af k dy (n - t) t g < B
        · rw [if_pos (nI_lt h (by omega)), Nat.min_eq_right (by omega)]
        · rw [if_neg (nI_nlt (by omega) (by omega)), Nat.min_eq_left (by omega)]
      have emx : (if nI V < nI (min B (Af k dy (n - t) t g)) then nI (min B (Af k dy (n - t) t g)) else nI V) = nI (max V (min B (Af k dy (n - t) t g))) := by
        by_cases h : V < min B (Af k dy (n - t) t g)
        · rw [if_pos (nI_lt h (by omega)), Nat.max_eq_right (by omega)]
        · rw [if_neg (nI_nlt (by omega) (by omega)), Nat.max_eq_left (by omega)]
      rw [emn, emx, bT_v, bT_v, nI_1]
      refine ih (g + 1) f _ (by omega) (by omega) (by omega) (fun g' m hg' hP => ?_) ?_
      · by_cases hgg : g' = g
        · subst hgg
          have := hB2 m hP
          omega
        · have := h1 g' m (by omega) hP
          omega
      · by_cases h : V < min B (Af k dy (n - t) t g)
        · exact Or.inr ⟨g, B, hB1, by omega⟩
        · rw [Nat.max_eq_left (by omega)]
          exact h2
theorem ft_v {k dy a n t : Nat} (hk : k < 6) (ha : a < 100) (hn : n ≤ 7) (ht : t ≤ n) {T : TT} (hB : ∀ t', t' ≤ n → ∀ x, x < 100 → Sp (PP k dy t' 0 a x) (T.1 8 (t' + 1) x)) (hA : AR T k dy a n 0) : m_X5_farthestTurnAt T (nI t) = some (nI (FH k dy a n t)) :=
  ft_l hk ha hn ht (hB t ht) hA 100 0 FU 0 (by omega) (FU_lt (by omega)) (by omega) (fun g' m hg' => absurd hg' (by omega)) (Or.inl rfl)
theorem fh_l {k dy a n : Nat} (hk : k < 6) (ha : a < 100) (hn : n ≤ 7) {T : TT} (hC : RC T k dy a n) (hB : ∀ t', t' ≤ n → ∀ x, x < 100 → Sp (PP k dy t' 0 a x) (T.1 8 (t' + 1) x)) (hA : AR T k dy a n 0) : ∀ (q j f : Nat), j + 1 + q = n → q < f → m_X5_farthestTurn_l4 T f (nI (mxF (fun j => FH k dy a n (j + 1)) j)) (nI (j + 1)) = some (nI (mxF (fun j => FH k dy a n (j + 1)) (n - 1))) := by
  intro q
  induction q with
  | zero =>
    intro j f hj hf
    obtain ⟨f, rfl⟩ : ∃ q, f = q + 1 := ⟨f - 1, by omega⟩
    show m_X5_farthestTurn_h4 _ _ _ _ = _
    unfold m_X5_farthestTurn_h4
    rw [hC.2.2.1, if_pos (nI_le (by omega) (by omega)), show n - 1 = j by omega]
  | succ q ih =>
    intro j f hj hf
    obtain ⟨f, rfl⟩ : ∃ q, f = q + 1 := ⟨f - 1, by omega⟩
    show m_X5_farthestTurn_h4 _ _ _ _ = _
    unfold m_X5_farthestTurn_h4
    have h1 : mxF (fun j => FH k dy a n (j + 1)) j ≤ 5000 := mxF_lub (fun j' hj' => Nat.le_trans (FH_le hk ha) (by omega))
    have h2 := FH_le (k := k) (dy := dy) (a := a) (n := n) (t := j + 1) hk ha
    have emx : (if nI (mxF (fun j => FH k dy a n (j + 1)) j) < nI (FH k dy a n (j + 1)) then nI (FH k dy a n (j + 1)) else nI (mxF (fun j => FH k dy a n (j + 1)) j)) = nI (mxF (fun j => FH k dy a n (j + 1)) (j + 1)) := by
      show _ = nI (max (mxF (fun j => FH k dy a n (j + 1)) j) (FH k dy a n (j + 1)))
      by_cases h : mxF (fun j => FH k dy a n (j + 1)) j < FH k dy a n (j + 1)
      · rw [if_pos (nI_lt h (by omega)), Nat.max_eq_right (by omega)]
      · rw [if_neg (nI_nlt (by omega) (by omega)), Nat.max_eq_left (by omega)]
    rw [hC.2.2.1, if_neg (nI_ge (by omega) (by omega)), ft_v hk ha hn (by omega) hB hA, Option.bind_some, emx, bT_v, bT_v, nI_1]
    exact ih (j + 1) f (by omega) (by omega)
theorem ff_l {k dy a n b : Nat} (hk : k < 6) (ha : a < 100) (hn : n ≤ 7) {T : TT} (hC : RC T k dy a n) (hB : ∀ t', t' ≤ n → ∀ x, x < 100 → Sp (PP k dy t' 0 a x) (T.1 8 (t' + 1) x)) (hA : AR T k dy a n 0) (hb : b + 1 < n) (hlt : ∀ j, j < b → FH k dy a n (j + 1) < FH k dy a n (b + 1)) : ∀ (q j f : Nat), j + q = b → q < f → m_X5_firstTurnAt_l2 T f (nI (FH k dy a n (b + 1))) (nI (j + 1)) = some (nI (b + 1)) := by
  have h1 := FH_le (k := k) (dy := dy) (a := a) (n := n) (t := b + 1) hk ha
  intro q
  induction q with
  | zero =>
    intro j f hj hf
    obtain ⟨f, rfl⟩ : ∃ q, f = q + 1 := ⟨f - 1, by omega⟩
    have hj : j = b := by omega
    subst hj
    show m_X5_firstTurnAt_h2 _ _ _ _ = _
    unfold m_X5_firstTurnAt_h2
    rw [hC.2.2.1, if_neg (nI_ge (by omega) (by omega)), ft_v hk ha hn (by omega) hB hA, Option.bind_some, if_pos rfl]
  | succ q ih =>
    intro j f hj hf
    obtain ⟨f, rfl⟩ : ∃ q, f = q + 1 := ⟨f - 1, by omega⟩
    have h2 := hlt j (by omega)
    show m_X5_firstTurnAt_h2 _ _ _ _ = _
    unfold m_X5_firstTurnAt_h2
    rw [hC.2.2.1, if_neg (nI_ge (by omega) (by omega)), ft_v hk ha hn (by omega) hB hA, Option.bind_some, if_neg (fun e => by rw [nI_eq (by omega) (by omega)] at e; omega), bT_v, nI_1]
    exact ih (j + 1) f (by omega) (by omega)
/-! the reference -/
def en (e : Nat) : Int32 := nI e - 1
theorem en_s (e : Nat) : en (e + 1) = nI e := pk_sub (a := e + 1) (b := 1) (by omega)
theorem en_le {v e : Nat} (hv : v < 2 ^ 30) (he : e < 2 ^ 30) : nI v ≤ en e ↔ v + 1 ≤ e := by
  cases e with
  | zero =>
    refine ⟨fun h => ?_, fun h => absurd h (by omega)⟩
    exfalso
    have h1 := m1_lt (R := v) (by omega)
    have e0 : en 0 = -1 := by decide
    rw [e0, i32le] at h
    rw [i32lt] at h1
    omega
  | succ e =>
    rw [en_s]
    refine ⟨fun h => ?_, fun h => nI_le (by omega) (by omega)⟩
    by_cases h2 : e < v
    · exact absurd h (nI_ge h2 (by omega))
    · omega
theorem hc_l {i k dy a n t : Nat} (hi : i < 6) (hk : k < 6) (ha : a < 100) (hdy : dy < 100000) (hn : n ≤ 7) (ht0 : 0 < t) (ht : t < n) (w x5 : Int32) {e : Nat} (he : e < 10000) (rec48 : TT → Int32 → Int32 → Int32 → Int32 → Int32 → Int32 → Option (Int32 × TT)) : ∀ (q x f : Nat) (T : TT), x + q = 3 ^ n → q < f → T.1 10 1 (17 + i) = nI k → T.1 10 1 16 = nI dy → T.1 10 1 (4 + i) = nI a → ∃ T3, m_X11_home_l57 rec48 f T (nI i) (nI n) w (en (max e (mxF (fun x => hv k dy a n t x + 1) x))) (if e < max e (mxF (fun x => hv k dy a n t x + 1) x) then nI t else x5) (nI t) (nI x) = rec48 T3 (nI i) (nI n) w (en (max e (mxF (fun x => hv k dy a n t x + 1) (3 ^ n)))) (if e < max e (mxF (fun x => hv k dy a n t x + 1) (3 ^ n)) then nI t else x5) (nI (t + 1)) ∧ Fg T T3 := by
  have hp := p3_le hn
  intro q
  induction q with
  | zero =>
    intro x f T hx hf e1 e2 e3
    obtain ⟨f, rfl⟩ : ∃ q, f = q + 1 := ⟨f - 1, by omega⟩
    have hx : x = 3 ^ n := by omega
    subst hx
    refine ⟨T, ?_, Fr.rf⟩
    show m_X11_home_h57 _ _ _ _ _ _ _ _ _ _ = _
    unfold m_X11_home_h57
    rw [pt_v (by omega), Option.bind_some, if_pos (nI_le (Nat.le_refl _) (by omega)), bT_v, nI_1]
  | succ q ih =>
    intro x f T hx hf e1 e2 e3
    obtain ⟨f, rfl⟩ : ∃ q, f = q + 1 := ⟨f - 1, by omega⟩
    obtain ⟨T1, y1, y2, -⟩ := ml_v (fr := 0) (tl := t) hi hk ha hdy hn (show x < 3 ^ n by omega) ht0 (by omega) e1 e2 e3
    have ea := y2.a 10 1
    obtain ⟨T2, z1, z2, -⟩ := ml_v (T := T1) (fr := t) (tl := n) hi hk ha hdy hn (show x < 3 ^ n by omega) ht (Nat.le_refl n) (by rw [ea]; exact e1) (by rw [ea]; exact e2) (by rw [ea]; exact e3)
    have es : mD k dy a (dg n x) t - mD k dy a (dg n x) 0 = mD k dy a (dg n x) t := Nat.sub_zero _
    rw [es] at y1
    have eb : T2.1 10 1 = T.1 10 1 := (z2.a 10 1).trans ea
    have hm1 := mD_le (dy := dy) hk ha (fun j => dg_lt n x j) t
    have hm2 := mD_le (dy := dy) hk ha (fun j => dg_lt n x j) n
    have hvl := hv_le (k := k) (dy := dy) (a := a) (n := n) (t := t) (x := x) hk ha
    have hEl : max e (mxF (fun x => hv k dy a n t x + 1) x) < 2 ^ 30 := by
      have : mxF (fun x => hv k dy a n t x + 1) x ≤ 10000 := mxF_lub (fun j hj => by
        show hv k dy a n t j + 1 ≤ 10000
        have := hv_le (k := k) (dy := dy) (a := a) (n := n) (t := t) (x := j) hk ha
        omega)
      omega
    obtain ⟨T3, w1, w2⟩ := ih (x + 1) f T2 (by omega) (by omega) (by rw [eb]; exact e1) (by rw [eb]; exact e2) (by rw [eb]; exact e3)
    refine ⟨T3, ?_, Fr.trans y2 (Fr.trans z2 w2)⟩
    rw [← w1]
    have y1 : m_X11_milesBy T (nI i) (nI n) (nI x) 0 (nI t) = some (nI (mD k dy a (dg n x) t), T1) := y1
    have emx : max e (mxF (fun x => hv k dy a n t x + 1) (x + 1)) = max (max e (mxF (fun x => hv k dy a n t x + 1) x)) (hv k dy a n t x + 1) := by
      show max e (max (mxF (fun x => hv k dy a n t x + 1) x) (hv k dy a n t x + 1)) = _
      omega
    have emn : (if nI (mD k dy a (dg n x) n - mD k dy a (dg n x) t) ≤ nI (mD k dy a (dg n x) t) then m_X11_home_b106 rec48 (m_X11_home_l57 rec48 f) T2 (nI i) (nI n) w (en (max e (mxF (fun x => hv k dy a n t x + 1) x))) (if e < max e (mxF (fun x => hv k dy a n t x + 1) x) then nI t else x5) (nI t) (nI x) (nI (mD k dy a (dg n x) n - mD k dy a (dg n x) t)) else m_X11_home_b106 rec48 (m_X11_home_l57 rec48 f) T2 (nI i) (nI n) w (en (max e (mxF (fun x => hv k dy a n t x + 1) x))) (if e < max e (mxF (fun x => hv k dy a n t x + 1) x) then nI t else x5) (nI t) (nI x) (nI (mD k dy a (dg n x) t))) = m_X11_home_b106 rec48 (m_X11_home_l57 rec48 f) T2 (nI i) (nI n) w (en (max e (mxF (fun x => hv k dy a n t x + 1) x))) (if e < max e (mxF (fun x => hv k dy a n t x + 1) x) then nI t else x5) (nI t) (nI x) (nI (hv k dy a n t x)) := by
      unfold hv
      by_cases h : mD k dy a (dg n x) n - mD k dy a (dg n x) t ≤ mD k dy a (dg n x) t
      · rw [if_pos (nI_le h (by omega)), Nat.min_eq_right h]
      · rw [if_neg (nI_ge (by omega) (by omega)), Nat.min_eq_left (by omega)]
    show m_X11_home_h57 _ _ _ _ _ _ _ _ _ _ = _
    unfold m_X11_home_h57
    rw [pt_v (by omega), Option.bind_some, if_neg (nI_ge (by omega) (by omega)), y1, Option.bind_some, z1, Option.bind_some]
    refine Eq.trans emn ?_
    rw [emx]
    have hEe : e ≤ max e (mxF (fun x => hv k dy a n t x + 1) x) := Nat.le_max_left _ _
    generalize max e (mxF (fun x => hv k dy a n t x + 1) x) = E at hEl hEe ⊢
    generalize hv k dy a n t x = V at hvl ⊢
    unfold m_X11_home_b106 m_X11_home_b122 m_X11_home_b138
    by_cases h : V + 1 ≤ E
    · rw [if_pos ((en_le (by omega) hEl).mpr h), if_pos ((en_le (by omega) hEl).mpr h), bT_v, nI_1, Nat.max_eq_left h]
    · rw [if_neg (fun q => h ((en_le (by omega) hEl).mp q)), if_neg (fun q => h ((en_le (by omega) hEl).mp q)), bT_v, nI_1, Nat.max_eq_right (by omega), en_s, if_pos (show e < V + 1 by omega)]
def atF (G : Nat → Nat) : Nat → Int32
  | 0 => -1
  | j + 1 => if mxF G j < G j then nI (j + 1) else atF G j
theorem atF_v {G : Nat → Nat} (hG : ∀ j, 0 < G j) : ∀ {N : Nat}, 0 < N → ∃ b, b < N ∧ atF G N = nI (b + 1) ∧ G b = mxF G N ∧ ∀ b', b' < b → G b' < mxF G N
  | 0, h => absurd h (by omega)
  | N + 1, _ => by
    have e : mxF G (N + 1) = max (mxF G N) (G N) := rfl
    have e' : atF G (N + 1) = if mxF G N < G N then nI (N + 1) else atF G N := rfl
    by_cases hlt : mxF G N < G N
    · refine ⟨N, by omega, by rw [e', if_pos hlt], by rw [e]; omega, fun j' hj' => ?_⟩
      have := mxF_ge (f := G) hj'
      rw [e]
      omega
    · have hN : 0 < N := by
        by_cases h : N = 0
        · subst h
          exact absurd (hG 0) hlt
        · omega
      obtain ⟨j, h1, h2, h3, h4⟩ := atF_v hG (N := N) hN
      refine ⟨j, by omega, by rw [e', if_neg hlt, h2], by rw [e]; omega, fun j' hj' => ?_⟩
      have := h4 j' hj'
      rw [e]
      omega
theorem ho_l {i k dy a n w : Nat} (hi : i < 6) (hk : k < 6) (ha : a < 100) (hdy : dy < 100000) (hn : n ≤ 7) (hw : w ≤ 1) : ∀ (q j f : Nat) (T : TT), j + 1 + q = n → q < f → T.1 10 1 (17 + i) = nI k → T.1 10 1 16 = nI dy → T.1 10 1 (4 + i) = nI a → ∃ T3, m_X11_home_l48 f T (nI i) (nI n) (nI w) (en (mxF (fun j => FH k dy a n (j + 1) + 1) j)) (atF (fun j => FH k dy a n (j + 1) + 1) j) (nI (j + 1)) = some (if w = 0 then en (mxF (fun j => FH k dy a n (j + 1) + 1) (n - 1)) else atF (fun j => FH k dy a n (j + 1) + 1) (n - 1), T3) ∧ Fg T T3 := by
  have hp := p3_le hn
  intro q
  induction q with
  | zero =>
    intro j f T hj hf e1 e2 e3
    obtain ⟨f, rfl⟩ : ∃ q, f = q + 1 := ⟨f - 1, by omega⟩
    refine ⟨T, ?_, Fr.rf⟩
    show m_X11_home_h48 _ _ _ _ _ _ _ _ = _
    unfold m_X11_home_h48
    rw [if_pos (nI_le (by omega) (by omega)), show n - 1 = j by omega]
    rcases (show w = 0 ∨ w = 1 by omega) with rfl | rfl
    · rfl
    · rfl
  | succ q ih =>
    intro j f T hj hf e1 e2 e3
    obtain ⟨f, rfl⟩ : ∃ q, f = q + 1 := ⟨f - 1, by omega⟩
    have hE : mxF (fun j => FH k dy a n (j + 1) + 1) j < 10000 := by
      have : mxF (fun j => FH k dy a n (j + 1) + 1) j ≤ 9999 := mxF_lub (fun j' hj' => by
        show FH k dy a n (j' + 1) + 1 ≤ 9999
        have := FH_le (k := k) (dy := dy) (a := a) (n := n) (t := j' + 1) hk ha
        omega)
      omega
    obtain ⟨T1, y1, y2⟩ := hc_l hi hk ha hdy hn (show 0 < j + 1 by omega) (show j + 1 < n by omega) (nI w) (atF (fun j => FH k dy a n (j + 1) + 1) j) hE (m_X11_home_l48 f) (3 ^ n) 0 FU T (by omega) (FU_lt (by omega)) e1 e2 e3
    have ea := y2.a 10 1
    rw [show mxF (fun x => hv k dy a n (j + 1) x + 1) 0 = 0 from rfl, Nat.max_eq_left (Nat.zero_le _), if_neg (Nat.lt_irrefl _), mxF_s (p3_pos n), show mxF (hv k dy a n (j + 1)) (3 ^ n) + 1 = FH k dy a n (j + 1) + 1 from rfl] at y1
    have q1 : max (mxF (fun j => FH k dy a n (j + 1) + 1) j) (FH k dy a n (j + 1) + 1) = mxF (fun j => FH k dy a n (j + 1) + 1) (j + 1) := rfl
    have q2 : (if mxF (fun j => FH k dy a n (j + 1) + 1) j < max (mxF (fun j => FH k dy a n (j + 1) + 1) j) (FH k dy a n (j + 1) + 1) then nI (j + 1) else atF (fun j => FH k dy a n (j + 1) + 1) j) = atF (fun j => FH k dy a n (j + 1) + 1) (j + 1) := by
      show _ = if mxF (fun j => FH k dy a n (j + 1) + 1) j < FH k dy a n (j + 1) + 1 then nI (j + 1) else atF (fun j => FH k dy a n (j + 1) + 1) j
      by_cases h : mxF (fun j => FH k dy a n (j + 1) + 1) j < FH k dy a n (j + 1) + 1
      · rw [if_pos (by omega), if_pos h]
      · rw [if_neg (by omega), if_neg h]
    rw [q2, q1] at y1
    obtain ⟨T3, z1, z2⟩ := ih (j + 1) f T1 (by omega) (by omega) (by rw [ea]; exact e1) (by rw [ea]; exact e2) (by rw [ea]; exact e3)
    refine ⟨T3, ?_, y2.trans z2⟩
    show m_X11_home_h48 _ _ _ _ _ _ _ _ = _
    unfold m_X11_home_h48
    rw [if_neg (nI_ge (by omega) (by omega))]
    exact y1.trans z1
theorem op_home {n : Nat} {T : TT} (hn : n < 64) (h : Inv n T) (x y z : Int32) : Op n (m_X10_home T x y z) (fun T => m_X11_home T x y z) := by
  obtain ⟨sz, nc, tc, uc, dy, hR⟩ := h.t0
  have hsz := hR.1.1
  have hbad : ∀ (e1 : m_X10_home T x y z = some (-2, rfs T 0)) (e2 : m_X11_home (rfs T 0) x y z = some (-2, rfm (rfs T 0) 0)), Op n (m_X10_home T x y z) (fun T => m_X11_home T x y z) := fun e1 e2 => Op.of e1 e2 (h.refuse hn (by decide))
  have h0 : (rfs T 0).1 10 1 0 = nI sz := by rw [rfs_told]; exact hR.2.2.1.1
  rcases ixd x sz hsz with hb | ⟨i, hi, rfl⟩
  · refine hbad ?_ ?_
    · unfold m_X10_home
      rw [has_bad hR.2.1.1 hb]
      rfl
    · unfold m_X11_home
      rw [dr_bad h0 hsz hb]
      rfl
  rcases rng y 2 7 (by decide) (by decide) with hb | ⟨N, hN0, hN, rfl⟩
  · refine hbad ?_ ?_
    · unfold m_X10_home
      rw [has_ok hR.2.1.1 hsz hi, Option.bind_some, if_neg (by decide), show m_X10_within y 2 7 = some 0 from w_bad hb]
      rfl
    · unfold m_X11_home
      rw [dr_ok h0 hsz hi, Option.bind_some, if_neg (by decide), in_bad (lo := nI 2) (hi := nI 7) (by decide) (by decide) hb]
      rfl
  have wN : m_X10_within (nI N) 2 7 = some 1 := w_ok hN0 hN (by decide)
  have nN : m_X11_in (nI N).toInt64 2 7 = some 1 := in_ok (lo := nI 2) (hi := nI 7) (by decide) (by decide) (nI_rng hN0 hN (by decide))
  rcases rng z 0 1 (by decide) (by decide) with hb | ⟨w, -, hw, rfl⟩
  · refine hbad ?_ ?_
    · unfold m_X10_home
      rw [has_ok hR.2.1.1 hsz hi, Option.bind_some, if_neg (by decide), wN, Option.bind_some, if_neg (by decide), show m_X10_within z 0 1 = some 0 from w_bad hb]
      rfl
    · unfold m_X11_home
      rw [dr_ok h0 hsz hi, Option.bind_some, if_neg (by decide), nN, Option.bind_some, if_neg (by decide), in_bad (lo := nI 0) (hi := nI 1) (by decide) (by decide) hb]
      rfl
  obtain ⟨⟨k, hk, k1, k2⟩, ⟨g, hg, g1, g2⟩, m1⟩ := hR.2.2.2.1 i hi
  have hdy : dy < 100000 := by have := hR.1.2.2.2.2; have := h.1; omega
  obtain ⟨T1, r1, r2, rC, rB, rA⟩ := reckon_v hR.2.1.1 hsz hi hR.2.1.2.1 hdy hk hg k1 g1 hN
  have ea : T1.1 10 1 = T.1 10 1 := r2.1 10 1 (by simp [SCA])
  obtain ⟨T3, z1, z2⟩ := ho_l (show i < 6 by omega) hk hg hdy hN hw (N - 1) 0 FU T1 (by omega) (FU_lt (by omega)) (by rw [ea]; exact k2) (by rw [ea]; exact hR.2.2.1.2.1) (by rw [ea]; exact g2)
  obtain ⟨b, b1, b2, b3, b4⟩ := atF_v (G := fun j => FH k dy g N (j + 1) + 1) (fun j => by show 0 < FH k dy g N (j + 1) + 1; omega) (N := N - 1) (by omega)
  rw [mxF_s (show 0 < N - 1 by omega)] at b3 b4
  have b3 : FH k dy g N (b + 1) + 1 = mxF (fun j => FH k dy g N (j + 1)) (N - 1) + 1 := b3
  have b4 : ∀ b', b' < b → FH k dy g N (b' + 1) + 1 < mxF (fun j => FH k dy g N (j + 1)) (N - 1) + 1 := b4
  have q1 : m_X5_farthestTurn T1 = some (nI (mxF (fun j => FH k dy g N (j + 1)) (N - 1))) := fh_l hk hg hN rC rB rA (N - 1) 0 FU (by omega) (FU_lt (by omega))
  have q2 : m_X5_firstTurnAt T1 (nI (mxF (fun j => FH k dy g N (j + 1)) (N - 1))) = some (nI (b + 1)) := by
    rw [show mxF (fun j => FH k dy g N (j + 1)) (N - 1) = FH k dy g N (b + 1) by omega]
    exact ff_l hk hg hN rC rB rA (by omega) (fun j hj => by have := b4 j hj; omega) b 0 FU (by omega) (FU_lt (by omega))
  rw [mxF_s (show 0 < N - 1 by omega), en_s, b2] at z1
  refine Op.of (r := if w = 0 then nI (mxF (fun j => FH k dy g N (j + 1)) (N - 1)) else nI (b + 1)) (T1 := T1) (T2 := T3) ?_ ?_ (h.keep hn (r2.trans z2.sc))
  · unfold m_X10_home
    rw [has_ok hR.2.1.1 hsz hi, Option.bind_some, if_neg (by decide), wN, Option.bind_some, if_neg (by decide), show m_X10_within (nI w) 0 1 = some 1 from w_ok (Nat.zero_le w) hw (by decide), Option.bind_some, if_neg (by decide), r1, Option.bind_some, q1]
    rcases (show w = 0 ∨ w = 1 by omega) with rfl | rfl
    · rw [if_pos (by decide), if_pos rfl]
      rfl
    · rw [if_neg (by decide), if_neg (by decide), Option.bind_some, q2]
      rfl
  · show m_X11_home _ _ _ _ = _
    unfold m_X11_home
    rw [dr_ok (by rw [ea]; exact hR.2.2.1.1) hsz hi, Option.bind_some, if_neg (by decide), nN, Option.bind_some, if_neg (by decide), in_ok (lo := nI 0) (hi := nI 1) (by decide) (by decide) (nI_rng (Nat.zero_le w) hw (by decide)), Option.bind_some, if_neg (by decide)]
    exact z1
