theorem bf_g {k dy a n t : Nat} (hn : n ≤ 7) (ht : t ≤ n) (rec2 : TT → Int32 → Option TT) : ∀ (q g f : Nat) (T : TT), g + q = 100 → q < f → (∀ g', g' < g → T.1 8 (t + 1) g' = -1) → ∃ T', m_X5_reckonBefore_l12 rec2 f T (nI t) (nI g) = rec2 T' (nI (t + 1)) ∧ T'.2 = T.2 ∧ (∀ x y, ¬ (x = 8 ∧ y = t + 1) → T'.1 x y = T.1 x y) ∧ ∀ g', g' < 100 → T'.1 8 (t + 1) g' = -1 := by
  intro q
  induction q with
  | zero =>
    intro g f T hg hf hS
    obtain ⟨f, rfl⟩ : ∃ q, f = q + 1 := ⟨f - 1, by omega⟩
    have hg : g = 100 := by omega
    subst hg
    refine ⟨T, ?_, rfl, fun _ _ _ => rfl, hS⟩
    show m_X5_reckonBefore_h12 _ _ _ _ _ = _
    unfold m_X5_reckonBefore_h12
    rw [if_pos (by decide), bT_v, nI_1]
  | succ q ih =>
    intro g f T hg hf hS
    obtain ⟨f, rfl⟩ : ∃ q, f = q + 1 := ⟨f - 1, by omega⟩
    have h100 : ¬ (100 : Int32) ≤ nI g := nI_ge (b := 100) (by omega) (by decide)
    obtain ⟨T', z1, z2, z3, z4⟩ := ih (g + 1) f (sA T 8 (t + 1) g (-1)) (by omega) (by omega) (fun g' hg' => by
      rw [sA_v]
      by_cases h : g' = g
      · rw [if_pos ⟨rfl, rfl, h⟩]
      · rw [if_neg (fun z => h z.2.2)]; exact hS g' (by omega))
    refine ⟨T', ?_, z2, fun x y hxy => ?_, z4⟩
    · show m_X5_reckonBefore_h12 _ _ _ _ _ = _
      unfold m_X5_reckonBefore_h12
      rw [if_neg h100, if_pos (inb_n (by omega) (by decide)), if_pos (inb_n (by omega) (by decide)), bT_v, bT_v, cl_n (by omega), cl_n (by omega), nI_1]
      exact z1
    · rw [z3 x y hxy]
      funext i
      rw [sA_v, if_neg (fun z => hxy ⟨z.1, z.2.1⟩)]
theorem bf_t {k dy a n : Nat} (hn : n ≤ 7) (ha : a < 100) : ∀ (q t f : Nat) (T : TT), t + q = n + 1 → q < f → RC T k dy a n → (∀ t', t' < t → ∀ g, g < 100 → T.1 8 (t' + 1) g = -1) → ∃ T', m_X5_reckonBefore_l2 f T (nI t) = m_X5_reckonBefore_l53 FU T' 0 ∧ T'.2 = T.2 ∧ (∀ x y, x ≠ 8 → T'.1 x y = T.1 x y) ∧ (∀ t', t' ≤ n → ∀ g, g < 100 → T'.1 8 (t' + 1) g = if t' = 0 ∧ g = a then 0 else -1) := by
  intro q
  induction q with
  | zero =>
    intro t f T ht hf hC hS
    obtain ⟨f, rfl⟩ : ∃ q, f = q + 1 := ⟨f - 1, by omega⟩
    have ht : t = n + 1 := by omega
    subst ht
    refine ⟨sA T 8 1 a 0, ?_, rfl, fun x y hxy => ?_, fun t' ht' g hg => ?_⟩
    · show m_X5_reckonBefore_h2 _ _ _ = _
      unfold m_X5_reckonBefore_h2
      rw [hC.2.2.1, if_pos (nI_lt (by omega) (by omega)), if_pos (by decide), hC.2.1, if_pos (inb_n (by omega) (by decide)), bT_v, cl_n (by omega)]
      rfl
    · funext i
      rw [sA_v, if_neg (fun z => hxy z.1)]
    · rw [sA_v]
      by_cases h : t' = 0 ∧ g = a
      · rw [if_pos ⟨rfl, by omega, h.2⟩, if_pos h]
      · rw [if_neg (fun z => h ⟨by omega, z.2.2⟩), if_neg h]
        exact hS t' (by omega) g hg
  | succ q ih =>
    intro t f T ht hf hC hS
    obtain ⟨f, rfl⟩ : ∃ q, f = q + 1 := ⟨f - 1, by omega⟩
    obtain ⟨T1, y1, y2, y3, y4⟩ := bf_g (k := k) (dy := dy) (a := a) hn (show t ≤ n by omega) (m_X5_reckonBefore_l2 f) 100 0 FU T (by omega) (FU_lt (by omega)) (fun g' hg' => absurd hg' (by omega))
    obtain ⟨T', z1, z2, z3, z4⟩ := ih (t + 1) f T1 (by omega) (by omega) (hC.of y2) (fun t' ht' g hg => by
      by_cases h : t' = t
      · subst h; exact y4 g hg
      · rw [y3 8 (t' + 1) (by omega)]; exact hS t' (by omega) g hg)
    refine ⟨T', ?_, by rw [z2, y2], fun x y hxy => by rw [z3 x y hxy, y3 x y (fun z => hxy z.1)], z4⟩
    show m_X5_reckonBefore_h2 _ _ _ = _
    unfold m_X5_reckonBefore_h2
    rw [hC.2.2.1, if_neg (nI_nlt (by omega) (by omega))]
    exact y1.trans z1
/-- rows up to t are right; those behind are empty -/
def BR (T : TT) (k dy a n t : Nat) : Prop := (∀ t', t' ≤ t → ∀ g, g < 100 → Sp (PP k dy t' 0 a g) (T.1 8 (t' + 1) g)) ∧ ∀ t', t < t' → t' ≤ n → ∀ g, g < 100 → T.1 8 (t' + 1) g = -1
theorem bs_g {k dy a n t : Nat} (hk : k < 6) (ha : a < 100) (hn : n ≤ 7) (ht : t < n) (hdy : dy < 100000) (rec53 : TT → Int32 → Option TT) : ∀ (q g f : Nat) (T : TT), g + q = 100 → q < f → RC T k dy a n → (∀ t', t' ≤ t → ∀ g, g < 100 → Sp (PP k dy t' 0 a g) (T.1 8 (t' + 1) g)) → (∀ g'', g'' < 100 → Sp (Qp k dy a t g 0 g'') (T.1 8 (t + 2) g'')) → (∀ t', t + 1 < t' → t' ≤ n → ∀ g, g < 100 → T.1 8 (t' + 1) g = -1) → ∃ T', m_X5_reckonBefore_l63 rec53 f T (nI t) (nI g) = rec53 T' (nI (t + 1)) ∧ T'.2 = T.2 ∧ (∀ x y, x ≠ 8 → T'.1 x y = T.1 x y) ∧ BR T' k dy a n (t + 1) := by
  intro q
  induction q with
  | zero =>
    intro g f T hg hf hC h1 h2 h3
    obtain ⟨f, rfl⟩ : ∃ q, f = q + 1 := ⟨f - 1, by omega⟩
    have hg : g = 100 := by omega
    subst hg
    refine ⟨T, ?_, rfl, fun _ _ _ => rfl, fun t' ht' g hg => ?_, h3⟩
    · show m_X5_reckonBefore_h63 _ _ _ _ _ = _
      unfold m_X5_reckonBefore_h63
      rw [if_pos (by decide), bT_v, nI_1]
    · by_cases h : t' ≤ t
      · exact h1 t' h g hg
      · have : t' = t + 1 := by omega
        subst this
        refine (h2 g hg).congr (fun m => ⟨?_, ?_⟩)
        · rintro ⟨g', m', c, q1, q2, q3, q4, q5⟩
          have := PP_snoc q2 t 0 a g' m' q3
          rw [Nat.zero_add] at this
          rw [q4, q5]
          exact this
        · intro hm
          obtain ⟨g', m', c, q2, q3, q4, q5⟩ := PP_un t 0 a g m hm
          rw [Nat.zero_add] at q5
          exact ⟨g', m', c, Or.inl (PP_le hk t 0 a g' m' ha q3).2, q2, q3, q4, q5⟩
  | succ q ih =>
    intro g f T hg hf hC h1 h2 h3
    obtain ⟨f, rfl⟩ : ∃ q, f = q + 1 := ⟨f - 1, by omega⟩
    have h100 : ¬ (100 : Int32) ≤ nI g := nI_ge (b := 100) (by omega) (by decide)
    show ∃ T', m_X5_reckonBefore_h63 _ _ _ _ _ = _ ∧ _
    unfold m_X5_reckonBefore_h63
    rw [if_neg h100, if_pos (inb_n (by omega) (by decide)), if_pos (inb_n (by omega) (by decide)), show T.1 8 ((nI t).toNatClampNeg + 1) (nI g).toNatClampNeg = T.1 8 (t + 1) g by rw [cl_n (by omega), cl_n (by omega)]]
    rcases h1 t (Nat.le_refl _) g (by omega) with ⟨e, hno⟩ | ⟨B, e, hB, hB2⟩
    · obtain ⟨T', z1, z2, z3, z4⟩ := ih (g + 1) f T (by omega) (by omega) hC h1 (fun g'' hg'' => (h2 g'' hg'').congr (fun m => ⟨by
        rintro ⟨g', m', c, q1, q2, q3, q4, q5⟩
        exact ⟨g', m', c, by omega, q2, q3, q4, q5⟩, by
        rintro ⟨g', m', c, q1, q2, q3, q4, q5⟩
        refine ⟨g', m', c, ?_, q2, q3, q4, q5⟩
        by_cases hgg : g' = g
        · subst hgg; exact absurd q3 (hno m')
        · omega⟩)) h3
      refine ⟨T', ?_, z2, z3, z4⟩
      rw [if_pos e]
      unfold m_X5_reckonBefore_b87
      rw [bT_v, nI_1]
      exact z1
    · have hBl := (PP_le hk t 0 a g B ha hB).1
      obtain ⟨T1, y1, y2, y3, y4⟩ := spread_l hk ha hn ht hdy (show g < 100 by omega) hB hB2 3 0 FU T (by omega) (FU_lt (by omega)) hC e h2
      obtain ⟨T', z1, z2, z3, z4⟩ := ih (g + 1) f T1 (by omega) (by omega) (hC.of y2) (fun t' ht' g hg => by rw [y3 8 (t' + 1) (by omega)]; exact h1 t' ht' g hg) (fun g'' hg'' => (y4 g'' hg'').congr (fun m => ⟨by
        rintro ⟨g', m', c, q1, q2, q3, q4, q5⟩
        exact ⟨g', m', c, by omega, q2, q3, q4, q5⟩, by
        rintro ⟨g', m', c, q1, q2, q3, q4, q5⟩
        exact ⟨g', m', c, by omega, q2, q3, q4, q5⟩⟩)) (fun t' ht' ht'' g hg => by rw [y3 8 (t' + 1) (by omega)]; exact h3 t' ht' ht'' g hg)
      refine ⟨T', ?_, by rw [z2, y2], fun x y hxy => by rw [z3 x y hxy, y3 x y (fun z => hxy z.1)], z4⟩
      have y1' : m_X5_spread T (nI t) (nI g) = some T1 := y1
      rw [if_neg (by rw [e]; exact m1_ne (by omega)), y1', Option.bind_some]
      unfold m_X5_reckonBefore_b87
      rw [bT_v, nI_1]
      exact z1
theorem bs_t {k dy a n : Nat} (hk : k < 6) (ha : a < 100) (hn : n ≤ 7) (hdy : dy < 100000) : ∀ (q t f : Nat) (T : TT), t + q = n → q < f → RC T k dy a n → BR T k dy a n t → ∃ T', m_X5_reckonBefore_l53 f T (nI t) = some T' ∧ T'.2 = T.2 ∧ (∀ x y, x ≠ 8 → T'.1 x y = T.1 x y) ∧ BR T' k dy a n n := by
  intro q
  induction q with
  | zero =>
    intro t f T ht hf hC hB
    obtain ⟨f, rfl⟩ : ∃ q, f = q + 1 := ⟨f - 1, by omega⟩
    have ht : t = n := by omega
    subst ht
    refine ⟨T, ?_, rfl, fun _ _ _ => rfl, hB⟩
    show m_X5_reckonBefore_h53 _ _ _ = _
    unfold m_X5_reckonBefore_h53
    rw [hC.2.2.1, if_pos (nI_le (Nat.le_refl _) (by omega))]
  | succ q ih =>
    intro t f T ht hf hC hB
    obtain ⟨f, rfl⟩ : ∃ q, f = q + 1 := ⟨f - 1, by omega⟩
    obtain ⟨T1, y1, y2, y3, y4⟩ := bs_g hk ha hn (show t < n by omega) hdy (m_X5_reckonBefore_l53 f) 100 0 FU T (by omega) (FU_lt (by omega)) hC hB.1 (fun g'' hg'' => Or.inl ⟨hB.2 (t + 1) (by omega) (by omega) g'' hg'', fun m hm => by
      obtain ⟨g', m', c, q1, -⟩ := hm
      omega⟩) (fun t' ht' ht'' => hB.2 t' (by omega) ht'')
    obtain ⟨T', z1, z2, z3, z4⟩ := ih (t + 1) f T1 (by omega) (by omega) (hC.of y2) y4
    refine ⟨T', ?_, by rw [z2, y2], fun x y hxy => by rw [z3 x y hxy, y3 x y hxy], z4⟩
    show m_X5_reckonBefore_h53 _ _ _ = _
    unfold m_X5_reckonBefore_h53
    rw [hC.2.2.1, if_neg (nI_ge (by omega) (by omega))]
    exact y1.trans z1
theorem before_v {k dy a n : Nat} (hk : k < 6) (ha : a < 100) (hn : n ≤ 7) (hdy : dy < 100000) {T : TT} (hC : RC T k dy a n) : ∃ T', m_X5_reckonBefore T = some T' ∧ T'.2 = T.2 ∧ (∀ x y, x ≠ 8 → T'.1 x y = T.1 x y) ∧ ∀ t', t' ≤ n → ∀ g, g < 100 → Sp (PP k dy t' 0 a g) (T'.1 8 (t' + 1) g) := by
  obtain ⟨T1, y1, y2, y3, y4⟩ := bf_t hn ha (n + 1) 0 FU T (by omega) (FU_lt (by omega)) hC (fun t' ht' => absurd ht' (by omega))
  obtain ⟨T2, z1, z2, z3, z4⟩ := bs_t hk ha hn hdy n 0 FU T1 (by omega) (FU_lt (by omega)) (hC.of y2) ⟨fun t' ht' g hg => by
    have : t' = 0 := by omega
    subst this
    rw [y4 0 (by omega) g hg]
    by_cases h : g = a
    · rw [if_pos ⟨rfl, h⟩]
      exact Or.inr ⟨0, rfl, ⟨h, rfl⟩, fun m hm => by have := hm.2; omega⟩
    · rw [if_neg (fun z => h z.2)]
      exact Or.inl ⟨rfl, fun m hm => h hm.1⟩, fun t' ht' ht'' g hg => by
    rw [y4 t' ht'' g hg, if_neg (by omega)]⟩
  exact ⟨T2, y1.trans z1, by rw [z2, y2], fun x y hxy => by rw [z3 x y hxy, y3 x y hxy], z4.1⟩
/-! from there on -/
theorem Af_le {k dy : Nat} (hk : k < 6) : ∀ r t g, g < 100 → Af k dy r t g ≤ 199 * r
  | 0, _, _, _ => Nat.zero_le _
  | r + 1, t, g, hg => by
    refine mxF_lub (fun c hc => ?_)
    show gn k dy t c g + Af k dy r (t + 1) (lF k c g) ≤ _
    have h1 := gn_le (k := k) (dy := dy) (t := t) (c := c) hk hg
    have h2 := Af_le (dy := dy) hk r (t + 1) (lF k c g) (lF_lt k hk c hc g hg)
    omega
/-- what stands in the rows from t on is right, where a row comes by -/
def AR (T : TT) (k dy a n t : Nat) : Prop := ∀ t', t ≤ t' → t' ≤ n → ∀ g, g < 100 → (∃ m, PP k dy t' 0 a g m) → T.1 9 (t' + 1) g = nI (Af k dy (n - t') t' g)
theorem mb_v {k dy a n t g c : Nat} (hk : k < 6) (ha : a < 100) (hn : n ≤ 7) (ht : t < n) (hdy : dy < 100000) (hg : g < 100) (hc : c < 3) {T : TT} (hC : RC T k dy a n) (hA : AR T k dy a n (t + 1)) (hr : ∃ m, PP k dy t 0 a g m) : m_X5_milesBy T (nI t) (nI g) (nI c) = some (nI (gn k dy t c g + Af k dy (n - (t + 1)) (t + 1) (lF k c g))) := by
  unfold m_X5_milesBy
  have hl := lF_lt k hk c hc g hg
  have hb : ∀ s0 : Int32, s0 = nI (gn k dy t c g) → m_X5_milesBy_b25 T (nI t) (nI g) (nI c) s0 = some (nI (gn k dy t c g + Af k dy (n - (t + 1)) (t + 1) (lF k c g))) := fun s0 hs => by
    unfold m_X5_milesBy_b25
    obtain ⟨m, hm⟩ := hr
    have h1 := PP_snoc hc t 0 a g m hm
    have h2 := hA (t + 1) (Nat.le_refl _) (by omega) (lF k c g) hl ⟨_, h1⟩
    rw [nI_1, if_pos (inb_n (by omega) (by decide)), left_v hC.2.2.2 hk hc hg, Option.bind_some, if_pos (inb_n (by omega) (by decide)), cl_n (by omega), cl_n (by omega), h2, hs, ad_n]
  by_cases c0 : c = 0
  · subst c0
    rw [if_pos (by decide), hC.1, ad_n, sea_v (by omega), Option.bind_some, runs_v hC.2.2.2 hk (Nat.mod_lt _ (by decide)) hg, Option.bind_some]
    exact hb _ (by unfold gn; rw [if_pos rfl])
  · rw [if_neg (nI_ne0 (by omega) (by omega))]
    exact hb 0 (by unfold gn; rw [if_neg c0]; rfl)
theorem af_c {k dy a n t g : Nat} (hk : k < 6) (ha : a < 100) (hn : n ≤ 7) (ht : t < n) (hdy : dy < 100000) (hg : g < 100) (hr : ∃ m, PP k dy t 0 a g m) (rec5 : TT → Int32 → Option TT) (rec11 : TT → Int32 → Int32 → Option TT) : ∀ (q c f : Nat) (T : TT), c + q = 3 → q < f → RC T k dy a n → AR T k dy a n (t + 1) → T.1 9 (t + 1) g = nI (mxF (fun c => gn k dy t c g + Af k dy (n - (t + 1)) (t + 1) (lF k c g)) c) → ∃ T', m_X5_reckonAfter_l55 rec5 rec11 f T (nI t) (nI g) 1 (nI c) = rec11 T' (nI t) (nI (g + 1)) ∧ T'.2 = T.2 ∧ (∀ x y i, ¬ (x = 9 ∧ y = t + 1 ∧ i = g) → T'.1 x y i = T.1 x y i) ∧ T'.1 9 (t + 1) g = nI (Af k dy (n - t) t g) := by
  intro q
  have hAf : Af k dy (n - t) t g = mxF (fun c => gn k dy t c g + Af k dy (n - (t + 1)) (t + 1) (lF k c g)) 3 := by
    rw [show n - t = n - (t + 1) + 1 by omega]
    rfl
  induction q with
  | zero =>
    intro c f T hc hf hC hA h9
    obtain ⟨f, rfl⟩ : ∃ q, f = q + 1 := ⟨f - 1, by omega⟩
    have hc : c = 3 := by omega
    subst hc
    refine ⟨T, ?_, rfl, fun _ _ _ _ => rfl, by rw [h9, hAf]⟩
    show m_X5_reckonAfter_h55 _ _ _ _ _ _ _ _ = _
    unfold m_X5_reckonAfter_h55 m_X5_reckonAfter_b98
    rw [if_pos (by decide), bT_v, nI_1]
  | succ q ih =>
    intro c f T hc hf hC hA h9
    obtain ⟨f, rfl⟩ : ∃ q, f = q + 1 := ⟨f - 1, by omega⟩
    have h3 : ¬ (3 : Int32) ≤ nI c := nI_ge (b := 3) (by omega) (by decide)
    have hmb := mb_v hk ha hn ht hdy hg (show c < 3 by omega) hC hA hr
    have hv : gn k dy t c g + Af k dy (n - (t + 1)) (t + 1) (lF k c g) < 5000 := by
      have h1 := gn_le (k := k) (dy := dy) (t := t) (c := c) hk hg
      have h2 := Af_le (dy := dy) hk (n - (t + 1)) (t + 1) (lF k c g) (lF_lt k hk c (by omega) g hg)
      omega
    have hM : mxF (fun c => gn k dy t c g + Af k dy (n - (t + 1)) (t + 1) (lF k c g)) c < 5000 := by
      have : mxF (fun c => gn k dy t c g + Af k dy (n - (t + 1)) (t + 1) (lF k c g)) c ≤ 4999 := mxF_lub (fun c' hc' => by
        show gn k dy t c' g + Af k dy (n - (t + 1)) (t + 1) (lF k c' g) ≤ 4999
        have h1 := gn_le (k := k) (dy := dy) (t := t) (c := c') hk hg
        have h2 := Af_le (dy := dy) hk (n - (t + 1)) (t + 1) (lF k c' g) (lF_lt k hk c' (by omega) g hg)
        omega)
      omega
    have hmx : (if nI (mxF (fun c => gn k dy t c g + Af k dy (n - (t + 1)) (t + 1) (lF k c g)) c) < nI (gn k dy t c g + Af k dy (n - (t + 1)) (t + 1) (lF k c g)) then nI (gn k dy t c g + Af k dy (n - (t + 1)) (t + 1) (lF k c g)) else nI (mxF (fun c => gn k dy t c g + Af k dy (n - (t + 1)) (t + 1) (lF k c g)) c)) = nI (mxF (fun c => gn k dy t c g + Af k dy (n - (t + 1)) (t + 1) (lF k c g)) (c + 1)) := by
      show _ = nI (max (mxF (fun c => gn k dy t c g + Af k dy (n - (t + 1)) (t + 1) (lF k c g)) c) (gn k dy t c g + Af k dy (n - (t + 1)) (t + 1) (lF k c g)))
      by_cases hlt : mxF (fun c => gn k dy t c g + Af k dy (n - (t + 1)) (t + 1) (lF k c g)) c < gn k dy t c g + Af k dy (n - (t + 1)) (t + 1) (lF k c g)
      · rw [if_pos (nI_lt hlt (by omega)), Nat.max_eq_right (by omega)]
      · rw [if_neg (nI_nlt (by omega) (by omega)), Nat.max_eq_left (by omega)]
    obtain ⟨T', z1, z2, z3, z4⟩ := ih (c + 1) f (sA T 9 (t + 1) g (nI (mxF (fun c => gn k dy t c g + Af k dy (n - (t + 1)) (t + 1) (lF k c g)) (c + 1)))) (by omega) (by omega) hC (fun t' ht' ht'' g' hg' hr' => by rw [sA_v, if_neg (by omega)]; exact hA t' ht' ht'' g' hg' hr') (by rw [sA_v, if_pos ⟨rfl, rfl, rfl⟩])
    refine ⟨T', ?_, z2, fun x y i hxy => by rw [z3 x y i hxy, sA_v, if_neg hxy], z4⟩
    show m_X5_reckonAfter_h55 _ _ _ _ _ _ _ _ = _
    unfold m_X5_reckonAfter_h55
    rw [if_neg h3, if_neg (by decide), if_pos (inb_n (by omega) (by decide)), if_pos (inb_n (by omega) (by decide)), if_pos (inb_n (by omega) (by decide)), hmb, Option.bind_some, if_pos (inb_n (by omega) (by decide)), bT_v, bT_v, cl_n (by omega), cl_n (by omega), h9, hmx, nI_1]
    exact z1
theorem af_g {k dy a n t : Nat} (hk : k < 6) (ha : a < 100) (hn : n ≤ 7) (ht : t ≤ n) (hdy : dy < 100000) (rec5 : TT → Int32 → Option TT) : ∀ (q g f : Nat) (T : TT), g + q = 100 → q < f → RC T k dy a n → (∀ g, g < 100 → Sp (PP k dy t 0 a g) (T.1 8 (t + 1) g)) → AR T k dy a n (t + 1) → (∀ g', g' < g → (∃ m, PP k dy t 0 a g' m) → T.1 9 (t + 1) g' = nI (Af k dy (n - t) t g')) → ∃ T', m_X5_reckonAfter_l11 rec5 f T (nI t) (nI g) = rec5 T' (nI t + (-1)) ∧ T'.2 = T.2 ∧ (∀ x y, x ≠ 9 → T'.1 x y = T.1 x y) ∧ AR T' k dy a n t := by
  intro q
  induction q with
  | zero =>
    intro g f T hg hf hC hB hA h9
    obtain ⟨f, rfl⟩ : ∃ q, f = q + 1 := ⟨f - 1, by omega⟩
    have hg : g = 100 := by omega
    subst hg
    refine ⟨T, ?_, rfl, fun _ _ _ => rfl, fun t' ht' ht'' g hg hr => ?_⟩
    · show m_X5_reckonAfter_h11 _ _ _ _ _ = _
      unfold m_X5_reckonAfter_h11
      rw [if_pos (by decide), bT_v]
    · by_cases h : t' = t
      · subst h; exact h9 g hg hr
      · exact hA t' (by omega) ht'' g hg hr
  | succ q ih =>
    intro g f T hg hf hC hB hA h9
    obtain ⟨f, rfl⟩ : ∃ q, f = q + 1 := ⟨f - 1, by omega⟩
    have h100 : ¬ (100 : Int32) ≤ nI g := nI_ge (b := 100) (by omega) (by decide)
    have e8 : (sA T 9 (t + 1) g 0).1 8 (t + 1) g = T.1 8 (t + 1) g := by rw [sA_v, if_neg (by omega)]
    have hA0 : AR (sA T 9 (t + 1) g 0) k dy a n (t + 1) := fun t' ht' ht'' g' hg' hr' => by rw [sA_v, if_neg (by omega)]; exact hA t' ht' ht'' g' hg' hr'
    -- what is behind this g
    have go : ∀ T1 : TT, T1.2 = T.2 → (∀ x y i, ¬ (x = 9 ∧ y = t + 1 ∧ i = g) → T1.1 x y i = T.1 x y i) → ((∃ m, PP k dy t 0 a g m) → T1.1 9 (t + 1) g = nI (Af k dy (n - t) t g)) → ∃ T', m_X5_reckonAfter_l11 rec5 f T1 (nI t) (nI (g + 1)) = rec5 T' (nI t + (-1)) ∧ T'.2 = T.2 ∧ (∀ x y, x ≠ 9 → T'.1 x y = T.1 x y) ∧ AR T' k dy a n t := fun T1 e2 eo eg => by
      obtain ⟨T', z1, z2, z3, z4⟩ := ih (g + 1) f T1 (by omega) (by omega) (hC.of e2) (fun g hg => by rw [eo 8 (t + 1) g (by omega)]; exact hB g hg) (fun t' ht' ht'' g' hg' hr' => by rw [eo 9 (t' + 1) g' (by omega)]; exact hA t' ht' ht'' g' hg' hr') (fun g' hg' hr' => by
        by_cases h : g' = g
        · subst h; exact eg hr'
        · rw [eo 9 (t + 1) g' (by omega)]; exact h9 g' (by omega) hr')
      refine ⟨T', z1, by rw [z2, e2], fun x y hxy => ?_, z4⟩
      rw [z3 x y hxy]
      funext i
      exact eo x y i (fun z => hxy z.1)
    have stop : (t = n ∨ ¬ ∃ m, PP k dy t 0 a g m) → ∃ T', m_X5_reckonAfter_b50 rec5 (m_X5_reckonAfter_l11 rec5 f) (sA T 9 (t + 1) g 0) (nI t) (nI g) = rec5 T' (nI t + (-1)) ∧ T'.2 = T.2 ∧ (∀ x y, x ≠ 9 → T'.1 x y = T.1 x y) ∧ AR T' k dy a n t := fun hst => by
      obtain ⟨T', z1, z2⟩ := go (sA T 9 (t + 1) g 0) rfl (fun x y i hxy => by rw [sA_v, if_neg hxy]) (fun hr => by
        rcases hst with h | h
        · rw [sA_v, if_pos ⟨rfl, rfl, rfl⟩, show n - t = 0 by omega]; rfl
        · exact absurd hr h)
      refine ⟨T', ?_, z2⟩
      unfold m_X5_reckonAfter_b50 m_X5_reckonAfter_b51
      show m_X5_reckonAfter_h55 _ _ _ _ _ _ _ _ = _
      unfold m_X5_reckonAfter_h55 m_X5_reckonAfter_b98
      rw [if_neg (by decide), if_pos rfl, bT_v, nI_1]
      exact z1
    show ∃ T', m_X5_reckonAfter_h11 _ _ _ _ _ = _ ∧ _
    unfold m_X5_reckonAfter_h11
    rw [if_neg h100, if_pos (inb_n (by omega) (by decide)), if_pos (inb_n (by omega) (by decide)), bT_v, show sA T 9 (Int32.toNatClampNeg (nI t) + 1) (Int32.toNatClampNeg (nI g)) 0 = sA T 9 (t + 1) g 0 by rw [cl_n (by omega), cl_n (by omega)], sA_2, hC.2.2.1]
    by_cases htn : t = n
    · rw [if_pos (nI_le (by omega) (by omega))]
      exact stop (Or.inl htn)
    · rw [if_neg (nI_ge (by omega) (by omega)), if_pos (inb_n (by omega) (by decide)), if_pos (inb_n (by omega) (by decide)), cl_n (by omega), cl_n (by omega), e8]
      rcases hB g (by omega) with ⟨e, hno⟩ | ⟨B, e, hB1, hB2⟩
      · rw [if_pos e]
        exact stop (Or.inr (fun z => z.elim hno))
      · have hBl := (PP_le hk t 0 a g B ha hB1).1
        rw [if_neg (by rw [e]; exact m1_ne (by omega))]
        obtain ⟨T1, y1, y2, y3, y4⟩ := af_c hk ha hn (show t < n by omega) hdy (show g < 100 by omega) ⟨B, hB1⟩ rec5 (m_X5_reckonAfter_l11 rec5 f) 3 0 FU (sA T 9 (t + 1) g 0) (by omega) (FU_lt (by omega)) (hC.of rfl) hA0 (by rw [sA_v, if_pos ⟨rfl, rfl, rfl⟩]; rfl)
        obtain ⟨T', z1, z2⟩ := go T1 y2 (fun x y i hxy => by rw [y3 x y i hxy, sA_v, if_neg hxy]) (fun _ => y4)
        refine ⟨T', ?_, z2⟩
        exact y1.trans z1
theorem after_l {k dy a n : Nat} (hk : k < 6) (ha : a < 100) (hn : n ≤ 7) (hdy : dy < 100000) : ∀ (t f : Nat) (T : TT), t ≤ n → t < f → RC T k dy a n → (∀ t', t' ≤ n → ∀ g, g < 100 → Sp (PP k dy t' 0 a g) (T.1 8 (t' + 1) g)) → AR T k dy a n (t + 1) → ∃ T', m_X5_reckonAfter_l5 (f + 1) T (nI t) = some T' ∧ T'.2 = T.2 ∧ (∀ x y, x ≠ 9 → T'.1 x y = T.1 x y) ∧ AR T' k dy a n 0 := by
  intro t
  induction t with
  | zero =>
    intro f T ht hf hC hB hA
    obtain ⟨f, rfl⟩ : ∃ q, f = q + 1 := ⟨f - 1, by omega⟩
    obtain ⟨T1, y1, y2, y3, y4⟩ := af_g hk ha hn (Nat.zero_le n) hdy (m_X5_reckonAfter_l5 (f + 1)) 100 0 FU T (by omega) (FU_lt (by omega)) hC (hB 0 (Nat.zero_le n)) hA (fun g' hg' => absurd hg' (by omega))
    refine ⟨T1, ?_, y2, y3, y4⟩
    show m_X5_reckonAfter_h5 _ _ _ = _
    unfold m_X5_reckonAfter_h5
    rw [if_neg (nI_pos (by decide))]
    refine y1.trans ?_
    show m_X5_reckonAfter_h5 _ _ _ = _
    unfold m_X5_reckonAfter_h5
    rw [if_pos (by decide)]
  | succ t ih =>
    intro f T ht hf hC hB hA
    obtain ⟨f, rfl⟩ : ∃ q, f = q + 1 := ⟨f - 1, by omega⟩
    obtain ⟨T1, y1, y2, y3, y4⟩ := af_g hk ha hn ht hdy (m_X5_reckonAfter_l5 (f + 1)) 100 0 FU T (by omega) (FU_lt (by omega)) hC (hB (t + 1) ht) hA (fun g' hg' => absurd hg' (by omega))
    obtain ⟨T2, z1, z2, z3, z4⟩ := ih f T1 (by omega) (by omega) (hC.of y2) (fun t' ht' g hg => by rw [y3 8 (t' + 1) (by omega)]; exact hB t' ht' g hg) y4
    refine ⟨T2, ?_, by rw [z2, y2], fun x y hxy => by rw [z3 x y hxy, y3 x y hxy], z4⟩
    show m_X5_reckonAfter_h5 _ _ _ = _
    unfold m_X5_reckonAfter_h5
    rw [if_neg (nI_pos (by omega))]
    refine y1.trans ?_
    rw [pk_m1]
    exact z1
