/-- the first best choice with r days behind this one -/
def fbF (k dy r t g : Nat) : Nat := if gn k dy t 0 g + Af k dy r (t + 1) (lF k 0 g) = Af k dy (r + 1) t g then 0 else if gn k dy t 1 g + Af k dy r (t + 1) (lF k 1 g) = Af k dy (r + 1) t g then 1 else 2
theorem fbF_v (k dy r t g : Nat) : fbF k dy r t g < 3 ∧ gn k dy t (fbF k dy r t g) g + Af k dy r (t + 1) (lF k (fbF k dy r t g) g) = Af k dy (r + 1) t g ∧ ∀ c, c < fbF k dy r t g → gn k dy t c g + Af k dy r (t + 1) (lF k c g) < Af k dy (r + 1) t g := by
  obtain ⟨c, c1, c2, c3⟩ := mxF_ex (f := fun c => gn k dy t c g + Af k dy r (t + 1) (lF k c g)) (n := 3) (by decide)
  have c2 : gn k dy t c g + Af k dy r (t + 1) (lF k c g) = Af k dy (r + 1) t g := c2
  have c3 : ∀ c', c' < c → gn k dy t c' g + Af k dy r (t + 1) (lF k c' g) < Af k dy (r + 1) t g := c3
  have e : fbF k dy r t g = c := by
    unfold fbF
    rcases (show c = 0 ∨ c = 1 ∨ c = 2 by omega) with rfl | rfl | rfl
    · rw [if_pos c2]
    · have := c3 0 (by decide)
      rw [if_neg (by omega), if_pos c2]
    · have h0 := c3 0 (by decide)
      have h1 := c3 1 (by decide)
      rw [if_neg (by omega), if_neg (by omega)]
  rw [e]
  exact ⟨c1, c2, c3⟩
def gB (k dy n a : Nat) : Nat → Nat
  | 0 => a
  | t + 1 => lF k (fbF k dy (n - (t + 1)) t (gB k dy n a t)) (gB k dy n a t)
def dB (k dy n a t : Nat) : Nat := fbF k dy (n - (t + 1)) t (gB k dy n a t)
theorem dB_lt (k dy n a t : Nat) : dB k dy n a t < 3 := (fbF_v k dy _ t _).1
theorem gD_B (k dy n a : Nat) : ∀ t, gD k a (dB k dy n a) t = gB k dy n a t
  | 0 => rfl
  | t + 1 => by
    show lF k (dB k dy n a t) (gD k a (dB k dy n a) t) = _
    rw [gD_B k dy n a t]
    rfl
theorem mD_B (k dy n a : Nat) : ∀ t, t ≤ n → mD k dy a (dB k dy n a) t + Af k dy (n - t) t (gB k dy n a t) = Af k dy n 0 a
  | 0, _ => Nat.zero_add _
  | t + 1, h => by
    have h1 := mD_B k dy n a t (by omega)
    have h2 := (fbF_v k dy (n - (t + 1)) t (gB k dy n a t)).2.1
    rw [show n - (t + 1) + 1 = n - t by omega] at h2
    show mD k dy a (dB k dy n a) t + gn k dy t (dB k dy n a t) (gD k a (dB k dy n a) t) + Af k dy (n - (t + 1)) (t + 1) (lF k (fbF k dy (n - (t + 1)) t (gB k dy n a t)) (gB k dy n a t)) = _
    rw [gD_B k dy n a t]
    have h3 : dB k dy n a t = fbF k dy (n - (t + 1)) t (gB k dy n a t) := rfl
    rw [h3]
    omega
/-- the first best code -/
theorem code_B {k dy a : Nat} (n : Nat) : cd (dB k dy n a) n < 3 ^ n ∧ mD k dy a (dg n (cd (dB k dy n a) n)) n = Af k dy n 0 a ∧ (∀ x, mD k dy a (dg n x) n ≤ Af k dy n 0 a) ∧ ∀ x, x < cd (dB k dy n a) n → mD k dy a (dg n x) n < Af k dy n 0 a := by
  have hl := cd_lt (dB_lt k dy n a) n
  refine ⟨hl, ?_, fun x => ?_, fun x hx => ?_⟩
  · rw [mD_c n (fun i hi => cd_dg (dB_lt k dy n a) n i hi)]
    have := mD_B k dy n a n (Nat.le_refl n)
    rw [Nat.sub_self] at this
    exact this
  · have := mD_up (fun j => dg_lt n x j) (k := k) (dy := dy) (a := a) n 0
    rw [Nat.zero_add] at this
    have e0 : mD k dy a (dg n x) 0 = 0 := rfl
    have e1 : gD k a (dg n x) 0 = a := rfl
    rw [e0, e1, Nat.zero_add] at this
    exact this
  · obtain ⟨j, j1, j2, j3⟩ := dg_lex n x _ hx hl
    rw [cd_dg (dB_lt k dy n a) n j j1] at j3
    have j2 : ∀ i, i < j → dg n x i = dB k dy n a i := fun i hi => (j2 i hi).trans (cd_dg (dB_lt k dy n a) n i (by omega))
    have h1 := mD_up (fun j => dg_lt n x j) (k := k) (dy := dy) (a := a) (n - (j + 1)) (j + 1)
    rw [show j + 1 + (n - (j + 1)) = n by omega] at h1
    have e0 : mD k dy a (dg n x) (j + 1) = mD k dy a (dg n x) j + gn k dy j (dg n x j) (gD k a (dg n x) j) := rfl
    have e1 : gD k a (dg n x) (j + 1) = lF k (dg n x j) (gD k a (dg n x) j) := rfl
    rw [e0, e1, gD_c j j2, mD_c j j2, gD_B] at h1
    have h2 := mD_B k dy n a j (by omega)
    have h3 := (fbF_v k dy (n - (j + 1)) j (gB k dy n a j)).2.2 (dg n x j) j3
    rw [show n - (j + 1) + 1 = n - j by omega] at h3
    omega
/-! the class: the first best choices -/
theorem AR.at {T : TT} {k dy a n t g : Nat} (h : AR T k dy a n 0) (ht : t ≤ n) (hg : g < 100) (hr : ∃ m, PP k dy t 0 a g m) : T.1 9 (t + 1) g = nI (Af k dy (n - t) t g) := h t (Nat.zero_le t) ht g hg hr
theorem AR.mono {T : TT} {k dy a n t : Nat} (h : AR T k dy a n 0) : AR T k dy a n t := fun t' _ h2 g hg hr => h t' (Nat.zero_le _) h2 g hg hr
theorem fb_l {k dy a n t g c : Nat} (hk : k < 6) (ha : a < 100) (hn : n ≤ 7) (ht : t < n) (hdy : dy < 100000) (hg : g < 100) {T : TT} (hC : RC T k dy a n) (hA : AR T k dy a n 0) (hr : ∃ m, PP k dy t 0 a g m) (hc : c < 3) (h1 : gn k dy t c g + Af k dy (n - (t + 1)) (t + 1) (lF k c g) = Af k dy (n - t) t g) (h2 : ∀ c', c' < c → gn k dy t c' g + Af k dy (n - (t + 1)) (t + 1) (lF k c' g) < Af k dy (n - t) t g) : ∀ (q j f : Nat), j + q = c → q < f → m_X5_firstBestChoice_l2 T f (nI t) (nI g) (nI j) = some (nI c) := by
  have h9 := hA.at (by omega) hg hr
  have hle := Af_le (dy := dy) hk (n - t) t g hg
  intro q
  induction q with
  | zero =>
    intro j f hj hf
    obtain ⟨f, rfl⟩ : ∃ q, f = q + 1 := ⟨f - 1, by omega⟩
    have hj : j = c := by omega
    subst hj
    show m_X5_firstBestChoice_h2 _ _ _ _ _ = _
    unfold m_X5_firstBestChoice_h2
    by_cases h : j = 2
    · subst h
      rw [if_pos (by decide)]
      rfl
    · have h2' : ¬ (2 : Int32) ≤ nI j := nI_ge (b := 2) (by omega) (by decide)
      rw [if_neg h2', mb_v hk ha hn ht hdy hg hc hC hA.mono hr, Option.bind_some, if_pos (inb_n (by omega) (by decide)), if_pos (inb_n (by omega) (by decide)), cl_n (by omega), cl_n (by omega), h9, h1, if_pos rfl]
  | succ q ih =>
    intro j f hj hf
    obtain ⟨f, rfl⟩ : ∃ q, f = q + 1 := ⟨f - 1, by omega⟩
    show m_X5_firstBestChoice_h2 _ _ _ _ _ = _
    unfold m_X5_firstBestChoice_h2
    have h2' : ¬ (2 : Int32) ≤ nI j := nI_ge (b := 2) (by omega) (by decide)
    have h3 := h2 j (by omega)
    rw [if_neg h2', mb_v hk ha hn ht hdy hg (by omega) hC hA.mono hr, Option.bind_some, if_pos (inb_n (by omega) (by decide)), if_pos (inb_n (by omega) (by decide)), cl_n (by omega), cl_n (by omega), h9, if_neg (fun e => by rw [nI_eq (by omega) (by omega)] at e; omega), bT_v, nI_1]
    exact ih (j + 1) f (by omega) (by omega)
theorem fb_v {k dy a n t : Nat} (hk : k < 6) (ha : a < 100) (hn : n ≤ 7) (ht : t < n) (hdy : dy < 100000) {T : TT} (hC : RC T k dy a n) (hA : AR T k dy a n 0) : gB k dy n a t < 100 ∧ m_X5_firstBestChoice T (nI t) (nI (gB k dy n a t)) = some (nI (dB k dy n a t)) := by
  have hg : gB k dy n a t < 100 := by rw [← gD_B]; exact gD_lt hk ha (dB_lt k dy n a) t
  have hr : ∃ m, PP k dy t 0 a (gB k dy n a t) m := by rw [← gD_B]; exact ⟨_, PP_D (dB_lt k dy n a) t⟩
  have h3 := fbF_v k dy (n - (t + 1)) t (gB k dy n a t)
  rw [show n - (t + 1) + 1 = n - t by omega] at h3
  exact ⟨hg, fb_l hk ha hn ht hdy hg hC hA hr h3.1 h3.2.1 h3.2.2 _ 0 FU (Nat.zero_add _) (FU_lt (by have := dB_lt k dy n a t; unfold dB at this; omega))⟩
theorem co_l {k dy a n K : Nat} (hk : k < 6) (ha : a < 100) (hn : n ≤ 7) (hK : K < n) (hdy : dy < 100000) {T : TT} (hC : RC T k dy a n) (hA : AR T k dy a n 0) : ∀ (q t f : Nat) (x3 : Int32), t + q = K + 1 → q < f → (q = 0 → x3 = nI (dB k dy n a K)) → m_X5_choiceOf_l10 T f (nI K) (nI (gB k dy n a t)) x3 (nI t) = some (nI (dB k dy n a K)) := by
  intro q
  induction q with
  | zero =>
    intro t f x3 ht hf h3
    obtain ⟨f, rfl⟩ : ∃ q, f = q + 1 := ⟨f - 1, by omega⟩
    show m_X5_choiceOf_h10 _ _ _ _ _ _ = _
    unfold m_X5_choiceOf_h10
    rw [if_pos (nI_lt (by omega) (by omega)), h3 rfl]
  | succ q ih =>
    intro t f x3 ht hf h3
    obtain ⟨f, rfl⟩ : ∃ q, f = q + 1 := ⟨f - 1, by omega⟩
    show m_X5_choiceOf_h10 _ _ _ _ _ _ = _
    unfold m_X5_choiceOf_h10
    obtain ⟨hg, hf⟩ := fb_v hk ha hn (show t < n by omega) hdy hC hA
    rw [if_neg (nI_nlt (by omega) (by omega)), hC.2.2.1, if_neg (nI_ge (by omega) (by omega)), hf, Option.bind_some, left_v hC.2.2.2 hk (dB_lt k dy n a t) hg, Option.bind_some, bT_v, nI_1]
    exact ih (t + 1) f _ (by omega) (by omega) (fun h => by rw [show t = K by omega])
theorem co_v {k dy a n K : Nat} (hk : k < 6) (ha : a < 100) (hn : n ≤ 7) (hK : K < n) (hdy : dy < 100000) {T : TT} (hC : RC T k dy a n) (hA : AR T k dy a n 0) : m_X5_choiceOf T (nI K) = some (nI (dB k dy n a K)) := by
  unfold m_X5_choiceOf
  rw [bT_v, hC.2.1]
  exact co_l hk ha hn hK hdy hC hA (K + 1) 0 FU (-1) (by omega) (FU_lt (by omega)) (fun h => absurd h (by omega))
/-! the reference: by codes -/
theorem pt_l {N : Nat} (hN : N < 100) : ∀ (m j f : Nat), j + m = N → m < f → m_X11_powerOfThree_l4 f (nI N) (nI (3 ^ j)) (nI j) = some (nI (3 ^ N)) := by
  intro m
  induction m with
  | zero =>
    intro j f hj hf
    obtain ⟨f, rfl⟩ : ∃ q, f = q + 1 := ⟨f - 1, by omega⟩
    have hj : j = N := by omega
    subst hj
    show m_X11_powerOfThree_h4 _ _ _ _ = _
    unfold m_X11_powerOfThree_h4
    rw [if_pos (nI_le (Nat.le_refl _) (by omega))]
  | succ m ih =>
    intro j f hj hf
    obtain ⟨f, rfl⟩ : ∃ q, f = q + 1 := ⟨f - 1, by omega⟩
    show m_X11_powerOfThree_h4 _ _ _ _ = _
    unfold m_X11_powerOfThree_h4
    rw [if_neg (nI_ge (by omega) (by omega)), bT_v, bT_v, nI_1, show nI (3 ^ j) * 3 = nI (3 ^ (j + 1)) from mu_n (3 ^ j) 3]
    exact ih (j + 1) f (by omega) (by omega)
theorem pt_v {N : Nat} (hN : N < 100) : m_X11_powerOfThree (nI N) = some (nI (3 ^ N)) := pt_l hN N 0 FU (by omega) (FU_lt (by omega))
abbrev Fg (T T' : TT) : Prop := Fr (fun _ _ => False) (fun a b => a = 10 ∧ (b = 6 ∨ b = 7 ∨ b = 8)) (fun _ _ => False) T T'
theorem Fg.sc {T T' : TT} (h : Fg T T') : Sc T T' := h.mono (fun _ _ q => q.elim) (fun a b q => Or.inr (Or.inr (Or.inr (Or.inr ⟨q.1, by omega⟩)))) (fun _ _ q => q)
theorem Fg.a {T T' : TT} (h : Fg T T') (a b : Nat) : T'.1 a b = T.1 a b := h.1 a b (fun q => q)
theorem ml_l {i k dy a n x fr tl : Nat} (hi : i < 6) (hk : k < 6) (ha : a < 100) (hdy : dy < 100000) (hn : n ≤ 7) (hx : x < 3 ^ n) (hfr : fr ≤ 7) (htl : tl ≤ n) : ∀ (q j f : Nat) (T : TT) (x6 : Int32), j + q = tl → q < f → T.1 10 1 (17 + i) = nI k → T.1 10 1 16 = nI dy → T.2.1 10 6 = nI (gD k a (dg n x) j) → T.2.1 10 7 = nI (mD k dy a (dg n x) j) → x6 = nI (if fr < j then mD k dy a (dg n x) fr else 0) → ∃ T3, m_X11_milesBy_l11 f T (nI i) (nI n) (nI x) (nI fr) (nI tl) x6 (nI j) = some (nI (mD k dy a (dg n x) tl) - nI (if fr < tl then mD k dy a (dg n x) fr else 0), T3) ∧ Fg T T3 ∧ T3.2.1 10 8 = T.2.1 10 8 := by
  have hp := p3_le hn
  intro q
  induction q with
  | zero =>
    intro j f T x6 hj hf e1 e2 e3 e4 e5
    obtain ⟨f, rfl⟩ : ∃ q, f = q + 1 := ⟨f - 1, by omega⟩
    have hj : j = tl := by omega
    subst hj
    refine ⟨T, ?_, Fr.rf, rfl⟩
    show m_X11_milesBy_h11 _ _ _ _ _ _ _ _ _ = _
    unfold m_X11_milesBy_h11
    rw [if_pos (nI_le (Nat.le_refl _) (by omega)), e4, e5]
  | succ q ih =>
    intro j f T x6 hj hf e1 e2 e3 e4 e5
    obtain ⟨f, rfl⟩ : ∃ q, f = q + 1 := ⟨f - 1, by omega⟩
    have hgd := gD_lt hk ha (fun j => dg_lt n x j) j
    have hq0 := p3_pos (n - 1 - j)
    have hq1 := p3_le (m := n - 1 - j) (by omega)
    have go : ∀ s0 : Int32, s0 = nI (if fr < j + 1 then mD k dy a (dg n x) fr else 0) → ∃ T3, m_X11_milesBy_b34 (m_X11_milesBy_l11 f) T (nI i) (nI n) (nI x) (nI fr) (nI tl) (nI j) s0 = some (nI (mD k dy a (dg n x) tl) - nI (if fr < tl then mD k dy a (dg n x) fr else 0), T3) ∧ Fg T T3 ∧ T3.2.1 10 8 = T.2.1 10 8 := fun s0 hs => by
      unfold m_X11_milesBy_b34
      rw [kind_m hi, Option.bind_some, show nI n - 1 = nI (n - 1) from pk_sub (b := 1) (by omega), pk_sub (show j ≤ n - 1 by omega), pt_v (by omega), Option.bind_some, if_neg (nI_ne0 (by omega) (by omega)), pk_div (by omega) hq0 (by omega), show nI (x / 3 ^ (n - 1 - j)) - nI (x / 3 ^ (n - 1 - j)) / 3 * 3 = nI (dg n x j) from pk_rem (d := 3) (Nat.lt_of_le_of_lt (Nat.div_le_self _ _) (by omega)) (by decide) (by decide), e1, e2, ad_n, goDay_v hk (by omega) (dg_lt n x j) hgd e3, Option.bind_some, bT_v, nI_1]
      obtain ⟨T3, z1, z2, z3⟩ := ih (j + 1) f (goF T k (dy + j) (dg n x j) (gD k a (dg n x) j)) s0 (by omega) (by omega) e1 e2 (goF_6 _ _ _ _ _) (by
        rw [goF_7, e4]
        exact ad_n _ _) hs
      refine ⟨T3, z1, Fr.trans ((Fr.rf.wI rfl ⟨rfl, by omega⟩).wI rfl ⟨rfl, by omega⟩) z2, z3.trans ?_⟩
      unfold goF
      rw [sI_v, if_neg (by omega), sI_v, if_neg (by omega)]
    show ∃ T3, m_X11_milesBy_h11 _ _ _ _ _ _ _ _ _ = _ ∧ _
    unfold m_X11_milesBy_h11
    rw [if_neg (nI_ge (by omega) (by omega))]
    by_cases hjf : j = fr
    · subst hjf
      rw [if_pos rfl]
      exact go _ (by rw [e4, if_pos (by omega)])
    · rw [if_neg (fun e => hjf ((nI_eq (by omega) (by omega)).mp e))]
      refine go _ (e5.trans (congrArg nI ?_))
      by_cases h : fr < j
      · rw [if_pos h, if_pos (by omega)]
      · rw [if_neg h, if_neg (by omega)]
theorem ml_v {i k dy a n x fr tl : Nat} (hi : i < 6) (hk : k < 6) (ha : a < 100) (hdy : dy < 100000) (hn : n ≤ 7) (hx : x < 3 ^ n) (hft : fr < tl) (htl : tl ≤ n) {T : TT} (e1 : T.1 10 1 (17 + i) = nI k) (e2 : T.1 10 1 16 = nI dy) (e3 : T.1 10 1 (4 + i) = nI a) : ∃ T3, m_X11_milesBy T (nI i) (nI n) (nI x) (nI fr) (nI tl) = some (nI (mD k dy a (dg n x) tl - mD k dy a (dg n x) fr), T3) ∧ Fg T T3 ∧ T3.2.1 10 8 = T.2.1 10 8 := by
  unfold m_X11_milesBy
  rw [lay_v hi, Option.bind_some, e3]
  obtain ⟨T3, z1, z2, z3⟩ := ml_l hi hk ha hdy hn hx (show fr ≤ 7 by omega) htl tl 0 FU (sI (sI T 10 6 (nI a)) 10 7 0) 0 (by omega) (FU_lt (by omega)) e1 e2 (by rw [sI_v, if_neg (by omega), sI_v, if_pos ⟨rfl, rfl⟩]; rfl) (by rw [sI_v, if_pos ⟨rfl, rfl⟩]; rfl) (by rw [if_neg (by omega)]; rfl)
  have hm := mD_mono k dy a (dg n x) fr (tl - fr)
  rw [show fr + (tl - fr) = tl by omega] at hm
  rw [if_pos hft, pk_sub hm] at z1
  refine ⟨T3, z1, Fr.trans ((Fr.rf.wI rfl ⟨rfl, by omega⟩).wI rfl ⟨rfl, by omega⟩) z2, z3.trans ?_⟩
  rw [sI_v, if_neg (by omega), sI_v, if_neg (by omega)]
