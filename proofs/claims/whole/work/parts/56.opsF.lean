/-! what it is -/
def mem (x : Int32) (k : Nat) : Bool := decide (¬ ((x >>> (nI k &&& 31)) &&& (1 : Int32)) = 0)
theorem mem_t {x : Int32} {k : Nat} (h : ¬ ((x >>> (nI k &&& 31)) &&& (1 : Int32)) = 0) : mem x k = true := decide_eq_true h
theorem mem_f {x : Int32} {k : Nat} (h : ((x >>> (nI k &&& 31)) &&& (1 : Int32)) = 0) : mem x k = false := decide_eq_false (fun q => q h)
theorem and1 (x : Int32) : x &&& 1 = 1 ↔ ¬ x &&& 1 = 0 := by
  obtain ⟨j, hj, e⟩ := pk_andE x (m := 1) 1 (by decide)
  rw [e]
  rcases (show j = 0 ∨ j = 1 by omega) with rfl | rfl <;> decide
theorem has_m (x : Int32) (k : Nat) : m_X11_has x (nI k) = some (if mem x k then 1 else 0) := by
  unfold m_X11_has
  by_cases h : ((x >>> (nI k &&& 31)) &&& (1 : Int32)) = 0
  · rw [if_neg (fun q => (and1 _).mp q h), mem_f h]
    rfl
  · rw [if_pos ((and1 _).mpr h), mem_t h]
    rfl
/-- whether note m (of the reference's row a) fits kind k for i -/
def nfit (a : Nat → Int32) (i k m : Nat) : Prop := a (23 + 6 * m) = nI i → (nI (rF k (a (23 + (6 * m + 2))).toNatClampNeg (a (23 + (6 * m + 1))).toNatClampNeg) = a (23 + (6 * m + 3)) ∧ nI (lF k (a (23 + (6 * m + 4))).toNatClampNeg (a (23 + (6 * m + 1))).toNatClampNeg) = a (23 + (6 * m + 5)))
def nall (a : Nat → Int32) (i k nc : Nat) : Prop := ∀ m, m < nc → nfit a i k m
theorem nF_c {T : TT} {a : Nat → Int32} {bd sz nc tc uc dy : Nat} (hR : RK T 0 a bd sz nc tc uc dy) {i k : Nat} (hi : i < 6) (hk : k < 6) : ∀ (q m n : Nat), m + q = nc → q < n → (∀ j, j < m → nfit a i k j) → m_X4_notesFit_l2 T 0 n (nI i) (0, 8 + k) (nI m) = some (nI 1) ∧ nall a i k nc ∨ m_X4_notesFit_l2 T 0 n (nI i) (0, 8 + k) (nI m) = some (nI 0) ∧ ¬ nall a i k nc := by
  intro q
  obtain ⟨⟨b1, b2, b3, b4, b5⟩, ⟨i1, i2, i3, i4, i5⟩, ⟨j1, j2, j3, j4, j5⟩, hd, hno, htr, hpa⟩ := hR
  induction q with
  | zero =>
    intro m n hm hn hf
    obtain ⟨n, rfl⟩ : ∃ q, n = q + 1 := ⟨n - 1, by omega⟩
    have hm : m = nc := by omega
    subst hm
    refine Or.inl ⟨?_, hf⟩
    show m_X4_notesFit_h2 _ _ _ _ _ _ = _
    unfold m_X4_notesFit_h2
    rw [i3, if_pos (nI_le (Nat.le_refl _) (by omega))]
    rfl
  | succ q ih =>
    intro m n hm hn hf
    obtain ⟨n, rfl⟩ : ∃ q, n = q + 1 := ⟨n - 1, by omega⟩
    show m_X4_notesFit_h2 _ _ _ _ _ _ = _ ∧ _ ∨ m_X4_notesFit_h2 _ _ _ _ _ _ = _ ∧ _
    unfold m_X4_notesFit_h2
    have h6 : ¬ (6 : Int32) ≤ nI m := nI_ge (b := 6) (by omega) (by decide)
    have e0 : nI m * 6 = nI (6 * m) := by rw [Nat.mul_comm]; exact mu_n m 6
    have e1 : nI (6 * m) + 1 = nI (6 * m + 1) := ad_n _ 1
    have e2 : nI (6 * m) + 2 = nI (6 * m + 2) := ad_n _ 2
    have e3 : nI (6 * m) + 3 = nI (6 * m + 3) := ad_n _ 3
    have e4 : nI (6 * m) + 4 = nI (6 * m + 4) := ad_n _ 4
    have e5 : nI (6 * m) + 5 = nI (6 * m + 5) := ad_n _ 5
    have k0 : (nI (6 * m)).toNatClampNeg = 6 * m := cl_n (by omega)
    have k1 : (nI (6 * m + 1)).toNatClampNeg = 6 * m + 1 := cl_n (by omega)
    have k2 : (nI (6 * m + 2)).toNatClampNeg = 6 * m + 2 := cl_n (by omega)
    have k3 : (nI (6 * m + 3)).toNatClampNeg = 6 * m + 3 := cl_n (by omega)
    have k4 : (nI (6 * m + 4)).toNatClampNeg = 6 * m + 4 := cl_n (by omega)
    have k5 : (nI (6 * m + 5)).toNatClampNeg = 6 * m + 5 := cl_n (by omega)
    obtain ⟨g, s, c, hg, hs, hc, v1, v2, v4⟩ := hno.2 m (by omega)
    have ks : kn (0, 8 + k).1 (0, 8 + k).2 = k := kn0 k
    have g1 : (a (23 + (6 * m + 1))).toNatClampNeg = g := by rw [v1, cl_n (by omega)]
    have g2 : (a (23 + (6 * m + 2))).toNatClampNeg = s := by rw [v2, cl_n (by omega)]
    have g4 : (a (23 + (6 * m + 4))).toNatClampNeg = c := by rw [v4, cl_n (by omega)]
    have go : ∀ hfit : nfit a i k m, m_X4_notesFit_b112 T 0 (m_X4_notesFit_l2 T 0 n) (nI i) (0, 8 + k) (nI m) = some (nI 1) ∧ nall a i k nc ∨ m_X4_notesFit_b112 T 0 (m_X4_notesFit_l2 T 0 n) (nI i) (0, 8 + k) (nI m) = some (nI 0) ∧ ¬ nall a i k nc := fun hfit => by
      unfold m_X4_notesFit_b112
      rw [bT_v, nI_1]
      refine ih (m + 1) n (by omega) (by omega) (fun j hj => ?_)
      by_cases hjm : j < m
      · exact hf j hjm
      · have : j = m := by omega
        subst this
        exact hfit
    rw [i3, if_neg (nI_ge (by omega) (by omega)), if_neg h6, bT_v, e0, e1, e2, e3, if_pos (inb_n (by omega) (by decide)), k0, hno.1 (6 * m) (by omega)]
    by_cases hit : a (23 + 6 * m) = nI i
    · rw [if_pos hit, if_pos (inb_n (by omega) (by decide)), bT_v, if_pos (inb_n (by omega) (by decide)), k1, k2, hno.1 (6 * m + 1) (by omega), hno.1 (6 * m + 2) (by omega), v1, v2, runs_v ks hk hs hg, Option.bind_some, if_pos (inb_n (by omega) (by decide)), k3, hno.1 (6 * m + 3) (by omega)]
      have hb : m_X4_notesFit_b76 T 0 (m_X4_notesFit_l2 T 0 n) (nI i) (0, 8 + k) (nI m) (nI (6 * m)) (nI g) 0 = some (nI 0) := by
        unfold m_X4_notesFit_b76
        rw [if_pos rfl]
        rfl
      by_cases hx : nI (rF k s g) = a (23 + (6 * m + 3))
      · rw [if_pos hx]
        unfold m_X4_notesFit_b76
        rw [if_neg (by decide), e4, e5, if_pos (inb_n (by omega) (by decide)), k4, hno.1 (6 * m + 4) (by omega), v4, left_v ks hk hc hg, Option.bind_some, if_pos (inb_n (by omega) (by decide)), k5, hno.1 (6 * m + 5) (by omega)]
        by_cases hy : nI (lF k c g) = a (23 + (6 * m + 5))
        · rw [if_pos hy]
          refine go (fun _ => ?_)
          rw [g1, g2, g4]
          exact ⟨hx, hy⟩
        · rw [if_neg hy]
          refine Or.inr ⟨rfl, fun hh => hy ?_⟩
          have := (hh m (by omega) hit).2
          rw [g1, g4] at this
          exact this
      · rw [if_neg hx, hb]
        refine Or.inr ⟨rfl, fun hh => hx ?_⟩
        have := (hh m (by omega) hit).1
        rw [g1, g2] at this
        exact this
    · rw [if_neg hit]
      exact go (fun q => absurd q hit)

theorem nF_m {T : TT} {nc : Nat} (hnc : nc ≤ 6) (h1 : T.1 10 1 1 = nI nc) (hno : ∀ m, m < nc → ∃ n s c, n < 100 ∧ s < 4 ∧ c < 3 ∧ T.1 10 1 (23 + (6 * m + 1)) = nI n ∧ T.1 10 1 (23 + (6 * m + 2)) = nI s ∧ T.1 10 1 (23 + (6 * m + 4)) = nI c) {i k : Nat} (hk : k < 6) (rec4 : Int32 → Int32 → Int32 → Option Int32) (x2 w : Int32) (hw : nall (T.1 10 1) i k nc ∧ w = (1 : Int32) <<< (nI k &&& 31) ∨ ¬ nall (T.1 10 1) i k nc ∧ w = 0) : ∀ (q m n : Nat) (so : Int32), m + q = nc → q < n → (so = 1 ∧ (∀ j, j < m → nfit (T.1 10 1) i k j) ∨ so = 0 ∧ ¬ nall (T.1 10 1) i k nc) → m_X11_kindsOf_l16 T rec4 n (nI i) x2 (nI k) so (nI m) = m_X11_kindsOf_b159 T rec4 (nI i) (nI k) x2 w := by
  intro q
  induction q with
  | zero =>
    intro m n so hm hn hf
    obtain ⟨n, rfl⟩ : ∃ q, n = q + 1 := ⟨n - 1, by omega⟩
    have hm : m = nc := by omega
    subst hm
    show m_X11_kindsOf_h16 _ _ _ _ _ _ _ _ = _
    unfold m_X11_kindsOf_h16
    rw [h1, if_pos (nI_le (Nat.le_refl _) (by omega))]
    rcases hf with ⟨rfl, hf⟩ | ⟨rfl, hf⟩
    · rcases hw with ⟨hw, rfl⟩ | ⟨hw, rfl⟩
      · rw [if_neg (by decide)]
      · exact absurd hf hw
    · rcases hw with ⟨hw, rfl⟩ | ⟨hw, rfl⟩
      · exact absurd hw hf
      · rw [if_pos rfl]
  | succ q ih =>
    intro m n so hm hn hf
    obtain ⟨n, rfl⟩ : ∃ q, n = q + 1 := ⟨n - 1, by omega⟩
    show m_X11_kindsOf_h16 _ _ _ _ _ _ _ _ = _
    unfold m_X11_kindsOf_h16
    have e0 : (23 : Int32) + (6 : Int32) * nI m = nI (23 + 6 * m) := by
      rw [show (6 : Int32) * nI m = nI (6 * m) from mu_n 6 m]
      exact ad_n 23 _
    have e1 : nI (23 + 6 * m) + 1 = nI (23 + (6 * m + 1)) := ad_n _ 1
    have e2 : nI (23 + 6 * m) + 2 = nI (23 + (6 * m + 2)) := ad_n _ 2
    have e3 : nI (23 + 6 * m) + 3 = nI (23 + (6 * m + 3)) := ad_n _ 3
    have e4 : nI (23 + 6 * m) + 4 = nI (23 + (6 * m + 4)) := ad_n _ 4
    have e5 : nI (23 + 6 * m) + 5 = nI (23 + (6 * m + 5)) := ad_n _ 5
    have k0 : (nI (23 + 6 * m)).toNatClampNeg = 23 + 6 * m := cl_n (by omega)
    have k1 : (nI (23 + (6 * m + 1))).toNatClampNeg = 23 + (6 * m + 1) := cl_n (by omega)
    have k2 : (nI (23 + (6 * m + 2))).toNatClampNeg = 23 + (6 * m + 2) := cl_n (by omega)
    have k3 : (nI (23 + (6 * m + 3))).toNatClampNeg = 23 + (6 * m + 3) := cl_n (by omega)
    have k4 : (nI (23 + (6 * m + 4))).toNatClampNeg = 23 + (6 * m + 4) := cl_n (by omega)
    have k5 : (nI (23 + (6 * m + 5))).toNatClampNeg = 23 + (6 * m + 5) := cl_n (by omega)
    obtain ⟨g, s, c, hg, hs, hc, v1, v2, v4⟩ := hno m (by omega)
    have g1 : (T.1 10 1 (23 + (6 * m + 1))).toNatClampNeg = g := by rw [v1, cl_n (by omega)]
    have g2 : (T.1 10 1 (23 + (6 * m + 2))).toNatClampNeg = s := by rw [v2, cl_n (by omega)]
    have g4 : (T.1 10 1 (23 + (6 * m + 4))).toNatClampNeg = c := by rw [v4, cl_n (by omega)]
    have go : ∀ so', (so' = 1 ∧ (∀ j, j < m + 1 → nfit (T.1 10 1) i k j) ∨ so' = 0 ∧ ¬ nall (T.1 10 1) i k nc) → m_X11_kindsOf_b138 T rec4 (m_X11_kindsOf_l16 T rec4 n) (nI i) x2 (nI k) (nI m) so' = m_X11_kindsOf_b159 T rec4 (nI i) (nI k) x2 w := fun so' hs => by
      unfold m_X11_kindsOf_b138
      rw [bT_v, nI_1]
      exact ih (m + 1) n so' (by omega) (by omega) hs
    have last : ∀ is : Int32, (is = 1 ∧ (nI (rF k s g) = T.1 10 1 (23 + (6 * m + 3)) ∧ nI (lF k c g) = T.1 10 1 (23 + (6 * m + 5))) ∨ is = 0 ∧ ¬ (nI (rF k s g) = T.1 10 1 (23 + (6 * m + 3)) ∧ nI (lF k c g) = T.1 10 1 (23 + (6 * m + 5)))) → m_X11_kindsOf_b110 T rec4 (m_X11_kindsOf_l16 T rec4 n) (nI i) x2 (nI k) so (nI m) (nI (23 + 6 * m)) is = m_X11_kindsOf_b159 T rec4 (nI i) (nI k) x2 w := fun is his => by
      unfold m_X11_kindsOf_b110
      rcases hf with ⟨rfl, hf⟩ | ⟨rfl, hf⟩
      · rw [if_neg (by decide), if_pos (inb_n (by omega) (by decide)), k0]
        by_cases hit : T.1 10 1 (23 + 6 * m) = nI i
        · rw [if_pos hit]
          rcases his with ⟨rfl, hx⟩ | ⟨rfl, hx⟩
          · rw [if_neg (by decide)]
            refine go 1 (Or.inl ⟨rfl, fun j hj => ?_⟩)
            by_cases hjm : j < m
            · exact hf j hjm
            · have : j = m := by omega
              subst this
              intro _
              rw [g1, g2, g4]
              exact hx
          · rw [if_pos rfl]
            refine go 0 (Or.inr ⟨rfl, fun hh => hx ?_⟩)
            have := hh m (by omega) hit
            rw [g1, g2, g4] at this
            exact this
        · rw [if_neg hit]
          refine go 1 (Or.inl ⟨rfl, fun j hj => ?_⟩)
          by_cases hjm : j < m
          · exact hf j hjm
          · have : j = m := by omega
            subst this
            exact fun q => absurd q hit
      · rw [if_pos rfl]
        exact go 0 (Or.inr ⟨rfl, hf⟩)
    rw [h1, if_neg (nI_ge (by omega) (by omega)), bT_v, e0, e1, e2, e3, e4, e5, if_pos (inb_n (by omega) (by decide)), if_pos (inb_n (by omega) (by decide)), k2, v2]
    rw [if_pos (inb_n (by omega) (by decide)), if_pos (inb_n (by omega) (by decide)), k1, v1, rF_m k hk s hs g hg, Option.bind_some, if_pos (inb_n (by omega) (by decide)), k3]
    by_cases hx : nI (rF k s g) = T.1 10 1 (23 + (6 * m + 3))
    · rw [if_pos hx, k4, v4, lF_m k hk c hc g hg, Option.bind_some, if_pos (inb_n (by omega) (by decide)), k5]
      by_cases hy : nI (lF k c g) = T.1 10 1 (23 + (6 * m + 5))
      · rw [if_pos hy]
        exact last 1 (Or.inl ⟨rfl, hx, hy⟩)
      · rw [if_neg hy]
        exact last 0 (Or.inr ⟨rfl, fun z => hy z.2⟩)
    · rw [if_neg hx]
      exact last 0 (Or.inr ⟨rfl, fun z => hx z.1⟩)
