def stF (b : Nat → Bool) : Nat → Int32
  | 0 => 0
  | k + 1 => if b k = true then stF b k ||| ((1 : Int32) <<< (nI k &&& 31)) else stF b k
theorem stF_e (b : Nat → Bool) : stF b 6 = stF (fun k => if k = 0 then b 0 else if k = 1 then b 1 else if k = 2 then b 2 else if k = 3 then b 3 else if k = 4 then b 4 else b 5) 6 := by simp [stF]
theorem stF_d : ∀ b0 b1 b2 b3 b4 b5 : Bool, stF (fun k => if k = 0 then b0 else if k = 1 then b1 else if k = 2 then b2 else if k = 3 then b3 else if k = 4 then b4 else b5) 6 = 0 ∨ ¬ stF (fun k => if k = 0 then b0 else if k = 1 then b1 else if k = 2 then b2 else if k = 3 then b3 else if k = 4 then b4 else b5) 6 ≤ 0 := by decide +kernel
theorem stF_p (b : Nat → Bool) : stF b 6 = 0 ∨ ¬ stF b 6 ≤ 0 := by
  rw [stF_e]
  exact stF_d (b 0) (b 1) (b 2) (b 3) (b 4) (b 5)
theorem kt_c {T : TT} {a : Nat → Int32} {bd sz nc tc uc dy : Nat} (hR : RK T 0 a bd sz nc tc uc dy) {i : Nat} (hi : i < 6) (b : Nat → Bool) (hb : ∀ k, b k = true ↔ nall a i k nc) : ∀ (q k n : Nat), k + q = 6 → q < n → m_X10_kindsThatFit_l4 T n (nI i) (stF b k) (nI k) = some (stF b 6) := by
  intro q
  induction q with
  | zero =>
    intro k n hk hn
    obtain ⟨n, rfl⟩ : ∃ q, n = q + 1 := ⟨n - 1, by omega⟩
    have hk : k = 6 := by omega
    subst hk
    show m_X10_kindsThatFit_h4 _ _ _ _ _ = _
    unfold m_X10_kindsThatFit_h4
    rw [if_pos (by decide)]
  | succ q ih =>
    intro k n hk hn
    obtain ⟨n, rfl⟩ : ∃ q, n = q + 1 := ⟨n - 1, by omega⟩
    show m_X10_kindsThatFit_h4 _ _ _ _ _ = _
    unfold m_X10_kindsThatFit_h4
    have h6 : ¬ (6 : Int32) ≤ nI k := nI_ge (b := 6) (by omega) (by decide)
    have hI := ih (k + 1) n (by omega) (by omega)
    rw [if_neg h6, if_pos (inb_n (by omega) (by decide)), cl_n (by omega)]
    rcases nF_c hR hi (show k < 6 by omega) nc 0 FU (by omega) (FU_lt (by have := hR.1.2.1; omega)) (fun j hj => absurd hj (by omega)) with ⟨e, hh⟩ | ⟨e, hh⟩
    · rw [show m_X4_notesFit T 0 (nI i) (0, 8 + k) = some (nI 1) from e, Option.bind_some, if_neg (by decide), bT_v]
      unfold m_X10_kindsThatFit_b36
      rw [bT_v, nI_1]
      have es : stF b (k + 1) = stF b k ||| ((1 : Int32) <<< (nI k &&& 31)) := if_pos ((hb k).mpr hh)
      rw [← es]
      exact hI
    · rw [show m_X4_notesFit T 0 (nI i) (0, 8 + k) = some (nI 0) from e, Option.bind_some, if_pos (by decide)]
      unfold m_X10_kindsThatFit_b36
      rw [bT_v, nI_1]
      have es : stF b (k + 1) = stF b k := if_neg (fun q => hh ((hb k).mp q))
      rw [← es]
      exact hI
theorem kt_m {T : TT} {nc : Nat} (hnc : nc ≤ 6) (h1 : T.1 10 1 1 = nI nc) (hno : ∀ m, m < nc → ∃ n s c, n < 100 ∧ s < 4 ∧ c < 3 ∧ T.1 10 1 (23 + (6 * m + 1)) = nI n ∧ T.1 10 1 (23 + (6 * m + 2)) = nI s ∧ T.1 10 1 (23 + (6 * m + 4)) = nI c) {i : Nat} (b : Nat → Bool) (hb : ∀ k, b k = true ↔ nall (T.1 10 1) i k nc) : ∀ (q k n : Nat), k + q = 6 → q < n → m_X11_kindsOf_l4 T n (nI i) (stF b k) (nI k) = some (stF b 6) := by
  intro q
  induction q with
  | zero =>
    intro k n hk hn
    obtain ⟨n, rfl⟩ : ∃ q, n = q + 1 := ⟨n - 1, by omega⟩
    have hk : k = 6 := by omega
    subst hk
    show m_X11_kindsOf_h4 _ _ _ _ _ = _
    unfold m_X11_kindsOf_h4
    rw [if_pos (by decide)]
  | succ q ih =>
    intro k n hk hn
    obtain ⟨n, rfl⟩ : ∃ q, n = q + 1 := ⟨n - 1, by omega⟩
    show m_X11_kindsOf_h4 _ _ _ _ _ = _
    unfold m_X11_kindsOf_h4
    have h6 : ¬ (6 : Int32) ≤ nI k := nI_ge (b := 6) (by omega) (by decide)
    have hI := ih (k + 1) n (by omega) (by omega)
    rw [if_neg h6]
    by_cases hbk : b k = true
    · have e := nF_m hnc h1 hno (i := i) (show k < 6 by omega) (m_X11_kindsOf_l4 T n) (stF b k) ((1 : Int32) <<< (nI k &&& 31)) (Or.inl ⟨(hb k).mp hbk, rfl⟩) nc 0 FU 1 (by omega) (FU_lt (by omega)) (Or.inl ⟨rfl, fun j hj => absurd hj (by omega)⟩)
      refine e.trans ?_
      unfold m_X11_kindsOf_b159
      rw [bT_v, bT_v, nI_1]
      have es : stF b (k + 1) = stF b k ||| ((1 : Int32) <<< (nI k &&& 31)) := if_pos hbk
      rw [← es]
      exact hI
    · have e := nF_m hnc h1 hno (i := i) (show k < 6 by omega) (m_X11_kindsOf_l4 T n) (stF b k) 0 (Or.inr ⟨fun q => hbk ((hb k).mpr q), rfl⟩) nc 0 FU 1 (by omega) (FU_lt (by omega)) (Or.inl ⟨rfl, fun j hj => absurd hj (by omega)⟩)
      refine e.trans ?_
      unfold m_X11_kindsOf_b159
      rw [bT_v, bT_v, nI_1]
      have es : stF b (k + 1) = stF b k := if_neg hbk
      rw [Int32.or_zero, ← es]
      exact hI
theorem kinds_v {T : TT} {bd sz nc tc uc dy : Nat} (hR : RK T 0 (T.1 10 1) bd sz nc tc uc dy) {i : Nat} (hi : i < 6) : ∃ b : Nat → Bool, m_X10_kindsThatFit T (nI i) = some (stF b 6) ∧ ∀ T' : TT, T'.1 10 1 = T.1 10 1 → m_X11_kindsOf T' (nI i) = some (stF b 6) := by
  have hb : ∃ b : Nat → Bool, ∀ k, b k = true ↔ nall (T.1 10 1) i k nc := ⟨fun k => @decide (nall (T.1 10 1) i k nc) (Classical.propDecidable _), fun k => @decide_eq_true_iff _ (Classical.propDecidable _)⟩
  obtain ⟨b, hb⟩ := hb
  refine ⟨b, kt_c hR hi b hb 6 0 FU (by omega) (FU_lt (by omega)), fun T' e => ?_⟩
  exact kt_m hR.1.2.1 (by rw [e]; exact hR.2.2.1.2.2.1) (by rw [e]; exact hR.2.2.2.2.1.2) b (by rw [e]; exact hb) 6 0 FU (by omega) (FU_lt (by omega))
theorem op_is {n : Nat} {T : TT} (hn : n < 64) (h : Inv n T) (x : Int32) : Op n (m_X10_is T x) (fun T => m_X11_is T x) := by
  obtain ⟨sz, nc, tc, uc, dy, hR⟩ := h.t0
  have hsz := hR.1.1
  rcases ixd x sz hsz with hb | ⟨i, hi, rfl⟩
  · refine Op.of (r := -2) (T1 := rfs T 0) (T2 := rfm (rfs T 0) 0) ?_ ?_ (h.refuse hn (by decide))
    · unfold m_X10_is
      rw [has_bad hR.2.1.1 hb]
      rfl
    · show m_X11_is _ _ = _
      unfold m_X11_is
      rw [dr_bad (by rw [rfs_told]; exact hR.2.2.1.1) hsz hb]
      rfl
  · obtain ⟨b, q1, q2⟩ := kinds_v hR (i := i) (by omega)
    refine Op.of (r := stF b 6) (T1 := T) (T2 := T) ?_ ?_ (h.keep hn Fr.rf)
    · unfold m_X10_is
      rw [has_ok hR.2.1.1 hsz hi, Option.bind_some, if_neg (by decide), q1]
      rfl
    · show m_X11_is _ _ = _
      unfold m_X11_is
      rw [dr_ok hR.2.2.1.1 hsz hi, Option.bind_some, if_neg (by decide), q2 T rfl]
      rfl
/-! the next morning to look -/
def sgn (s g c k : Nat) : Nat := rF k s g * 100 + lF k c g
def cn (x : Int32) (s g c k : Nat) : Nat → Nat
  | 0 => 0
  | j + 1 => if mem x j = true ∧ sgn s g c j = sgn s g c k then cn x s g c k j + 1 else cn x s g c k j
def mxF (f : Nat → Nat) : Nat → Nat
  | 0 => 0
  | j + 1 => max (mxF f j) (f j)
theorem cn_le (x : Int32) (s g c k : Nat) : ∀ j, cn x s g c k j ≤ j
  | 0 => Nat.le_refl 0
  | j + 1 => by
    have := cn_le x s g c k j
    unfold cn
    by_cases h : mem x j = true ∧ sgn s g c j = sgn s g c k
    · rw [if_pos h]; omega
    · rw [if_neg h]; omega
theorem mxF_le {f : Nat → Nat} {b : Nat} (h : ∀ j, f j ≤ b) : ∀ n, mxF f n ≤ b
  | 0 => Nat.zero_le b
  | n + 1 => Nat.max_le.mpr ⟨mxF_le h n, h n⟩
theorem mxF_ge {f : Nat → Nat} : ∀ {n j : Nat}, j < n → f j ≤ mxF f n
  | n + 1, j, h => by
    by_cases hj : j < n
    · exact Nat.le_trans (mxF_ge hj) (Nat.le_max_left _ _)
    · have : j = n := by omega
      subst this
      exact Nat.le_max_right _ _
theorem mxF_lub {f : Nat → Nat} {b : Nat} : ∀ {n : Nat}, (∀ j, j < n → f j ≤ b) → mxF f n ≤ b
  | 0, _ => Nat.zero_le b
  | n + 1, h => Nat.max_le.mpr ⟨mxF_lub (fun j hj => h j (by omega)), h n (by omega)⟩
theorem cn_s {x : Int32} {s g c k k' : Nat} (e : sgn s g c k = sgn s g c k') : ∀ j, cn x s g c k j = cn x s g c k' j
  | 0 => rfl
  | j + 1 => by
    show (if mem x j = true ∧ sgn s g c j = sgn s g c k then cn x s g c k j + 1 else cn x s g c k j) = (if mem x j = true ∧ sgn s g c j = sgn s g c k' then cn x s g c k' j + 1 else cn x s g c k' j)
    rw [e, cn_s e j]
theorem cn_ex {x : Int32} {s g c k : Nat} : ∀ j, 0 < cn x s g c k j → ∃ o, o < j ∧ mem x o = true ∧ sgn s g c o = sgn s g c k
  | 0, h => absurd h (Nat.lt_irrefl 0)
  | j + 1, h => by
    by_cases hh : mem x j = true ∧ sgn s g c j = sgn s g c k
    · exact ⟨j, by omega, hh⟩
    · have e : cn x s g c k (j + 1) = cn x s g c k j := if_neg hh
      rw [e] at h
      obtain ⟨o, h1, h2⟩ := cn_ex j h
      exact ⟨o, by omega, h2⟩
/-- the most alike: over all kinds, and over those that fit -/
def toF (x : Int32) (s g c : Nat) : Nat := mxF (fun k => cn x s g c k 6) 6
theorem toF_le (x : Int32) (s g c : Nat) : toF x s g c ≤ 6 := mxF_le (fun j => cn_le x s g c j 6) 6
theorem toF_m (x : Int32) (s g c : Nat) : mxF (fun k => if mem x k = true then cn x s g c k 6 else 0) 6 = toF x s g c := by
  apply Nat.le_antisymm
  · refine mxF_lub (fun j hj => ?_)
    show (if mem x j = true then cn x s g c j 6 else 0) ≤ _
    by_cases h : mem x j = true
    · rw [if_pos h]
      exact mxF_ge (f := fun k => cn x s g c k 6) hj
    · rw [if_neg h]
      exact Nat.zero_le _
  · refine mxF_lub (fun j hj => ?_)
    show cn x s g c j 6 ≤ _
    by_cases h0 : cn x s g c j 6 = 0
    · rw [h0]; exact Nat.zero_le _
    · obtain ⟨o, h1, h2, h3⟩ := cn_ex (x := x) (s := s) (g := g) (c := c) (k := j) 6 (by omega)
      rw [← cn_s h3 6]
      have := mxF_ge (f := fun k => if mem x k = true then cn x s g c k 6 else 0) h1
      have e : (if mem x o = true then cn x s g c o 6 else 0) = cn x s g c o 6 := if_pos h2
      exact e ▸ this
