theorem after_v {k dy a n : Nat} (hk : k < 6) (ha : a < 100) (hn : n ≤ 7) (hdy : dy < 100000) {T : TT} (hC : RC T k dy a n) (hB : ∀ t', t' ≤ n → ∀ g, g < 100 → Sp (PP k dy t' 0 a g) (T.1 8 (t' + 1) g)) : ∃ T', m_X5_reckonAfter T = some T' ∧ T'.2 = T.2 ∧ (∀ x y, x ≠ 9 → T'.1 x y = T.1 x y) ∧ AR T' k dy a n 0 := by
  unfold m_X5_reckonAfter
  rw [bT_v, hC.2.2.1]
  have e : FU = 999999 + 1 := rfl
  rw [e]
  exact after_l hk ha hn hdy n 999999 T (Nat.le_refl n) (by omega) hC hB (fun t' h1 h2 => absurd h1 (by omega))
theorem cg_v : ∀ g, g < 100 → (if (0 : Int32) < (if nI g < (99 : Int32) then nI g else (99 : Int32)) then (if nI g < (99 : Int32) then nI g else (99 : Int32)) else (0 : Int32)) = nI g := by decide +kernel
theorem c7_v : ∀ g, g < 8 → (if (0 : Int32) < (if nI g < (7 : Int32) then nI g else (7 : Int32)) then (if nI g < (7 : Int32) then nI g else (7 : Int32)) else (0 : Int32)) = nI g := by decide +kernel
theorem reckon_v {T : TT} {sz i k g dy n : Nat} (h7 : T.2.1 0 7 = nI sz) (hs : sz ≤ 6) (hi : i < sz) (h8 : T.2.1 0 8 = nI dy) (hdy : dy < 100000) (hk : k < 6) (hg : g < 100) (k1 : T.1 0 2 i = nI k) (g1 : T.1 0 3 i = nI g) (hn : n ≤ 7) : ∃ T', m_X5_reckon T 0 (nI i) (nI n) = some T' ∧ Sc T T' ∧ RC T' k dy g n ∧ (∀ t', t' ≤ n → ∀ x, x < 100 → Sp (PP k dy t' 0 g x) (T'.1 8 (t' + 1) x)) ∧ AR T' k dy g n 0 := by
  have e : m_X5_reckon T 0 (nI i) (nI n) = (m_X5_reckonBefore (sI (sI (sI (sR T 6 (0, 8 + k)) 6 3 (nI dy)) 6 4 (nI g)) 6 5 (nI n))).bind (fun z7 => (m_X5_reckonAfter z7).bind (fun z8 => some z8)) := by
    unfold m_X5_reckon
    rw [has_ok h7 hs hi, Option.bind_some, if_neg (by decide), kind_c h7 hs hi k1 hk, Option.bind_some]
    simp only [bT_v]
    rw [if_pos (inb_n (by omega) (by decide)), cl_n (by omega), show (sI (sR T 6 (0, 8 + k)) 6 3 ((sR T 6 (0, 8 + k)).2.1 0 8)).1 0 3 i = nI g from g1, cg_v g hg, c7_v n (by omega), show (sR T 6 (0, 8 + k)).2.1 0 8 = nI dy from h8]
  have f6 : Sc T (sI (sI (sI (sR T 6 (0, 8 + k)) 6 3 (nI dy)) 6 4 (nI g)) 6 5 (nI n)) := (((Fr.rf.wR rfl).wI rfl (by simp [SCI])).wI rfl (by simp [SCI])).wI rfl (by simp [SCI])
  have hC : RC (sI (sI (sI (sR T 6 (0, 8 + k)) 6 3 (nI dy)) 6 4 (nI g)) 6 5 (nI n)) k dy g n := ⟨by rw [sI_v, if_neg (by omega), sI_v, if_neg (by omega), sI_v, if_pos ⟨rfl, rfl⟩], by rw [sI_v, if_neg (by omega), sI_v, if_pos ⟨rfl, rfl⟩], by rw [sI_v, if_pos ⟨rfl, rfl⟩], kn0 k⟩
  generalize sI (sI (sI (sR T 6 (0, 8 + k)) 6 3 (nI dy)) 6 4 (nI g)) 6 5 (nI n) = T6 at e f6 hC
  obtain ⟨T7, y1, y2, y3, y4⟩ := before_v hk hg hn hdy hC
  obtain ⟨T8, z1, z2, z3, z4⟩ := after_v hk hg hn hdy (hC.of y2) y4
  refine ⟨T8, ?_, Fr.trans f6 ⟨fun a b hab => ?_, fun a b _ => by rw [z2, y2], fun a b _ => by rw [z2, y2]⟩, (hC.of y2).of z2, fun t' ht' x hx => ?_, z4⟩
  · rw [e, y1, Option.bind_some, z1, Option.bind_some]
  · rw [z3 a b (fun q => hab (by subst q; simp [SCA])), y3 a b (fun q => hab (by subst q; simp [SCA]))]
  · rw [z3 8 (t' + 1) (by omega)]
    exact y4 t' ht' x hx
/-! digits of a code -/
theorem p3_pos : ∀ m : Nat, 0 < 3 ^ m
  | 0 => by decide
  | m + 1 => by have := p3_pos m; rw [Nat.pow_succ]; omega
theorem p3_le {m : Nat} (h : m ≤ 7) : 3 ^ m ≤ 2187 := Nat.pow_le_pow_right (n := 3) (by decide) h
def dg (n x j : Nat) : Nat := x / 3 ^ (n - 1 - j) % 3
theorem dg_lt (n x j : Nat) : dg n x j < 3 := Nat.mod_lt _ (by decide)
theorem dgt_s {n x j : Nat} (h : j < n) : dg (n + 1) x j = dg n (x / 3) j := by
  unfold dg
  rw [show n + 1 - 1 - j = (n - 1 - j) + 1 by omega, Nat.pow_succ, Nat.mul_comm, ← Nat.div_div_eq_div_mul]
theorem dg_l (n x : Nat) : dg (n + 1) x n = x % 3 := by
  unfold dg
  rw [show n + 1 - 1 - n = 0 by omega, Nat.pow_zero, Nat.div_one]
theorem dg_lex : ∀ (n x y : Nat), x < y → y < 3 ^ n → ∃ j, j < n ∧ (∀ i, i < j → dg n x i = dg n y i) ∧ dg n x j < dg n y j
  | 0, x, y, h, hy => by rw [Nat.pow_zero] at hy; omega
  | n + 1, x, y, h, hy => by
    rw [Nat.pow_succ] at hy
    by_cases hq : x / 3 < y / 3
    · obtain ⟨j, h1, h2, h3⟩ := dg_lex n (x / 3) (y / 3) hq (by omega)
      refine ⟨j, by omega, fun i hi => ?_, ?_⟩
      · rw [dgt_s (by omega), dgt_s (by omega)]
        exact h2 i hi
      · rw [dgt_s h1, dgt_s h1]
        exact h3
    · have e : x / 3 = y / 3 := by omega
      refine ⟨n, by omega, fun i hi => ?_, ?_⟩
      · rw [dgt_s hi, dgt_s hi, e]
      · rw [dg_l, dg_l]
        omega
def cd (d : Nat → Nat) : Nat → Nat
  | 0 => 0
  | n + 1 => 3 * cd d n + d n
theorem cd_lt {d : Nat → Nat} (hd : ∀ j, d j < 3) : ∀ n, cd d n < 3 ^ n
  | 0 => Nat.zero_lt_one
  | n + 1 => by
    have h1 := cd_lt hd n
    have h2 := hd n
    show 3 * cd d n + d n < _
    rw [Nat.pow_succ]
    omega
theorem cd_dg {d : Nat → Nat} (hd : ∀ j, d j < 3) : ∀ n j, j < n → dg n (cd d n) j = d j
  | 0, j, h => absurd h (by omega)
  | n + 1, j, h => by
    have h2 := hd n
    have e : cd d (n + 1) = 3 * cd d n + d n := rfl
    by_cases hj : j < n
    · rw [dgt_s hj, e, show (3 * cd d n + d n) / 3 = cd d n by omega]
      exact cd_dg hd n j hj
    · have : j = n := by omega
      subst this
      rw [dg_l, e]
      omega
/-! by digits: grief, miles -/
def gD (k a : Nat) (d : Nat → Nat) : Nat → Nat
  | 0 => a
  | j + 1 => lF k (d j) (gD k a d j)
def mD (k dy a : Nat) (d : Nat → Nat) : Nat → Nat
  | 0 => 0
  | j + 1 => mD k dy a d j + gn k dy j (d j) (gD k a d j)
theorem gD_lt {k a : Nat} {d : Nat → Nat} (hk : k < 6) (ha : a < 100) (hd : ∀ j, d j < 3) : ∀ j, gD k a d j < 100
  | 0 => ha
  | j + 1 => lF_lt k hk _ (hd j) _ (gD_lt hk ha hd j)
theorem gD_c {k a : Nat} {d d' : Nat → Nat} : ∀ j, (∀ i, i < j → d i = d' i) → gD k a d j = gD k a d' j
  | 0, _ => rfl
  | j + 1, h => by
    show lF k (d j) (gD k a d j) = lF k (d' j) (gD k a d' j)
    rw [h j (by omega), gD_c j (fun i hi => h i (by omega))]
theorem mD_c {k dy a : Nat} {d d' : Nat → Nat} : ∀ j, (∀ i, i < j → d i = d' i) → mD k dy a d j = mD k dy a d' j
  | 0, _ => rfl
  | j + 1, h => by
    show mD k dy a d j + gn k dy j (d j) (gD k a d j) = mD k dy a d' j + gn k dy j (d' j) (gD k a d' j)
    rw [h j (by omega), gD_c j (fun i hi => h i (by omega)), mD_c j (fun i hi => h i (by omega))]
theorem mD_mono (k dy a : Nat) (d : Nat → Nat) (j : Nat) : ∀ q, mD k dy a d j ≤ mD k dy a d (j + q)
  | 0 => Nat.le_refl _
  | q + 1 => Nat.le_trans (mD_mono k dy a d j q) (Nat.le_add_right _ _)
theorem mD_le {k dy a : Nat} {d : Nat → Nat} (hk : k < 6) (ha : a < 100) (hd : ∀ j, d j < 3) : ∀ j, mD k dy a d j ≤ 199 * j
  | 0 => Nat.le_refl _
  | j + 1 => by
    have h1 := mD_le hk ha hd (dy := dy) j
    have h2 := gn_le (k := k) (dy := dy) (t := j) (c := d j) hk (gD_lt hk ha hd j)
    show mD k dy a d j + gn k dy j (d j) (gD k a d j) ≤ _
    omega
theorem mD_up {k dy a : Nat} {d : Nat → Nat} (hd : ∀ j, d j < 3) : ∀ q j, mD k dy a d (j + q) ≤ mD k dy a d j + Af k dy q j (gD k a d j)
  | 0, j => Nat.le_add_right _ _
  | q + 1, j => by
    have h1 := mD_up hd (k := k) (dy := dy) (a := a) q (j + 1)
    have h2 : gn k dy j (d j) (gD k a d j) + Af k dy q (j + 1) (lF k (d j) (gD k a d j)) ≤ Af k dy (q + 1) j (gD k a d j) := mxF_ge (f := fun c => gn k dy j c (gD k a d j) + Af k dy q (j + 1) (lF k c (gD k a d j))) (n := 3) (hd j)
    rw [show j + 1 + q = j + (q + 1) by omega] at h1
    have h3 : mD k dy a d (j + 1) = mD k dy a d j + gn k dy j (d j) (gD k a d j) := rfl
    have h4 : gD k a d (j + 1) = lF k (d j) (gD k a d j) := rfl
    rw [h3, h4] at h1
    omega
theorem PP_D {k dy a : Nat} {d : Nat → Nat} (hd : ∀ j, d j < 3) : ∀ j, PP k dy j 0 a (gD k a d j) (mD k dy a d j)
  | 0 => ⟨rfl, rfl⟩
  | j + 1 => by
    have := PP_snoc (hd j) j 0 a _ _ (PP_D hd (k := k) (dy := dy) (a := a) j)
    rw [Nat.zero_add] at this
    exact this
theorem D_PP {k dy a : Nat} : ∀ q g m, PP k dy q 0 a g m → ∃ d : Nat → Nat, (∀ j, d j < 3) ∧ gD k a d q = g ∧ mD k dy a d q = m
  | 0, g, m, h => ⟨fun _ => 0, fun _ => Nat.zero_lt_succ 2, h.1.symm, h.2.symm⟩
  | q + 1, g, m, h => by
    obtain ⟨g', m', c, hc, h1, h2, h3⟩ := PP_un q 0 a g m h
    rw [Nat.zero_add] at h3
    obtain ⟨d, d1, d2, d3⟩ := D_PP q g' m' h1
    have he : ∀ i, i < q → (fun j => if j < q then d j else c) i = d i := fun i hi => if_pos hi
    have hq : (fun j => if j < q then d j else c) q = c := if_neg (by omega)
    refine ⟨fun j => if j < q then d j else c, fun j => ?_, ?_, ?_⟩
    · show (if j < q then d j else c) < 3
      by_cases hj : j < q
      · rw [if_pos hj]; exact d1 j
      · rw [if_neg hj]; exact hc
    · show lF k _ (gD k a _ q) = g
      rw [gD_c q he, d2, h2]
      exact congrArg (fun z => lF k z g') hq
    · show mD k dy a _ q + gn k dy q _ (gD k a _ q) = m
      rw [mD_c q he, gD_c q he, d2, d3, h3]
      exact congrArg (fun z => m' + gn k dy q z g') hq
theorem mxF_ex {f : Nat → Nat} : ∀ {n : Nat}, 0 < n → ∃ j, j < n ∧ f j = mxF f n ∧ ∀ j', j' < j → f j' < mxF f n
  | 0, h => absurd h (by omega)
  | n + 1, _ => by
    have e : mxF f (n + 1) = max (mxF f n) (f n) := rfl
    by_cases h : n = 0
    · subst h
      exact ⟨0, by omega, by rw [e]; show f 0 = max 0 (f 0); omega, fun j' hj' => absurd hj' (by omega)⟩
    · by_cases hlt : mxF f n < f n
      · refine ⟨n, by omega, by rw [e]; omega, fun j' hj' => ?_⟩
        have := mxF_ge (f := f) hj'
        rw [e]
        omega
      · obtain ⟨j, h1, h2, h3⟩ := mxF_ex (f := f) (n := n) (by omega)
        refine ⟨j, by omega, by rw [e]; omega, fun j' hj' => ?_⟩
        have := h3 j' hj'
        rw [e]
        omega
/-- going on as well as can be -/
theorem D_on {k dy a : Nat} : ∀ (r t : Nat) (d : Nat → Nat), (∀ j, d j < 3) → ∃ d' : Nat → Nat, (∀ j, d' j < 3) ∧ (∀ i, i < t → d' i = d i) ∧ mD k dy a d' (t + r) = mD k dy a d t + Af k dy r t (gD k a d t)
  | 0, t, d, hd => ⟨d, hd, fun _ _ => rfl, rfl⟩
  | r + 1, t, d, hd => by
    obtain ⟨c, c1, c2, -⟩ := mxF_ex (f := fun c => gn k dy t c (gD k a d t) + Af k dy r (t + 1) (lF k c (gD k a d t))) (n := 3) (by decide)
    have he : ∀ i, i < t → (fun j => if j < t then d j else c) i = d i := fun i hi => if_pos hi
    have hq : (fun j => if j < t then d j else c) t = c := if_neg (by omega)
    obtain ⟨d', e1, e2, e3⟩ := D_on r (t + 1) (fun j => if j < t then d j else c) (fun j => by
      show (if j < t then d j else c) < 3
      by_cases hj : j < t
      · rw [if_pos hj]; exact hd j
      · rw [if_neg hj]; exact c1)
    refine ⟨d', e1, fun i hi => (e2 i (by omega)).trans (he i hi), ?_⟩
    have g1 : gD k a (fun j => if j < t then d j else c) (t + 1) = lF k c (gD k a d t) := by
      show lF k _ (gD k a _ t) = _
      rw [gD_c t he]
      exact congrArg (fun z => lF k z (gD k a d t)) hq
    have m1 : mD k dy a (fun j => if j < t then d j else c) (t + 1) = mD k dy a d t + gn k dy t c (gD k a d t) := by
      show mD k dy a _ t + gn k dy t _ (gD k a _ t) = _
      rw [gD_c t he, mD_c t he]
      exact congrArg (fun z => mD k dy a d t + gn k dy t z (gD k a d t)) hq
    rw [show t + (r + 1) = t + 1 + r by omega, e3, g1, m1]
    have c3 : gn k dy t c (gD k a d t) + Af k dy r (t + 1) (lF k c (gD k a d t)) = Af k dy (r + 1) t (gD k a d t) := c2
    omega
theorem PP_up {k dy a q g m : Nat} (h : PP k dy q 0 a g m) : m ≤ Af k dy q 0 a := by
  obtain ⟨d, d1, d2, d3⟩ := D_PP q g m h
  have := mD_up d1 (k := k) (dy := dy) (a := a) q 0
  rw [Nat.zero_add] at this
  have e0 : mD k dy a d 0 = 0 := rfl
  have e1 : gD k a d 0 = a := rfl
  rw [e0, e1] at this
  omega
theorem PP_at (k dy a q : Nat) : ∃ g, PP k dy q 0 a g (Af k dy q 0 a) := by
  obtain ⟨d, d1, -, d3⟩ := D_on (k := k) (dy := dy) (a := a) q 0 (fun _ => 0) (fun _ => Nat.zero_lt_succ 2)
  have := PP_D d1 (k := k) (dy := dy) (a := a) q
  rw [Nat.zero_add] at d3
  have e0 : mD k dy a (fun _ => 0) 0 = 0 := rfl
  have e1 : gD k a (fun _ => 0) 0 = a := rfl
  rw [e0, e1, Nat.zero_add] at d3
  rw [d3] at this
  exact ⟨_, this⟩
