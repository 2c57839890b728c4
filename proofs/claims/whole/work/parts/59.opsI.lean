/-! the reference's -/
theorem like_l (x : Int32) (s g c i : Nat) (hs : s < 4) (hg : g < 100) (hc : c < 3) (hi : i < 6) (T : TT) (hT : T.1 10 1 (4 + i) = nI g) (rec30 : TT → Int32 → Int32 → Int32 → Int32 → Int32 → Option (Int32 × TT)) (rec61 : TT → Int32 → Int32 → Int32 → Int32 → Int32 → Int32 → Int32 → Option (Int32 × TT)) (x3 x4 x6 : Int32) (a : Nat) (ha : a < 6) (hm : mem x a = true) : ∀ (q j n : Nat), j + q = 6 → q < n → m_X11_look_l81 rec30 rec61 n T (nI i) x x3 x4 (nI (10 * s + c)) x6 (nI a) (nI (cn x s g c a j)) (nI j) = m_X11_look_b150 rec30 rec61 T (nI i) x x3 x4 (nI (10 * s + c)) x6 (nI a) (nI (cn x s g c a 6)) := by
  have e10 : nI (10 * s + c) / 10 = nI s := by
    have := pk_div (a := 10 * s + c) (d := 10) (by omega) (by decide) (by decide)
    rw [show (10 * s + c) / 10 = s by omega] at this
    exact this
  have er : nI (10 * s + c) - nI (10 * s + c) / 10 * 10 = nI c := by
    have := pk_rem (a := 10 * s + c) (d := 10) (by omega) (by decide) (by decide)
    rw [show (10 * s + c) % 10 = c by omega] at this
    exact this
  have e4 : (4 : Int32) + nI i = nI (4 + i) := ad_n 4 i
  intro q
  induction q with
  | zero =>
    intro j n hj hn
    obtain ⟨n, rfl⟩ : ∃ q, n = q + 1 := ⟨n - 1, by omega⟩
    have hj : j = 6 := by omega
    subst hj
    show m_X11_look_h81 _ _ _ _ _ _ _ _ _ _ _ _ _ = _
    unfold m_X11_look_h81
    rw [if_pos (by decide)]
  | succ q ih =>
    intro j n hj hn
    obtain ⟨n, rfl⟩ : ∃ q, n = q + 1 := ⟨n - 1, by omega⟩
    have hI := ih (j + 1) n (by omega) (by omega)
    have h6 : ¬ (6 : Int32) ≤ nI j := nI_ge (b := 6) (by omega) (by decide)
    show m_X11_look_h81 _ _ _ _ _ _ _ _ _ _ _ _ _ = _
    unfold m_X11_look_h81
    have no : ¬ (mem x j = true ∧ sgn s g c j = sgn s g c a) → m_X11_look_b140 rec30 rec61 (m_X11_look_l81 rec30 rec61 n) T (nI i) x x3 x4 (nI (10 * s + c)) x6 (nI a) (nI j) (nI (cn x s g c a j)) = m_X11_look_b150 rec30 rec61 T (nI i) x x3 x4 (nI (10 * s + c)) x6 (nI a) (nI (cn x s g c a 6)) := fun hno => by
      unfold m_X11_look_b140 m_X11_look_b141
      rw [bT_v, bT_v, nI_1, Int32.add_zero]
      have e : cn x s g c a (j + 1) = cn x s g c a j := if_neg hno
      rw [← e]
      exact hI
    rw [if_neg h6, has_m, hm, if_pos rfl, Option.bind_some, if_neg (by decide), has_m, Option.bind_some]
    by_cases hb : mem x j = true
    · rw [hb, if_pos rfl, if_neg (by decide), e4, if_pos (inb_n (by omega) (by decide)), cl_n (by omega), hT, e10, show nI (10 * s + c) - nI s * 10 = nI c by rw [← e10]; exact er, al_v ha (by omega) hs hg hc, Option.bind_some]
      by_cases he : sgn s g c j = sgn s g c a
      · rw [if_pos he, if_neg (by decide)]
        unfold m_X11_look_b141
        rw [bT_v, bT_v, nI_1, nI_1]
        have e : cn x s g c a (j + 1) = cn x s g c a j + 1 := if_pos ⟨hb, he⟩
        rw [← e]
        exact hI
      · rw [if_neg he, if_pos rfl]
        exact no (fun z => he z.2)
    · have hb' : mem x j = false := by simpa using hb
      rw [hb', if_pos (show (if false = true then (1 : Int32) else 0) = 0 by decide)]
      exact no (fun z => hb z.1)
theorem topm_l (x : Int32) (s g c i : Nat) (hs : s < 4) (hg : g < 100) (hc : c < 3) (hi : i < 6) (T : TT) (hT : T.1 10 1 (4 + i) = nI g) (rec30 : TT → Int32 → Int32 → Int32 → Int32 → Int32 → Option (Int32 × TT)) (x3 x4 : Int32) : ∀ (q a n : Nat), a + q = 6 → q < n → m_X11_look_l61 rec30 n T (nI i) x x3 x4 (nI (10 * s + c)) (nI (mxF (fun k => if mem x k = true then cn x s g c k 6 else 0) a)) (nI a) = m_X11_look_b172 rec30 T (nI i) x x3 x4 (nI (10 * s + c)) (nI (toF x s g c)) := by
  intro q
  induction q with
  | zero =>
    intro a n ha hn
    obtain ⟨n, rfl⟩ : ∃ q, n = q + 1 := ⟨n - 1, by omega⟩
    have ha : a = 6 := by omega
    subst ha
    show m_X11_look_h61 _ _ _ _ _ _ _ _ _ _ = _
    unfold m_X11_look_h61
    rw [if_pos (by decide), toF_m]
  | succ q ih =>
    intro a n ha hn
    obtain ⟨n, rfl⟩ : ∃ q, n = q + 1 := ⟨n - 1, by omega⟩
    have hI := ih (a + 1) n (by omega) (by omega)
    have h6 : ¬ (6 : Int32) ≤ nI a := nI_ge (b := 6) (by omega) (by decide)
    have hmx := mxF_le (f := fun k => if mem x k = true then cn x s g c k 6 else 0) (b := 6) (fun j => by
      show (if mem x j = true then cn x s g c j 6 else 0) ≤ 6
      by_cases h : mem x j = true
      · rw [if_pos h]; exact cn_le x s g c j 6
      · rw [if_neg h]; exact Nat.zero_le _) a
    generalize hM : mxF (fun k => if mem x k = true then cn x s g c k 6 else 0) a = M at hmx ⊢
    have hF : ¬ (1000000 : Int32) ≤ nI M := nI_ge (b := 1000000) (by omega) (by decide)
    show m_X11_look_h61 _ _ _ _ _ _ _ _ _ _ = _
    unfold m_X11_look_h61
    rw [if_neg h6, if_neg hF]
    have hb : ∀ w, w ≤ 6 → mxF (fun k => if mem x k = true then cn x s g c k 6 else 0) (a + 1) = max M w → m_X11_look_b150 rec30 (m_X11_look_l61 rec30 n) T (nI i) x x3 x4 (nI (10 * s + c)) (nI M) (nI a) (nI w) = m_X11_look_b172 rec30 T (nI i) x x3 x4 (nI (10 * s + c)) (nI (toF x s g c)) := fun w hw6 hw => by
      unfold m_X11_look_b150 m_X11_look_b164
      rw [hw] at hI
      by_cases hle : w ≤ M
      · rw [if_pos (nI_le hle (by omega)), bT_v, nI_1]
        rw [Nat.max_eq_left hle] at hI
        exact hI
      · rw [if_neg (nI_ge (by omega) (by omega)), bT_v, nI_1]
        rw [Nat.max_eq_right (by omega)] at hI
        exact hI
    have es : mxF (fun k => if mem x k = true then cn x s g c k 6 else 0) (a + 1) = max M (if mem x a = true then cn x s g c a 6 else 0) := by
      rw [← hM]
      rfl
    by_cases hm : mem x a = true
    · refine (like_l x s g c i hs hg hc hi T hT rec30 (m_X11_look_l61 rec30 n) x3 x4 (nI M) a (by omega) hm 6 0 FU (by omega) (FU_lt (by omega))).trans ?_
      rw [if_pos hm] at es
      exact hb _ (cn_le x s g c a 6) es
    · have hm' : mem x a = false := by simpa using hm
      have e : m_X11_look_l81 rec30 (m_X11_look_l61 rec30 n) FU T (nI i) x x3 x4 (nI (10 * s + c)) (nI M) (nI a) 0 0 = m_X11_look_b150 rec30 (m_X11_look_l61 rec30 n) T (nI i) x x3 x4 (nI (10 * s + c)) (nI M) (nI a) 0 := by
        show m_X11_look_h81 _ _ _ _ _ _ _ _ _ _ _ _ _ = _
        unfold m_X11_look_h81
        rw [if_neg (by decide), has_m, hm', if_neg (by decide), Option.bind_some, if_pos rfl]
      rw [e]
      rw [if_neg hm] at es
      exact hb 0 (by decide) es
theorem lookm_l (x : Int32) (g i : Nat) (hx : ¬ x ≤ 0) (hg : g < 100) (hi : i < 6) (T : TT) (hT : T.1 10 1 (4 + i) = nI g) : ∀ (q d n : Nat), d + q = 33 → q < n → m_X11_look_l30 n T (nI i) x (lkM (vF x g) d).1 (nI (lkM (vF x g) d).2) (nI d) = some ((lkM (vF x g) 33).1, T) := by
  intro q
  induction q with
  | zero =>
    intro d n hd hn
    obtain ⟨n, rfl⟩ : ∃ q, n = q + 1 := ⟨n - 1, by omega⟩
    have hd : d = 33 := by omega
    subst hd
    show m_X11_look_h30 _ _ _ _ _ _ _ = _
    unfold m_X11_look_h30
    rw [if_pos (by decide)]
  | succ q ih =>
    intro d n hd hn
    obtain ⟨n, rfl⟩ : ∃ q, n = q + 1 := ⟨n - 1, by omega⟩
    have hI := ih (d + 1) n (by omega) (by omega)
    have h33 : ¬ (33 : Int32) ≤ nI d := nI_ge (b := 33) (by omega) (by decide)
    have er : nI d - nI d / 10 * 10 = nI (d % 10) := pk_rem (a := d) (d := 10) (by omega) (by decide) (by decide)
    have hl := lkM_le (vF x g) d
    show m_X11_look_h30 _ _ _ _ _ _ _ = _
    unfold m_X11_look_h30
    rw [if_neg h33, if_neg hx, er]
    rw [lkM_s] at hI
    by_cases h3 : d % 10 < 3
    · have h3' : ¬ (3 : Int32) ≤ nI (d % 10) := nI_ge (b := 3) h3 (by decide)
      rw [if_neg h3']
      unfold m_X11_look_b56
      have ed : 10 * (d / 10) + d % 10 = d := by omega
      have := topm_l x (d / 10) g (d % 10) i (by omega) hg h3 hi T hT (m_X11_look_l30 n) (lkM (vF x g) d).1 (nI (lkM (vF x g) d).2) 6 0 FU (by omega) (FU_lt (by omega))
      rw [ed] at this
      refine this.trans ?_
      have ht := toF_le x (d / 10) g (d % 10)
      unfold m_X11_look_b172 m_X11_look_b185 m_X11_look_b200
      rw [if_pos h3] at hI
      have ev : vF x g d = toF x (d / 10) g (d % 10) := rfl
      rw [ev] at hI
      by_cases hlt : toF x (d / 10) g (d % 10) < (lkM (vF x g) d).2
      · rw [if_pos hlt] at hI
        rw [if_neg (nI_ge hlt (by omega)), if_neg (nI_ge hlt (by omega)), bT_v, nI_1]
        exact hI
      · rw [if_neg hlt] at hI
        rw [if_pos (nI_le (by omega) (by omega)), if_pos (nI_le (by omega) (by omega)), bT_v, nI_1]
        exact hI
    · have h3' : (3 : Int32) ≤ nI (d % 10) := nI_le (a := 3) (by omega) (by omega)
      rw [if_pos h3']
      unfold m_X11_look_b56
      have e : m_X11_look_l61 (m_X11_look_l30 n) FU T (nI i) x (lkM (vF x g) d).1 (nI (lkM (vF x g) d).2) (nI d) 1000000 0 = m_X11_look_b172 (m_X11_look_l30 n) T (nI i) x (lkM (vF x g) d).1 (nI (lkM (vF x g) d).2) (nI d) 1000000 := by
        show m_X11_look_h61 _ _ _ _ _ _ _ _ _ _ = _
        unfold m_X11_look_h61
        rw [if_neg (by decide), if_pos (by decide)]
      rw [e]
      unfold m_X11_look_b172 m_X11_look_b185 m_X11_look_b200
      have hF : nI (lkM (vF x g) d).2 ≤ 1000000 := nI_le (b := 1000000) hl (by decide)
      rw [if_neg h3] at hI
      rw [if_pos hF, if_pos hF, bT_v, nI_1]
      exact hI
theorem op_look {n : Nat} {T : TT} (hn : n < 64) (h : Inv n T) (x : Int32) : Op n (m_X10_look T x) (fun T => m_X11_look T x) := by
  obtain ⟨sz, nc, tc, uc, dy, hR⟩ := h.t0
  have hsz := hR.1.1
  rcases ixd x sz hsz with hb | ⟨i, hi, rfl⟩
  · refine Op.of (r := -2) (T1 := rfs T 0) (T2 := rfm (rfs T 0) 0) ?_ ?_ (h.refuse hn (by decide))
    · unfold m_X10_look
      rw [has_bad hR.2.1.1 hb]
      rfl
    · show m_X11_look _ _ = _
      unfold m_X11_look
      rw [dr_bad (by rw [rfs_told]; exact hR.2.2.1.1) hsz hb]
      rfl
  · obtain ⟨b, q1, q2⟩ := kinds_v hR (i := i) (by omega)
    obtain ⟨-, ⟨g, hg, g1, g2⟩, -⟩ := hR.2.2.2.1 i hi
    generalize hS : stF b 6 = S at q1 q2
    have hS0 : S = 0 ∨ ¬ S ≤ 0 := by rw [← hS]; exact stF_p b
    by_cases hS1 : S = 0
    · refine Op.of (r := -1) (T1 := T) (T2 := T) ?_ ?_ (h.keep hn Fr.rf)
      · unfold m_X10_look
        rw [has_ok hR.2.1.1 hsz hi, Option.bind_some, if_neg (by decide), q1, Option.bind_some, if_pos hS1]
      · show m_X11_look _ _ = _
        unfold m_X11_look
        rw [dr_ok hR.2.2.1.1 hsz hi, Option.bind_some, if_neg (by decide), q2 T rfl, Option.bind_some, hS1]
        rfl
    · have hx := hS0.resolve_left hS1
      obtain ⟨T1, z1, z2⟩ := bm_v S g hg 4 0 FU T (by omega) (FU_lt (by omega))
      have c1 : T1.1 10 1 = T.1 10 1 := z2.1 10 1 (by simp [SCA])
      have y := lookm_l S g i hx hg (by omega) T1 (by rw [c1]; exact g2) 33 0 FU (by omega) (FU_lt (by omega))
      have el : (lkM (vF S g) 33).1 = (lkC (vF S g) 12).1 := lk_eq (fun q => toF_le _ _ _ _)
      rw [el] at y
      have z1' : m_X10_bestMorning T S (nI g) = some ((lkC (vF S g) 12).1, T1) := z1
      have y' : m_X11_look_l30 FU T1 (nI i) S (-1) 1000000 0 = some ((lkC (vF S g) 12).1, T1) := y
      generalize (lkC (vF S g) 12).1 = r at z1' y'
      refine Op.of (r := r) (T1 := T1) (T2 := T1) ?_ ?_ (h.keep hn z2)
      · unfold m_X10_look
        rw [has_ok hR.2.1.1 hsz hi, Option.bind_some, if_neg (by decide), q1, Option.bind_some, if_neg hS1, if_pos (inb_n (by omega) (by decide)), cl_n (by omega), g1, z1', Option.bind_some]
      · show m_X11_look _ _ = _
        unfold m_X11_look
        rw [dr_ok (by rw [c1]; exact hR.2.2.1.1) hsz hi, Option.bind_some, if_neg (by decide), q2 T1 c1, Option.bind_some]
        exact y'
