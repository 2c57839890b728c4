/-! THE TEXT: its words -/
def wC (w j : Nat) : Nat := (([[114, 97, 110, 107], [100, 114, 105, 118, 101, 114], [100, 97, 121, 115]] : List (List Nat)).getD w []).getD j 0
theorem sch_n : ∀ w, w < 3 → ∀ j, j < 6 → sch w (nI j) = nI (wC w j) := by decide +kernel
theorem wC_lt : ∀ w, w < 3 → ∀ j, j < 6 → wC w j < 128 := by decide +kernel
theorem slN_le : ∀ w, w < 3 → 0 < slenN w ∧ slenN w ≤ 6 := by decide +kernel
/-- the token is the word w -/
def WD (b : Nat → Nat) (st en k w : Nat) : Prop := k = 1 ∧ en - st = slenN w ∧ ∀ j, j < slenN w → b (st + j) = wC w j
theorem isW_l {T : TT} {b : Nat → Nat} {tl st w : Nat} (h : TX T b tl) (ht : tl ≤ 64) (hw : w < 3) (h2 : T.2.1 5 2 = nI st) (hs : st + slenN w ≤ tl) : ∀ m j n : Nat, j + m = slenN w → m < n → ((∀ i, j ≤ i → i < slenN w → b (st + i) = wC w i) → m_X9_isWord_l28 T w n (nI j) = some 1) ∧ ((¬ ∀ i, j ≤ i → i < slenN w → b (st + i) = wC w i) → m_X9_isWord_l28 T w n (nI j) = some 0) := by
  intro m
  have h6 := slN_le w hw
  have esl : slen w = nI (slenN w) := rfl
  induction m with
  | zero =>
    intro j n hj hn
    obtain ⟨n, rfl⟩ : ∃ q, n = q + 1 := ⟨n - 1, by omega⟩
    refine ⟨fun _ => ?_, fun q => absurd (fun i z1 z2 => by omega) q⟩
    show m_X9_isWord_h28 _ _ _ _ = _
    unfold m_X9_isWord_h28
    rw [esl, if_pos (nI_le (by omega) (by omega))]
  | succ m ih =>
    intro j n hj hn
    obtain ⟨n, rfl⟩ : ∃ q, n = q + 1 := ⟨n - 1, by omega⟩
    obtain ⟨hb, a⟩ := h.2 (st + j) (by omega)
    have hc := wC_lt w hw j (by omega)
    have hu : m_X9_isWord_l28 T w (n + 1) (nI j) = if nI (b (st + j)) = nI (wC w j) then m_X9_isWord_l28 T w n (nI (j + 1)) else some 0 := by
      show m_X9_isWord_h28 _ _ _ _ = _
      unfold m_X9_isWord_h28
      rw [esl, if_neg (nI_ge (by omega) (by omega)), h2, ad_n, if_pos (inb_n (by omega) (by decide)), if_pos (inb_n (by omega) (sbt_len w hw)), cl_n (by omega), a, sch_n w hw j (by omega), bT_v, nI_1]
    rw [hu]
    obtain ⟨i1, i2⟩ := ih (j + 1) n (by omega) (by omega)
    by_cases c : b (st + j) = wC w j
    · rw [if_pos (congrArg nI c)]
      refine ⟨fun q => i1 (fun i z1 z2 => q i (by omega) z2), fun q => i2 (fun z => q (fun i z1 z2 => ?_))⟩
      by_cases hij : i = j
      · subst hij
        exact c
      · exact z i (by omega) z2
    · have c' : ¬ nI (b (st + j)) = nI (wC w j) := fun z => c ((nI_eq (by omega) (by omega)).mp z)
      rw [if_neg c']
      exact ⟨fun q => absurd (q j (Nat.le_refl _) (by omega)) c, fun _ => rfl⟩
theorem isW_v {T : TT} {b : Nat → Nat} {tl st en k w : Nat} (h : TX T b tl) (ht : tl ≤ 64) (hw : w < 3) (h2 : T.2.1 5 2 = nI st) (h8 : T.2.1 5 8 = nI en) (h7 : T.2.1 5 7 = nI k) (hk : k ≤ 4) (hse : st ≤ en) (he : en ≤ tl) : (WD b st en k w → m_X9_isWord T w = some 1) ∧ (¬ WD b st en k w → m_X9_isWord T w = some 0) := by
  have h6 := slN_le w hw
  unfold m_X9_isWord
  rw [h7, h8, h2, pk_sub hse]
  by_cases c : k = 1
  · have c' : nI k = 1 := by rw [c]; rfl
    rw [if_pos c']
    by_cases l : en - st = slenN w
    · have l' : nI (en - st) = slen w := congrArg nI l
      rw [if_pos l']
      obtain ⟨z1, z2⟩ := isW_l h ht hw h2 (by omega) (slenN w) 0 FU (by omega) (FU_lt (by omega))
      exact ⟨fun q => z1 (fun i _ hi => q.2.2 i hi), fun q => z2 (fun z => q ⟨c, l, fun j hj => z j (Nat.zero_le _) hj⟩)⟩
    · have l' : ¬ nI (en - st) = slen w := fun z => l ((nI_eq (by omega) (by omega)).mp z)
      rw [if_neg l']
      exact ⟨fun q => absurd q.2.1 l, fun _ => rfl⟩
  · have c' : ¬ nI k = 1 := fun z => c ((nI_eq (b := 1) (by omega) (by decide)).mp z)
    rw [if_neg c']
    exact ⟨fun q => absurd q.1 c, fun _ => rfl⟩
theorem sel6 {w : Nat} (f : Int32 → Option Int32) : ∀ j, j < 6 → (if nI j = 0 then f (nI (wC w 0)) else if nI j = 1 then f (nI (wC w 1)) else if nI j = 2 then f (nI (wC w 2)) else if nI j = 3 then f (nI (wC w 3)) else if nI j = 4 then f (nI (wC w 4)) else f (nI (wC w 5))) = f (nI (wC w j)) := by
  intro j hj
  rcases (show j = 0 ∨ j = 1 ∨ j = 2 ∨ j = 3 ∨ j = 4 ∨ j = 5 by omega) with rfl | rfl | rfl | rfl | rfl | rfl
  · rw [if_pos (by decide)]
  · rw [if_neg (by decide), if_pos (by decide)]
  · rw [if_neg (by decide), if_neg (by decide), if_pos (by decide)]
  · rw [if_neg (by decide), if_neg (by decide), if_neg (by decide), if_pos (by decide)]
  · rw [if_neg (by decide), if_neg (by decide), if_neg (by decide), if_neg (by decide), if_pos (by decide)]
  · rw [if_neg (by decide), if_neg (by decide), if_neg (by decide), if_neg (by decide), if_neg (by decide)]
theorem sp_0 (T : TT) (n : Nat) (x1 x2 x3 x4 x5 x6 x7 x9 : Int32) : m_X11_spells_l26 T (n + 1) x1 x2 x3 x4 x5 x6 x7 0 x9 = some 0 := by
  show m_X11_spells_h26 _ _ _ _ _ _ _ _ _ _ _ = _
  unfold m_X11_spells_h26
  by_cases c : x1 ≤ x9
  · rw [if_pos c, if_pos (Or.inl rfl)]
  · rw [if_neg c, if_pos rfl, if_pos (Or.inl rfl)]
theorem sp_l {T : TT} {b : Nat → Nat} {tl st w : Nat} (h : TM T b tl) (ht : tl ≤ 64) (hw : w < 3) (h2 : T.2.1 10 14 = nI st) (hs : st + slenN w ≤ tl) : ∀ m j n : Nat, j + m = slenN w → m + 1 < n → ((∀ i, j ≤ i → i < slenN w → b (st + i) = wC w i) → m_X11_spells_l26 T n (nI (slenN w)) (nI (wC w 0)) (nI (wC w 1)) (nI (wC w 2)) (nI (wC w 3)) (nI (wC w 4)) (nI (wC w 5)) 1 (nI j) = some 1) ∧ ((¬ ∀ i, j ≤ i → i < slenN w → b (st + i) = wC w i) → m_X11_spells_l26 T n (nI (slenN w)) (nI (wC w 0)) (nI (wC w 1)) (nI (wC w 2)) (nI (wC w 3)) (nI (wC w 4)) (nI (wC w 5)) 1 (nI j) = some 0) := by
  intro m
  have h6 := slN_le w hw
  induction m with
  | zero =>
    intro j n hj hn
    obtain ⟨n, rfl⟩ : ∃ q, n = q + 1 := ⟨n - 1, by omega⟩
    refine ⟨fun _ => ?_, fun q => absurd (fun i z1 z2 => by omega) q⟩
    show m_X11_spells_h26 _ _ _ _ _ _ _ _ _ _ _ = _
    unfold m_X11_spells_h26
    rw [if_pos (nI_le (by omega) (by omega)), if_pos (Or.inr rfl)]
  | succ m ih =>
    intro j n hj hn
    obtain ⟨n, rfl⟩ : ∃ q, n = q + 1 := ⟨n - 1, by omega⟩
    obtain ⟨hb, a⟩ := h.2 (st + j) (by omega)
    have hc := wC_lt w hw j (by omega)
    have hu : m_X11_spells_l26 T (n + 1) (nI (slenN w)) (nI (wC w 0)) (nI (wC w 1)) (nI (wC w 2)) (nI (wC w 3)) (nI (wC w 4)) (nI (wC w 5)) 1 (nI j) = m_X11_spells_b103 T (m_X11_spells_l26 T n) (nI (slenN w)) (nI (wC w 0)) (nI (wC w 1)) (nI (wC w 2)) (nI (wC w 3)) (nI (wC w 4)) (nI (wC w 5)) (nI j) (nI (b (st + j))) (nI (wC w j)) := by
      show m_X11_spells_h26 _ _ _ _ _ _ _ _ _ _ _ = _
      unfold m_X11_spells_h26
      rw [if_neg (nI_ge (by omega) (by omega)), if_neg (by decide), h2, ad_n, if_pos (inb_n (by omega) (by decide)), cl_n (by omega), a]
      exact sel6 (w := w) (fun y => m_X11_spells_b103 T (m_X11_spells_l26 T n) (nI (slenN w)) (nI (wC w 0)) (nI (wC w 1)) (nI (wC w 2)) (nI (wC w 3)) (nI (wC w 4)) (nI (wC w 5)) (nI j) (nI (b (st + j))) y) j (by omega)
    rw [hu]
    unfold m_X11_spells_b103 m_X11_spells_b111
    rw [bT_v, bT_v, nI_1]
    obtain ⟨i1, i2⟩ := ih (j + 1) n (by omega) (by omega)
    by_cases c : b (st + j) = wC w j
    · rw [if_pos (congrArg nI c)]
      refine ⟨fun q => i1 (fun i z1 z2 => q i (by omega) z2), fun q => i2 (fun z => q (fun i z1 z2 => ?_))⟩
      by_cases hij : i = j
      · subst hij
        exact c
      · exact z i (by omega) z2
    · have c' : ¬ nI (b (st + j)) = nI (wC w j) := fun z => c ((nI_eq (by omega) (by omega)).mp z)
      obtain ⟨n, rfl⟩ : ∃ q, n = q + 1 := ⟨n - 1, by omega⟩
      rw [if_neg c', sp_0]
      exact ⟨fun q => absurd (q j (Nat.le_refl _) (by omega)) c, fun _ => rfl⟩
theorem sp_v {T : TT} {b : Nat → Nat} {tl st en k w : Nat} (h : TM T b tl) (ht : tl ≤ 64) (hw : w < 3) (h14 : T.2.1 10 14 = nI st) (h15 : T.2.1 10 15 = nI (en - st)) (h16 : T.2.1 10 16 = nI k) (hk : k ≤ 4) (hse : st ≤ en) (he : en ≤ tl) : (WD b st en k w → m_X11_spells T (nI (slenN w)) (nI (wC w 0)) (nI (wC w 1)) (nI (wC w 2)) (nI (wC w 3)) (nI (wC w 4)) (nI (wC w 5)) = some 1) ∧ (¬ WD b st en k w → m_X11_spells T (nI (slenN w)) (nI (wC w 0)) (nI (wC w 1)) (nI (wC w 2)) (nI (wC w 3)) (nI (wC w 4)) (nI (wC w 5)) = some 0) := by
  have h6 := slN_le w hw
  unfold m_X11_spells m_X11_spells_b20 m_X11_spells_b21
  have h0 : m_X11_spells_l26 T FU (nI (slenN w)) (nI (wC w 0)) (nI (wC w 1)) (nI (wC w 2)) (nI (wC w 3)) (nI (wC w 4)) (nI (wC w 5)) 0 0 = some 0 := sp_0 T 999999 _ _ _ _ _ _ _ _
  rw [h16, h15, h0]
  by_cases c : k = 1
  · have c' : nI k = 1 := by rw [c]; rfl
    rw [if_pos c']
    by_cases l : en - st = slenN w
    · have l' : nI (en - st) = nI (slenN w) := congrArg nI l
      rw [if_pos l']
      obtain ⟨z1, z2⟩ := sp_l h ht hw h14 (by omega) (slenN w) 0 FU (by omega) (FU_lt (by omega))
      exact ⟨fun q => z1 (fun i _ hi => q.2.2 i hi), fun q => z2 (fun z => q ⟨c, l, fun j hj => z j (Nat.zero_le _) hj⟩)⟩
    · have l' : ¬ nI (en - st) = nI (slenN w) := fun z => l ((nI_eq (by omega) (by omega)).mp z)
      rw [if_neg l']
      exact ⟨fun q => absurd q.2.1 l, fun _ => rfl⟩
  · have c' : ¬ nI k = 1 := fun z => c ((nI_eq (b := 1) (by omega) (by decide)).mp z)
    rw [if_neg c']
    exact ⟨fun q => absurd q.1 c, fun _ => rfl⟩
abbrev WP (b : Nat → Nat) (tl p w : Nat) : Prop := WD b (tok b tl p).1 (tok b tl p).2.1 (tok b tl p).2.2.1 w
theorem isW_t {T : TT} {b : Nat → Nat} {tl p w : Nat} (h : TX T b tl) (ht : tl ≤ 64) (hw : w < 3) (hp : p ≤ tl) (hC : CT T b tl p) : (WP b tl p w → m_X9_isWord T w = some 1) ∧ (¬ WP b tl p w → m_X9_isWord T w = some 0) := by
  obtain ⟨k1, k2, k3, k4, -⟩ := tok_le (b := b) hp
  exact isW_v h ht hw hC.1 hC.2.1 hC.2.2.1 k4 k2 k3
theorem sp_t {T : TT} {b : Nat → Nat} {tl p w : Nat} (h : TM T b tl) (ht : tl ≤ 64) (hw : w < 3) (hp : p ≤ tl) (hC : MT T b tl p) : (WP b tl p w → m_X11_spells T (nI (slenN w)) (nI (wC w 0)) (nI (wC w 1)) (nI (wC w 2)) (nI (wC w 3)) (nI (wC w 4)) (nI (wC w 5)) = some 1) ∧ (¬ WP b tl p w → m_X11_spells T (nI (slenN w)) (nI (wC w 0)) (nI (wC w 1)) (nI (wC w 2)) (nI (wC w 3)) (nI (wC w 4)) (nI (wC w 5)) = some 0) := by
  obtain ⟨k1, k2, k3, k4, -⟩ := tok_le (b := b) hp
  exact sp_v h ht hw hC.1 hC.2.1 hC.2.2.1 k4 k2 k3
/-! numbers -/
theorem i1n0 : ¬ (1 : Int32) = 0 := by decide
abbrev NB (b : Nat → Nat) (tl q lo hi : Nat) : Prop := (tok b tl q).2.2.1 = 2 ∧ lo ≤ (tok b tl q).2.2.2 ∧ (tok b tl q).2.2.2 ≤ hi
theorem CT.sI {T : TT} {b : Nat → Nat} {tl p k : Nat} {x : Int32} (h : CT T b tl p) (hk : k ≠ 2 ∧ k ≠ 7 ∧ k ≠ 8 ∧ k ≠ 9) : CT (sI T 5 k x) b tl p := ⟨by rw [sI_v, if_neg (by omega)]; exact h.1, by rw [sI_v, if_neg (by omega)]; exact h.2.1, by rw [sI_v, if_neg (by omega)]; exact h.2.2.1, fun q => by rw [sI_v, if_neg (by omega)]; exact h.2.2.2 q⟩
theorem tn_v {T : TT} {b : Nat → Nat} {tl q lo hi : Nat} (h : TX T b tl) (ht : tl ≤ 64) (hq : q ≤ tl) (h8 : T.2.1 5 8 = nI q) (hlo : lo < 100) (hhi : hi < 100) : ∃ T', (m_X9_takesNumber T (nI lo) (nI hi) = some (if NB b tl q lo hi then 1 else 0, T')) ∧ CT T' b tl q ∧ TX T' b tl ∧ (∀ k, k ≠ 2 ∧ k ≠ 7 ∧ k ≠ 8 ∧ k ≠ 9 → T'.2.1 5 k = T.2.1 5 k) := by
  obtain ⟨T', z1, z2⟩ := adv_v h ht hq h8
  obtain ⟨k1, k2, k3, k4, k5, k6⟩ := tok_le (b := b) hq
  have hF := fr_X9_advance z1
  refine ⟨T', ?_, z2, h.fr (hF.1 5 1 (fun z => z)) (hF.2.1 5 1 (by omega)), fun k hk => hF.2.1 5 k (by omega)⟩
  unfold m_X9_takesNumber
  rw [z1, Option.bind_some, z2.2.2.1]
  by_cases c : (tok b tl q).2.2.1 = 2
  · have c' : nI (tok b tl q).2.2.1 = 2 := by rw [c]; rfl
    rw [if_pos c', z2.2.2.2 c]
    by_cases c1 : (tok b tl q).2.2.2 < lo
    · rw [if_pos (nI_lt c1 (by omega)), if_neg (by omega)]
    · rw [if_neg (nI_nlt (by omega) (by omega))]
      by_cases c2 : hi < (tok b tl q).2.2.2
      · rw [if_pos (nI_lt c2 (by omega)), if_neg (by omega)]
      · rw [if_neg (nI_nlt (by omega) (by omega)), if_pos (by omega)]
  · have c' : ¬ nI (tok b tl q).2.2.1 = 2 := fun z => c ((nI_eq (b := 2) (by omega) (by decide)).mp z)
    rw [if_neg c', if_neg (fun z => c z.1)]
theorem ts_v {T : TT} {b : Nat → Nat} {tl q : Nat} (h : TX T b tl) (ht : tl ≤ 64) (hq : q ≤ tl) (h8 : T.2.1 5 8 = nI q) : ∃ T', (m_X9_takesStop T = some (if (tok b tl q).2.2.1 = 3 then 1 else 0, T')) ∧ CT T' b tl q ∧ TX T' b tl ∧ (∀ k, k ≠ 2 ∧ k ≠ 7 ∧ k ≠ 8 ∧ k ≠ 9 → T'.2.1 5 k = T.2.1 5 k) := by
  obtain ⟨T', z1, z2⟩ := adv_v h ht hq h8
  obtain ⟨k1, k2, k3, k4, k5, k6⟩ := tok_le (b := b) hq
  have hF := fr_X9_advance z1
  refine ⟨T', ?_, z2, h.fr (hF.1 5 1 (fun z => z)) (hF.2.1 5 1 (by omega)), fun k hk => hF.2.1 5 k (by omega)⟩
  unfold m_X9_takesStop
  rw [z1, Option.bind_some, z2.2.2.1]
  by_cases c : (tok b tl q).2.2.1 = 3
  · have c' : nI (tok b tl q).2.2.1 = 3 := by rw [c]; rfl
    rw [if_pos c', if_pos c]
  · have c' : ¬ nI (tok b tl q).2.2.1 = 3 := fun z => c ((nI_eq (b := 3) (by omega) (by decide)).mp z)
    rw [if_neg c', if_neg c]
/-- two numbers and a stop from q on: whether they stand there, where it goes on or where it fails, the two -/
def itm (b : Nat → Nat) (tl q lo1 hi1 hi2 : Nat) : Nat × Nat × Nat × Nat :=
  if NB b tl q lo1 hi1 then
    if NB b tl (tok b tl q).2.1 0 hi2 then
      if (tok b tl (tok b tl (tok b tl q).2.1).2.1).2.2.1 = 3 then (1, (tok b tl (tok b tl (tok b tl q).2.1).2.1).2.1, (tok b tl q).2.2.2, (tok b tl (tok b tl q).2.1).2.2.2)
      else (0, (tok b tl (tok b tl (tok b tl q).2.1).2.1).1, 0, 0)
    else (0, (tok b tl (tok b tl q).2.1).1, 0, 0)
  else (0, (tok b tl q).1, 0, 0)
theorem itm_le {b : Nat → Nat} {tl q lo1 hi1 hi2 : Nat} (hq : q ≤ tl) (h : (itm b tl q lo1 hi1 hi2).1 = 1) : q < (itm b tl q lo1 hi1 hi2).2.1 ∧ (itm b tl q lo1 hi1 hi2).2.1 ≤ tl ∧ lo1 ≤ (itm b tl q lo1 hi1 hi2).2.2.1 ∧ (itm b tl q lo1 hi1 hi2).2.2.1 ≤ hi1 ∧ (itm b tl q lo1 hi1 hi2).2.2.2 ≤ hi2 := by
  obtain ⟨a1, a2, a3, a4, a5, a6⟩ := tok_le (b := b) hq
  obtain ⟨b1, b2, b3, b4, b5, b6⟩ := tok_le (b := b) a3
  obtain ⟨c1, c2, c3, c4, c5, c6⟩ := tok_le (b := b) b3
  unfold itm at h ⊢
  by_cases x1 : NB b tl q lo1 hi1
  · rw [if_pos x1] at h ⊢
    by_cases x2 : NB b tl (tok b tl q).2.1 0 hi2
    · rw [if_pos x2] at h ⊢
      by_cases x3 : (tok b tl (tok b tl (tok b tl q).2.1).2.1).2.2.1 = 3
      · rw [if_pos x3] at h ⊢
        have y1 := a5 (by omega)
        exact ⟨by show q < (tok b tl (tok b tl (tok b tl q).2.1).2.1).2.1; omega, c3, x1.2.1, x1.2.2, x2.2.2⟩
      · rw [if_neg x3] at h
        exact absurd h Nat.zero_ne_one
    · rw [if_neg x2] at h
      exact absurd h Nat.zero_ne_one
  · rw [if_neg x1] at h
    exact absurd h Nat.zero_ne_one
theorem b109_v {T : TT} {b : Nat → Nat} {tl q lo1 hi1 hi2 : Nat} (h : TX T b tl) (ht : tl ≤ 64) (hq : q ≤ tl) (h8 : T.2.1 5 8 = nI (tok b tl q).2.1) (h5 : T.2.1 5 5 = nI (tok b tl q).2.2.2) (hhi : hi2 < 100) (x1 : NB b tl q lo1 hi1) : ∃ T', m_X9_takesItem_b109 T 0 (nI hi2) = some (nI (itm b tl q lo1 hi1 hi2).1, T') ∧ TX T' b tl ∧ T'.2.1 5 3 = T.2.1 5 3 ∧ T'.2.1 5 4 = T.2.1 5 4 ∧ ((itm b tl q lo1 hi1 hi2).1 = 0 → T'.2.1 5 2 = nI (itm b tl q lo1 hi1 hi2).2.1) ∧ ((itm b tl q lo1 hi1 hi2).1 = 1 → T'.2.1 5 8 = nI (itm b tl q lo1 hi1 hi2).2.1 ∧ T'.2.1 5 5 = nI (itm b tl q lo1 hi1 hi2).2.2.1 ∧ T'.2.1 5 6 = nI (itm b tl q lo1 hi1 hi2).2.2.2) := by
  obtain ⟨a1, a2, a3, a4, a5, a6⟩ := tok_le (b := b) hq
  obtain ⟨b1, b2, b3, b4, b5, b6⟩ := tok_le (b := b) a3
  obtain ⟨T1, z1, z2, z3, z4⟩ := tn_v h ht (q := (tok b tl q).2.1) (lo := 0) (hi := hi2) a3 h8 (by decide) hhi
  unfold m_X9_takesItem_b109 itm
  rw [show m_X9_takesNumber T 0 (nI hi2) = _ from z1, Option.bind_some, if_pos x1]
  by_cases x2 : NB b tl (tok b tl q).2.1 0 hi2
  · obtain ⟨T2, w1, w2, w3, w4⟩ := ts_v (T := sI T1 5 6 (nI (tok b tl (tok b tl q).2.1).2.2.2)) (z3.sI (by omega)) ht (q := (tok b tl (tok b tl q).2.1).2.1) b3 (by rw [sI_v, if_neg (by omega)]; exact z2.2.1)
    rw [if_pos x2, if_pos x2, if_neg i1n0, z2.2.2.2 x2.1, bT_v, w1, Option.bind_some]
    have f3 : T2.2.1 5 3 = T.2.1 5 3 := by rw [w4 3 (by decide), sI_v, if_neg (by omega), z4 3 (by decide)]
    have f4 : T2.2.1 5 4 = T.2.1 5 4 := by rw [w4 4 (by decide), sI_v, if_neg (by omega), z4 4 (by decide)]
    have f5 : T2.2.1 5 5 = T.2.1 5 5 := by rw [w4 5 (by decide), sI_v, if_neg (by omega), z4 5 (by decide)]
    have f6 : T2.2.1 5 6 = nI (tok b tl (tok b tl q).2.1).2.2.2 := by rw [w4 6 (by decide), sI_v, if_pos ⟨rfl, rfl⟩]
    by_cases x3 : (tok b tl (tok b tl (tok b tl q).2.1).2.1).2.2.1 = 3
    · rw [if_pos x3, if_pos x3, if_pos (Or.inr rfl)]
      exact ⟨T2, rfl, w3, f3, f4, fun z => absurd z Nat.one_ne_zero, fun _ => ⟨w2.2.1, by rw [f5]; exact h5, f6⟩⟩
    · rw [if_neg x3, if_neg x3, if_pos (Or.inl rfl)]
      exact ⟨T2, rfl, w3, f3, f4, fun _ => w2.1, fun z => absurd z Nat.zero_ne_one⟩
  · rw [if_neg x2, if_neg x2, if_pos rfl]
    exact ⟨T1, rfl, z3, z4 3 (by decide), z4 4 (by decide), fun _ => z2.1, fun z => absurd z Nat.zero_ne_one⟩
theorem b55_v {T : TT} {b : Nat → Nat} {tl q d lo1 hi1 hi2 : Nat} (hd : (d = 0 ∧ lo1 = 1 ∧ hi1 = 99 ∧ hi2 = 2) ∨ (d = 1 ∧ lo1 = 0 ∧ hi1 = 5 ∧ hi2 = 99)) (h : TX T b tl) (ht : tl ≤ 64) (hq : q ≤ tl) (h8 : T.2.1 5 8 = nI q) (h4 : T.2.1 5 4 = nI d) : ∃ T', m_X9_takesItem_b55 T = some (nI (itm b tl q lo1 hi1 hi2).1, T') ∧ TX T' b tl ∧ T'.2.1 5 3 = T.2.1 5 3 ∧ T'.2.1 5 4 = nI d ∧ ((itm b tl q lo1 hi1 hi2).1 = 0 → T'.2.1 5 2 = nI (itm b tl q lo1 hi1 hi2).2.1) ∧ ((itm b tl q lo1 hi1 hi2).1 = 1 → T'.2.1 5 8 = nI (itm b tl q lo1 hi1 hi2).2.1 ∧ T'.2.1 5 5 = nI (itm b tl q lo1 hi1 hi2).2.2.1 ∧ T'.2.1 5 6 = nI (itm b tl q lo1 hi1 hi2).2.2.2) := by
  obtain ⟨T1, z1, z2, z3, z4⟩ := tn_v h ht (q := q) (lo := lo1) (hi := hi1) hq h8 (by omega) (by omega)
  have e4 : T1.2.1 5 4 = nI d := by rw [z4 4 (by decide)]; exact h4
  have hu : m_X9_takesItem_b55 T = if NB b tl q lo1 hi1 then m_X9_takesItem_b86 T1 else some (0, T1) := by
    unfold m_X9_takesItem_b55
    rw [h4]
    rcases hd with ⟨rfl, rfl, rfl, rfl⟩ | ⟨rfl, rfl, rfl, rfl⟩
    · rw [if_pos (by decide), show m_X9_takesNumber T 1 99 = _ from z1, Option.bind_some]
      by_cases x1 : NB b tl q 1 99
      · rw [if_pos x1, if_pos x1, if_neg i1n0]
      · rw [if_neg x1, if_neg x1, if_pos rfl]
    · rw [if_neg (by decide), show m_X9_takesNumber T 0 5 = _ from z1, Option.bind_some]
      by_cases x1 : NB b tl q 0 5
      · rw [if_pos x1, if_pos x1, if_neg i1n0]
      · rw [if_neg x1, if_neg x1, if_pos rfl]
  rw [hu]
  by_cases x1 : NB b tl q lo1 hi1
  · rw [if_pos x1]
    obtain ⟨T2, w1, w2, w3, w4, w5⟩ := b109_v (T := sI T1 5 5 (nI (tok b tl q).2.2.2)) (hi2 := hi2) (z3.sI (by omega)) ht hq (by rw [sI_v, if_neg (by omega)]; exact z2.2.1) (by rw [sI_v, if_pos ⟨rfl, rfl⟩]) (by omega) x1
    refine ⟨T2, ?_, w2, by rw [w3, sI_v, if_neg (by omega), z4 3 (by decide)], by rw [w4, sI_v, if_neg (by omega)]; exact e4, w5⟩
    have e4' : (sI T1 5 5 (nI (tok b tl q).2.2.2)).2.1 5 4 = nI d := by rw [sI_v, if_neg (by omega)]; exact e4
    unfold m_X9_takesItem_b86
    rw [z2.2.2.2 x1.1, bT_v, e4']
    rcases hd with ⟨rfl, rfl, rfl, rfl⟩ | ⟨rfl, rfl, rfl, rfl⟩
    · rw [if_pos (by decide)]
      exact w1
    · rw [if_neg (by decide)]
      exact w1
  · rw [if_neg x1]
    unfold itm
    rw [if_neg x1]
    exact ⟨T1, rfl, z3, z4 3 (by decide), e4, fun _ => z2.1, fun z => absurd z Nat.zero_ne_one⟩
theorem ti_v {T : TT} {b : Nat → Nat} {tl p : Nat} {x1 : Int32} (h : TX T b tl) (ht : tl ≤ 64) (hp : p ≤ tl) (h8 : T.2.1 5 8 = nI p) : ∃ T5, TX T5 b tl ∧ CT T5 b tl p ∧ T5.2.1 5 3 = (if (tok b tl p).2.2.1 = 0 then 1 else 0) ∧ (WP b tl p 1 → T5.2.1 5 4 = nI 1 ∧ (x1 ≠ 0 → m_X9_takesItem T x1 = some (0, T5)) ∧ (x1 = 0 → m_X9_takesItem T x1 = m_X9_takesItem_b55 T5)) ∧ (¬ WP b tl p 1 → T5.2.1 5 4 = nI 0 ∧ (WP b tl p 2 → m_X9_takesItem T x1 = m_X9_takesItem_b55 T5) ∧ (¬ WP b tl p 2 → m_X9_takesItem T x1 = some (0, T5))) := by
  obtain ⟨T1, z1, z2⟩ := adv_v h ht hp h8
  obtain ⟨k1, k2, k3, k4, k5, k6⟩ := tok_le (b := b) hp
  have hF := fr_X9_advance z1
  have hX1 : TX T1 b tl := h.fr (hF.1 5 1 (fun z => z)) (hF.2.1 5 1 (by omega))
  have hu : ∃ s1 : Int32, s1 = (if (tok b tl p).2.2.1 = 0 then 1 else 0) ∧ m_X9_takesItem T x1 = m_X9_takesItem_b17 T1 x1 s1 := by
    unfold m_X9_takesItem
    rw [z1, Option.bind_some, z2.2.2.1]
    by_cases c : (tok b tl p).2.2.1 = 0
    · have c' : nI (tok b tl p).2.2.1 = 0 := by rw [c]; rfl
      exact ⟨1, by rw [if_pos c], by rw [if_pos c']⟩
    · have c' : ¬ nI (tok b tl p).2.2.1 = 0 := nI_ne0 (by omega) (by omega)
      exact ⟨0, by rw [if_neg c], by rw [if_neg c']⟩
  obtain ⟨s1, hs1, hu⟩ := hu
  have hs01 : s1 = 0 ∨ s1 = 1 := by
    rw [hs1]
    by_cases c : (tok b tl p).2.2.1 = 0
    · rw [if_pos c]; exact Or.inr rfl
    · rw [if_neg c]; exact Or.inl rfl
  have hX3 : TX (sI T1 5 3 s1) b tl := hX1.sI (by omega)
  have hC3 : CT (sI T1 5 3 s1) b tl p := z2.sI (by decide)
  obtain ⟨i1, i2⟩ := isW_t hX3 ht (w := 1) (by decide) hp hC3
  rw [hu]
  unfold m_X9_takesItem_b17
  rw [if_pos hs01, bT_v]
  by_cases c : WP b tl p 1
  · rw [i1 c, Option.bind_some, if_pos (Or.inr rfl), bT_v]
    have e4 : (sI (sI T1 5 3 s1) 5 4 1).2.1 5 4 = 1 := by rw [sI_v, if_pos ⟨rfl, rfl⟩]
    refine ⟨sI (sI T1 5 3 s1) 5 4 1, hX3.sI (by omega), hC3.sI (by decide), by rw [sI_v, if_neg (by omega), sI_v, if_pos ⟨rfl, rfl⟩]; exact hs1, fun _ => ⟨e4, fun q => ?_, fun q => ?_⟩, fun q => absurd c q⟩
    · rw [e4, if_neg (by decide), if_neg q]
    · rw [e4, if_neg (by decide), if_pos q]
  · rw [i2 c, Option.bind_some, if_pos (Or.inl rfl), bT_v]
    have e4 : (sI (sI T1 5 3 s1) 5 4 0).2.1 5 4 = 0 := by rw [sI_v, if_pos ⟨rfl, rfl⟩]
    obtain ⟨j1, j2⟩ := isW_t (T := sI (sI T1 5 3 s1) 5 4 0) (hX3.sI (by omega)) ht (w := 2) (by decide) hp (hC3.sI (by decide))
    refine ⟨sI (sI T1 5 3 s1) 5 4 0, hX3.sI (by omega), hC3.sI (by decide), by rw [sI_v, if_neg (by omega), sI_v, if_pos ⟨rfl, rfl⟩]; exact hs1, fun q => absurd q c, fun _ => ⟨e4, fun q => ?_, fun q => ?_⟩⟩
    · rw [e4, if_pos rfl, j1 q, Option.bind_some, if_neg (by decide)]
    · rw [e4, if_pos rfl, j2 q, Option.bind_some, if_pos rfl]
