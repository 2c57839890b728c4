/-! two on one rank -/
def wtF (k s g r o : Nat) : Int32 := if r = 0 then (if o = 0 then nI (rF k s g) / 2 else nI (rF k s g)) else nI (lF k 2 g) - nI (lF k 0 g)
theorem wt_c {T : TT} {sz i k g dy r o : Nat} (hs : sz ≤ 6) (hi : i < sz) (h7 : T.2.1 0 7 = nI sz) (h8 : T.2.1 0 8 = nI dy) (hd : dy < 2 ^ 31) (hk : k < 6) (hg : g < 100) (k1 : T.1 0 2 i = nI k) (g1 : T.1 0 3 i = nI g) (hr : r < 2) (ho : o < 2) : m_X10_worthToday T (nI i) (nI r) (nI o) = some (wtF k (dy / 20 % 4) g r o) := by
  unfold m_X10_worthToday wtF
  have ks : kn (0, 8 + k).1 (0, 8 + k).2 = k := kn0 k
  rw [kind_c h7 hs hi k1 hk, Option.bind_some, if_pos (inb_n (by omega) (by decide)), bT_v, cl_n (by omega), g1]
  rcases (show r = 0 ∨ r = 1 by omega) with rfl | rfl
  · rw [if_pos (by decide), h8, sea_v hd, Option.bind_some, runs_v ks hk (Nat.mod_lt _ (by decide)) hg, Option.bind_some, if_pos rfl]
    rcases (show o = 0 ∨ o = 1 by omega) with rfl | rfl
    · rw [if_pos (by decide), if_pos rfl]
    · rw [if_neg (by decide), if_neg (by decide)]
  · rw [if_neg (by decide), show v_left (0, 8 + k) 2 (nI g) = _ from left_v (c := 2) ks hk (by decide) hg, Option.bind_some, show v_left (0, 8 + k) 0 (nI g) = _ from left_v (c := 0) ks hk (by decide) hg, Option.bind_some, if_neg (by decide)]
theorem wt_m {T : TT} {i k g dy r o : Nat} (hi : i < 6) (h16 : T.1 10 1 16 = nI dy) (hd : dy < 2 ^ 31) (hk : k < 6) (hg : g < 100) (k2 : T.1 10 1 (17 + i) = nI k) (g2 : T.1 10 1 (4 + i) = nI g) (hr : r < 2) (ho : o < 2) : m_X11_getsBy T (nI i) (nI r) (nI o) = some (wtF k (dy / 20 % 4) g r o) := by
  unfold m_X11_getsBy wtF
  have e4 : (4 : Int32) + nI i = nI (4 + i) := ad_n 4 i
  rw [e4, if_pos (inb_n (by omega) (by decide)), bT_v, cl_n (by omega), g2, kind_m hi, Option.bind_some, k2, h16, sea_m hd, Option.bind_some, rF_m k hk _ (Nat.mod_lt _ (by decide)) g hg, Option.bind_some]
  rcases (show r = 0 ∨ r = 1 by omega) with rfl | rfl
  · rw [if_pos (by decide), if_pos rfl]
    rcases (show o = 0 ∨ o = 1 by omega) with rfl | rfl
    · rw [if_pos (by decide), if_pos rfl]
    · rw [if_neg (by decide), if_neg (by decide)]
  · rw [if_neg (by decide), Option.bind_some, show m_X11_leftAs (nI k) (nI g) 2 = _ from lF_m k hk 2 (by decide) g hg, Option.bind_some, Option.bind_some, show m_X11_leftAs (nI k) (nI g) 0 = _ from lF_m k hk 0 (by decide) g hg, Option.bind_some, if_neg (by decide)]
theorem ct_c {T : TT} {i r o : Nat} (W : Nat → Nat → Int32) (hW : ∀ r o, r < 2 → o < 2 → m_X10_worthToday T (nI i) (nI r) (nI o) = some (W r o)) (hr : r < 2) (ho : o < 2) : m_X10_isContent T (nI i) (nI r) (nI o) = some (if W r o < W (1 - r) o then 0 else 1) := by
  unfold m_X10_isContent m_X10_isContent_b18
  rw [hW r o hr ho, Option.bind_some]
  rcases (show r = 0 ∨ r = 1 by omega) with rfl | rfl
  · rw [if_pos (by decide), show m_X10_worthToday T (nI i) 1 (nI o) = _ from hW 1 o (by decide) ho, Option.bind_some]
    by_cases h : W 0 o < W (1 - 0) o
    · rw [if_pos h, if_pos h]
    · rw [if_neg h, if_neg h]
  · rw [if_neg (by decide), show m_X10_worthToday T (nI i) 0 (nI o) = _ from hW 0 o (by decide) ho, Option.bind_some]
    by_cases h : W 1 o < W (1 - 1) o
    · rw [if_pos h, if_pos h]
    · rw [if_neg h, if_neg h]
def faF (A B : Nat → Nat → Int32) : Nat → Int32
  | 0 => 0
  | p + 1 => if A (p % 2) (p / 2) < A (1 - p % 2) (p / 2) then faF A B p else if B (p / 2) (p % 2) < B (1 - p / 2) (p % 2) then faF A B p else faF A B p ||| ((1 : Int32) <<< (nI p &&& 31))
theorem faF_s (A B : Nat → Nat → Int32) (p : Nat) : faF A B (p + 1) = if A (p % 2) (p / 2) < A (1 - p % 2) (p / 2) then faF A B p else if B (p / 2) (p % 2) < B (1 - p / 2) (p % 2) then faF A B p else faF A B p ||| ((1 : Int32) <<< (nI p &&& 31)) := rfl
theorem an1 : ∀ p, p < 4 → (nI p &&& 1 = 0 ↔ p % 2 = 0) ∧ (nI p &&& 2 = 0 ↔ p / 2 = 0) := by decide +kernel
theorem ha1 : ∀ p, p < 4 → m_X11_has (nI p) 0 = some (nI (p % 2)) ∧ m_X11_has (nI p) 1 = some (nI (p / 2)) := by decide +kernel
theorem fa_c {T : TT} {i j : Nat} (A B : Nat → Nat → Int32) (hA : ∀ r o, r < 2 → o < 2 → m_X10_worthToday T (nI i) (nI r) (nI o) = some (A r o)) (hB : ∀ r o, r < 2 → o < 2 → m_X10_worthToday T (nI j) (nI r) (nI o) = some (B r o)) : ∀ (q p n : Nat), p + q = 4 → q < n → m_X10_fares_l39 n T (nI i) (nI j) (faF A B p) (nI p) = some (faF A B 4, T) := by
  intro q
  induction q with
  | zero =>
    intro p n hp hn
    obtain ⟨n, rfl⟩ : ∃ q, n = q + 1 := ⟨n - 1, by omega⟩
    have hp : p = 4 := by omega
    subst hp
    show m_X10_fares_h39 _ _ _ _ _ _ = _
    unfold m_X10_fares_h39
    rw [if_pos (by decide)]
  | succ q ih =>
    intro p n hp hn
    obtain ⟨n, rfl⟩ : ∃ q, n = q + 1 := ⟨n - 1, by omega⟩
    have hI := ih (p + 1) n (by omega) (by omega)
    have h4 : ¬ (4 : Int32) ≤ nI p := nI_ge (b := 4) (by omega) (by decide)
    have e : m_X10_fares_h39 (m_X10_fares_l39 n) T (nI i) (nI j) (faF A B p) (nI p) = m_X10_fares_b71 (m_X10_fares_l39 n) T (nI i) (nI j) (faF A B p) (nI p) (nI (p % 2)) (nI (p / 2)) := by
      unfold m_X10_fares_h39
      obtain ⟨a1, a2⟩ := an1 p (by omega)
      rw [if_neg h4]
      have e57 : ∀ s0, m_X10_fares_b57 (m_X10_fares_l39 n) T (nI i) (nI j) (faF A B p) (nI p) s0 = m_X10_fares_b71 (m_X10_fares_l39 n) T (nI i) (nI j) (faF A B p) (nI p) s0 (nI (p / 2)) := fun s0 => by
        unfold m_X10_fares_b57
        by_cases h2 : p / 2 = 0
        · rw [if_pos (a2.mpr h2), h2]; rfl
        · rw [if_neg (fun z => h2 (a2.mp z)), show p / 2 = 1 by omega]; rfl
      by_cases h2 : p % 2 = 0
      · rw [if_pos (a1.mpr h2), e57, h2]; rfl
      · rw [if_neg (fun z => h2 (a1.mp z)), e57, show p % 2 = 1 by omega]; rfl
    refine Eq.trans (show m_X10_fares_l39 (n + 1) T (nI i) (nI j) (faF A B p) (nI p) = _ from e) ?_
    unfold m_X10_fares_b71 m_X10_fares_b104
    rw [ct_c A hA (by omega) (by omega), Option.bind_some]
    rw [faF_s] at hI
    by_cases h1 : A (p % 2) (p / 2) < A (1 - p % 2) (p / 2)
    · rw [if_pos h1, if_pos rfl, bT_v, nI_1]
      rw [if_pos h1] at hI
      exact hI
    · rw [if_neg h1, if_neg (by decide), ct_c B hB (by omega) (by omega), Option.bind_some]
      rw [if_neg h1] at hI
      by_cases h2 : B (p / 2) (p % 2) < B (1 - p / 2) (p % 2)
      · rw [if_pos h2, if_pos rfl, bT_v, nI_1]
        rw [if_pos h2] at hI
        exact hI
      · rw [if_neg h2, if_neg (by decide), bT_v, bT_v, nI_1]
        rw [if_neg h2] at hI
        exact hI
theorem fa_m {T : TT} {i j : Nat} (A B : Nat → Nat → Int32) (hA : ∀ r o, r < 2 → o < 2 → m_X11_getsBy T (nI i) (nI r) (nI o) = some (A r o)) (hB : ∀ r o, r < 2 → o < 2 → m_X11_getsBy T (nI j) (nI r) (nI o) = some (B r o)) : ∀ (q p n : Nat), p + q = 4 → q < n → m_X11_fares_l33 n T (nI i) (nI j) (faF A B p) (nI p) = some (faF A B 4, T) := by
  intro q
  induction q with
  | zero =>
    intro p n hp hn
    obtain ⟨n, rfl⟩ : ∃ q, n = q + 1 := ⟨n - 1, by omega⟩
    have hp : p = 4 := by omega
    subst hp
    show m_X11_fares_h33 _ _ _ _ _ _ = _
    unfold m_X11_fares_h33
    rw [if_pos (by decide)]
  | succ q ih =>
    intro p n hp hn
    obtain ⟨n, rfl⟩ : ∃ q, n = q + 1 := ⟨n - 1, by omega⟩
    have hI := ih (p + 1) n (by omega) (by omega)
    have h4 : ¬ (4 : Int32) ≤ nI p := nI_ge (b := 4) (by omega) (by decide)
    have flip : ∀ r, r < 2 → (if nI r = 0 then (1 : Int32) else 0) = nI (1 - r) := by decide
    have e : m_X11_fares_h33 (m_X11_fares_l33 n) T (nI i) (nI j) (faF A B p) (nI p) = m_X11_fares_b76 (m_X11_fares_l33 n) T (nI i) (nI j) (faF A B p) (nI p) (nI (p % 2)) (nI (p / 2)) (A (p % 2) (p / 2)) (nI i) (nI (1 - p % 2)) := by
      unfold m_X11_fares_h33
      obtain ⟨a1, a2⟩ := ha1 p (by omega)
      rw [if_neg h4, a1, Option.bind_some, a2, Option.bind_some, hA _ _ (by omega) (by omega), Option.bind_some]
      by_cases h2 : p % 2 = 0
      · rw [h2, if_pos (by decide)]; rfl
      · rw [show p % 2 = 1 by omega, if_neg (by decide)]; rfl
    refine Eq.trans (show m_X11_fares_l33 (n + 1) T (nI i) (nI j) (faF A B p) (nI p) = _ from e) ?_
    unfold m_X11_fares_b76
    rw [hA _ _ (by omega) (by omega), Option.bind_some]
    rw [faF_s] at hI
    by_cases h1 : A (p % 2) (p / 2) < A (1 - p % 2) (p / 2)
    · rw [if_pos h1]
      unfold m_X11_fares_b117 m_X11_fares_b118 m_X11_fares_b134
      rw [if_pos rfl, bT_v, bT_v, nI_1, Int32.or_zero]
      rw [if_pos h1] at hI
      exact hI
    · rw [if_neg h1, hB _ _ (by omega) (by omega), Option.bind_some]
      rw [if_neg h1] at hI
      have e2 : (if nI (p / 2) = 0 then m_X11_fares_b105 (m_X11_fares_l33 n) T (nI i) (nI j) (faF A B p) (nI p) (nI (p % 2)) (B (p / 2) (p % 2)) (nI j) 1 else m_X11_fares_b105 (m_X11_fares_l33 n) T (nI i) (nI j) (faF A B p) (nI p) (nI (p % 2)) (B (p / 2) (p % 2)) (nI j) 0) = m_X11_fares_b105 (m_X11_fares_l33 n) T (nI i) (nI j) (faF A B p) (nI p) (nI (p % 2)) (B (p / 2) (p % 2)) (nI j) (nI (1 - p / 2)) := by
        by_cases h2 : p / 2 = 0
        · rw [h2, if_pos (by decide)]; rfl
        · rw [show p / 2 = 1 by omega, if_neg (by decide)]; rfl
      rw [e2]
      unfold m_X11_fares_b105
      rw [hB _ _ (by omega) (by omega), Option.bind_some]
      by_cases h2 : B (p / 2) (p % 2) < B (1 - p / 2) (p % 2)
      · rw [if_pos h2]
        unfold m_X11_fares_b117 m_X11_fares_b118 m_X11_fares_b134
        rw [if_pos rfl, bT_v, bT_v, nI_1, Int32.or_zero]
        rw [if_pos h2] at hI
        exact hI
      · rw [if_neg h2]
        unfold m_X11_fares_b118 m_X11_fares_b134
        rw [if_neg (by decide), bT_v, bT_v, nI_1]
        rw [if_neg h2] at hI
        exact hI
theorem op_fares {n : Nat} {T : TT} (hn : n < 64) (h : Inv n T) (x y : Int32) : Op n (m_X10_fares T x y) (fun T => m_X11_fares T x y) := by
  obtain ⟨sz, nc, tc, uc, dy, hR⟩ := h.t0
  have hsz := hR.1.1
  have hbad : ∀ (e1 : m_X10_fares T x y = some (-2, rfs T 0)) (e2 : m_X11_fares (rfs T 0) x y = some (-2, rfm (rfs T 0) 0)), Op n (m_X10_fares T x y) (fun T => m_X11_fares T x y) := fun e1 e2 => Op.of e1 e2 (h.refuse hn (by decide))
  have h0 : (rfs T 0).1 10 1 0 = nI sz := by rw [rfs_told]; exact hR.2.2.1.1
  rcases ixd x sz hsz with hb | ⟨i, hi, rfl⟩
  · refine hbad ?_ ?_
    · unfold m_X10_fares
      rw [has_bad hR.2.1.1 hb]
      rfl
    · unfold m_X11_fares
      rw [dr_bad h0 hsz hb]
      rfl
  rcases ixd y sz hsz with hb | ⟨j, hj, rfl⟩
  · refine hbad ?_ ?_
    · unfold m_X10_fares
      rw [has_ok hR.2.1.1 hsz hi, Option.bind_some, if_neg (by decide), has_bad hR.2.1.1 hb]
      rfl
    · unfold m_X11_fares
      rw [dr_ok h0 hsz hi, Option.bind_some, if_neg (by decide), dr_bad h0 hsz hb]
      rfl
  by_cases hij : nI i = nI j
  · refine hbad ?_ ?_
    · unfold m_X10_fares
      rw [has_ok hR.2.1.1 hsz hi, Option.bind_some, if_neg (by decide), has_ok hR.2.1.1 hsz hj, Option.bind_some, if_neg (by decide), if_pos hij]
      rfl
    · unfold m_X11_fares
      rw [dr_ok h0 hsz hi, Option.bind_some, if_neg (by decide), dr_ok h0 hsz hj, Option.bind_some, if_neg (by decide), if_pos hij]
      rfl
  have hdy : dy < 2 ^ 31 := by have := hR.1.2.2.2.2; have := h.1; omega
  obtain ⟨⟨k, hk, k1, k2⟩, ⟨g, hg, g1, g2⟩, -⟩ := hR.2.2.2.1 i hi
  obtain ⟨⟨k', hk', k1', k2'⟩, ⟨g', hg', g1', g2'⟩, -⟩ := hR.2.2.2.1 j hj
  have q1 := fa_c (T := T) (i := i) (j := j) (wtF k (dy / 20 % 4) g) (wtF k' (dy / 20 % 4) g') (fun r o hr ho => wt_c hsz hi hR.2.1.1 hR.2.1.2.1 hdy hk hg k1 g1 hr ho) (fun r o hr ho => wt_c hsz hj hR.2.1.1 hR.2.1.2.1 hdy hk' hg' k1' g1' hr ho) 4 0 FU (by omega) (FU_lt (by omega))
  have q2 := fa_m (T := T) (i := i) (j := j) (wtF k (dy / 20 % 4) g) (wtF k' (dy / 20 % 4) g') (fun r o hr ho => wt_m (by omega) hR.2.2.1.2.1 hdy hk hg k2 g2 hr ho) (fun r o hr ho => wt_m (by omega) hR.2.2.1.2.1 hdy hk' hg' k2' g2' hr ho) 4 0 FU (by omega) (FU_lt (by omega))
  have q1' : m_X10_fares_l39 FU T (nI i) (nI j) 0 0 = some (faF (wtF k (dy / 20 % 4) g) (wtF k' (dy / 20 % 4) g') 4, T) := q1
  have q2' : m_X11_fares_l33 FU T (nI i) (nI j) 0 0 = some (faF (wtF k (dy / 20 % 4) g) (wtF k' (dy / 20 % 4) g') 4, T) := q2
  generalize faF (wtF k (dy / 20 % 4) g) (wtF k' (dy / 20 % 4) g') 4 = r at q1' q2'
  refine Op.of (r := r) (T1 := T) (T2 := T) ?_ ?_ (h.keep hn Fr.rf)
  · unfold m_X10_fares
    rw [has_ok hR.2.1.1 hsz hi, Option.bind_some, if_neg (by decide), has_ok hR.2.1.1 hsz hj, Option.bind_some, if_neg (by decide), if_neg hij]
    exact q1'
  · show m_X11_fares _ _ _ = _
    unfold m_X11_fares
    rw [dr_ok hR.2.2.1.1 hsz hi, Option.bind_some, if_neg (by decide), dr_ok hR.2.2.1.1 hsz hj, Option.bind_some, if_neg (by decide), if_neg hij]
    exact q2'
