/-! sums; days gone by on griefs at hand -/
def sm (φ : Nat → Int32) : Nat → Int32
  | 0 => 0
  | m + 1 => sm φ m + φ m
theorem sm_congr {φ ψ : Nat → Int32} : ∀ m : Nat, (∀ j, j < m → φ j = ψ j) → sm φ m = sm ψ m
  | 0, _ => rfl
  | m + 1, h => by
    show sm φ m + φ m = sm ψ m + ψ m
    rw [sm_congr m (fun j hj => h j (by omega)), h m (by omega)]
theorem FU_lt {m : Nat} (h : m < 1000000) : m < FU := h
theorem sumOf_l (T : TT) (g ag af sz : Nat) (hs : sz ≤ 6) (h7 : T.2.1 g 7 = nI sz) : ∀ (m j n : Nat), j + m = sz → m < n → m_X4_sumOf_l4 T g ag af 6 n (sm (T.1 ag af) j) (nI j) = some (sm (T.1 ag af) sz) := by
  intro m
  induction m with
  | zero =>
    intro j n hj hn
    obtain ⟨n, rfl⟩ : ∃ q, n = q + 1 := ⟨n - 1, by omega⟩
    show m_X4_sumOf_h4 _ _ _ _ _ _ _ _ = _
    unfold m_X4_sumOf_h4
    have hj : j = sz := by omega
    subst hj
    rw [h7, if_pos (nI_le (Nat.le_refl _) (by omega))]
  | succ m ih =>
    intro j n hj hn
    obtain ⟨n, rfl⟩ : ∃ q, n = q + 1 := ⟨n - 1, by omega⟩
    show m_X4_sumOf_h4 _ _ _ _ _ _ _ _ = _
    unfold m_X4_sumOf_h4
    have h6 : ¬ Int32.ofNat 6 ≤ nI j := nI_ge (b := 6) (by omega) (by decide)
    rw [h7, if_neg (nI_ge (by omega) (by omega)), if_neg h6, if_pos (inb_n (by omega) (by decide)), cl_n (by omega), bT_v, bT_v, nI_1]
    exact ih (j + 1) n (by omega) (by omega)
theorem sumOf_v {T : TT} {g ag af sz : Nat} (hs : sz ≤ 6) (h7 : T.2.1 g 7 = nI sz) : m_X4_sumOf T g ag af 6 = some (sm (T.1 ag af) sz) := sumOf_l T g ag af sz hs h7 sz 0 FU (by omega) (FU_lt (by omega))
theorem allOf_l (T : TT) (o sz : Nat) (ho : o < 100) (hs : sz ≤ 6) (h0 : T.1 10 1 0 = nI sz) : ∀ (m j n : Nat), j + m = sz → m < n → m_X11_allOf_l4 T n (nI o) (sm (fun i => T.1 10 1 (o + i)) j) (nI j) = some (sm (fun i => T.1 10 1 (o + i)) sz) := by
  intro m
  induction m with
  | zero =>
    intro j n hj hn
    obtain ⟨n, rfl⟩ : ∃ q, n = q + 1 := ⟨n - 1, by omega⟩
    show m_X11_allOf_h4 _ _ _ _ _ = _
    unfold m_X11_allOf_h4 m_X11_many
    have hj : j = sz := by omega
    subst hj
    rw [Option.bind_some, h0, if_pos (nI_le (Nat.le_refl _) (by omega))]
  | succ m ih =>
    intro j n hj hn
    obtain ⟨n, rfl⟩ : ∃ q, n = q + 1 := ⟨n - 1, by omega⟩
    show m_X11_allOf_h4 _ _ _ _ _ = _
    unfold m_X11_allOf_h4 m_X11_many
    rw [Option.bind_some, h0, if_neg (nI_ge (by omega) (by omega)), ad_n, if_pos (inb_n (by omega) (by decide)), cl_n (by omega), bT_v, bT_v, nI_1]
    exact ih (j + 1) n (by omega) (by omega)
theorem allOf_v {T : TT} {o sz : Nat} (ho : o < 100) (hs : sz ≤ 6) (h0 : T.1 10 1 0 = nI sz) : m_X11_allOf T (nI o) = some (sm (fun i => T.1 10 1 (o + i)) sz) := allOf_l T o sz ho hs h0 sz 0 FU (by omega) (FU_lt (by omega))
/-- count(k) -/
theorem count_c {n : Nat} {T : TT} (h : Inv n T) (k : Nat) (hk : k ≤ 7) : ∃ r : Int32, m_X10_count T (nI k) = some (r, T) ∧ m_X11_counted T (nI k) = some r := by
  obtain ⟨sz, nc, tc, uc, dy, hR⟩ := h.t0
  obtain ⟨tl, t1, t2, t3, t4⟩ := h.2.2.2.1
  have hsz := hR.1.1
  unfold m_X10_count m_X11_counted
  rcases (show k = 0 ∨ k = 1 ∨ k = 2 ∨ k = 3 ∨ k = 4 ∨ k = 5 ∨ k = 6 ∨ k = 7 by omega) with rfl | rfl | rfl | rfl | rfl | rfl | rfl | rfl
  · exact ⟨nI sz, by rw [if_pos (by decide), hR.2.1.1], by rw [if_pos (by decide)]; unfold m_X11_many; rw [hR.2.2.1.1]; rfl⟩
  · exact ⟨nI dy, by rw [if_neg (by decide), if_pos (by decide), hR.2.1.2.1], by rw [if_neg (by decide), if_pos (by decide), hR.2.2.1.2.1]⟩
  · refine ⟨sm (T.1 0 3) sz, by rw [if_neg (by decide), if_neg (by decide), if_pos (by decide), sumOf_v hsz hR.2.1.1]; rfl, ?_⟩
    rw [if_neg (by decide), if_neg (by decide), if_pos (by decide), show m_X11_allOf T 4 = _ from allOf_v (o := 4) (by decide) hsz hR.2.2.1.1, Option.bind_some]
    refine congrArg some (sm_congr sz (fun j hj => ?_)).symm
    obtain ⟨-, ⟨g, -, g1, g2⟩, -⟩ := hR.2.2.2.1 j hj
    rw [g1, g2]
  · refine ⟨sm (T.1 0 4) sz, by rw [if_neg (by decide), if_neg (by decide), if_neg (by decide), if_pos (by decide), sumOf_v hsz hR.2.1.1]; rfl, ?_⟩
    rw [if_neg (by decide), if_neg (by decide), if_neg (by decide), if_pos (by decide), show m_X11_allOf T 10 = _ from allOf_v (o := 10) (by decide) hsz hR.2.2.1.1, Option.bind_some]
    exact congrArg some (sm_congr sz (fun j hj => (hR.2.2.2.1 j hj).2.2)).symm
  · exact ⟨nI nc, by rw [if_neg (by decide), if_neg (by decide), if_neg (by decide), if_neg (by decide), if_pos (by decide), hR.2.1.2.2.1], by rw [if_neg (by decide), if_neg (by decide), if_neg (by decide), if_neg (by decide), if_pos (by decide), hR.2.2.1.2.2.1]⟩
  · exact ⟨nI tc, by rw [if_neg (by decide), if_neg (by decide), if_neg (by decide), if_neg (by decide), if_neg (by decide), if_pos (by decide), hR.2.1.2.2.2.1], by rw [if_neg (by decide), if_neg (by decide), if_neg (by decide), if_neg (by decide), if_neg (by decide), if_pos (by decide), hR.2.2.1.2.2.2.1]⟩
  · exact ⟨nI uc, by rw [if_neg (by decide), if_neg (by decide), if_neg (by decide), if_neg (by decide), if_neg (by decide), if_neg (by decide), if_pos (by decide), hR.2.1.2.2.2.2], by rw [if_neg (by decide), if_neg (by decide), if_neg (by decide), if_neg (by decide), if_neg (by decide), if_neg (by decide), if_pos (by decide), hR.2.2.1.2.2.2.2]⟩
  · exact ⟨nI tl, by rw [if_neg (by decide), if_neg (by decide), if_neg (by decide), if_neg (by decide), if_neg (by decide), if_neg (by decide), if_neg (by decide), if_pos (by decide), t2], by rw [if_neg (by decide), if_neg (by decide), if_neg (by decide), if_neg (by decide), if_neg (by decide), if_neg (by decide), if_neg (by decide), t3]⟩
theorem op_count {n : Nat} {T : TT} (hn : n < 64) (h : Inv n T) (x : Int32) : Op n (m_X10_count T x) (fun T => m_X11_count T x) := by
  rcases rng x 0 7 (by decide) (by decide) with hb | ⟨k, -, hk, rfl⟩
  · refine Op.of (r := -2) (T1 := rfs T 0) (T2 := rfm (rfs T 0) 0) ?_ ?_ (h.refuse hn (by decide))
    · unfold m_X10_count
      have hne : ∀ q, q ≤ 7 → ¬ x = nI q := fun q hq e => by
        subst e
        exact nI_rng (Nat.zero_le q) hq (by decide) hb
      rw [if_neg (show ¬ x = 0 from hne 0 (by decide)), if_neg (show ¬ x = 1 from hne 1 (by decide)), if_neg (show ¬ x = 2 from hne 2 (by decide)), if_neg (show ¬ x = 3 from hne 3 (by decide)), if_neg (show ¬ x = 4 from hne 4 (by decide)), if_neg (show ¬ x = 5 from hne 5 (by decide)), if_neg (show ¬ x = 6 from hne 6 (by decide)), if_neg (show ¬ x = 7 from hne 7 (by decide))]
      rfl
    · show m_X11_count _ _ = _
      unfold m_X11_count
      rw [in_bad (lo := nI 0) (hi := nI 7) (by decide) (by decide) hb]
      rfl
  · obtain ⟨r, e1, e2⟩ := count_c h k hk
    refine Op.of e1 ?_ (h.keep hn Fr.rf)
    show m_X11_count _ _ = _
    unfold m_X11_count
    rw [in_ok (lo := nI 0) (hi := nI 7) (by decide) (by decide) (nI_rng (Nat.zero_le k) hk (by decide)), Option.bind_some, if_neg (by decide), e2]
    rfl
/-- the reference's day of one: by kind k, day d, what it does c, grief n -/
def goF (T : TT) (k d c n : Nat) : TT := sI (sI T 10 7 (T.2.1 10 7 + nI (if c = 0 then rF k (d / 20 % 4) n else 0))) 10 6 (nI (lF k c n))
theorem goDay_v {T : TT} {k d c n : Nat} (hk : k < 6) (hd : d < 2 ^ 31) (hc : c < 3) (hn : n < 100) (h6 : T.2.1 10 6 = nI n) : m_X11_goDay T (nI k) (nI d) (nI c) = some (goF T k d c n) := by
  unfold m_X11_goDay m_X11_goDay_b25 goF
  by_cases c0 : c = 0
  · subst c0
    rw [if_pos (by decide), sea_m hd, Option.bind_some, h6, rF_m k hk _ (Nat.mod_lt _ (by decide)) n hn, Option.bind_some, bT_v, sI_v, if_neg (by omega), h6, lF_m k hk 0 (by decide) n hn, Option.bind_some, bT_v]
    rfl
  · have : ¬ nI c = 0 := fun e => c0 ((nI_eq (a := c) (b := 0) (by omega) (by decide)).mp e)
    rw [if_neg this, bT_v, sI_v, if_neg (by omega), h6, lF_m k hk c hc n hn, Option.bind_some, bT_v, if_neg c0]
    rfl
theorem goF_6 (T : TT) (k d c n : Nat) : (goF T k d c n).2.1 10 6 = nI (lF k c n) := by unfold goF; rw [sI_v, if_pos ⟨rfl, rfl⟩]
theorem goF_7 (T : TT) (k d c n : Nat) : (goF T k d c n).2.1 10 7 = T.2.1 10 7 + nI (if c = 0 then rF k (d / 20 % 4) n else 0) := by unfold goF; rw [sI_v, if_neg (by omega), sI_v, if_pos ⟨rfl, rfl⟩]
theorem goF_1 (T : TT) (k d c n : Nat) : (goF T k d c n).1 = T.1 := rfl
theorem goF_sc (T : TT) (k d c n : Nat) : Sc T (goF T k d c n) := (Fr.rf.wI rfl (by simp [SCI])).wI rfl (by simp [SCI])
/-- grief behind m days of c; miles of them from day d on -/
def gIt (k c n : Nat) : Nat → Nat
  | 0 => n
  | m + 1 => lF k c (gIt k c n m)
def sIt (k d c n : Nat) : Nat → Int32
  | 0 => 0
  | m + 1 => sIt k d c n m + nI (if c = 0 then rF k ((d + m) / 20 % 4) (gIt k c n m) else 0)
theorem gIt_lt {k c n : Nat} (hk : k < 6) (hc : c < 3) (hn : n < 100) : ∀ m, gIt k c n m < 100
  | 0 => hn
  | m + 1 => lF_lt k hk c hc _ (gIt_lt hk hc hn m)
theorem over_c (T : TT) (h : Nat × Nat) (k n : Nat) (hh : kn h.1 h.2 = k) (hk : k < 6) (hn : n < 100) : ∀ (m d f : Nat), d + m = 100 → m < f → ∃ r, m_X10_over_l40 f T h (nI (gIt k 0 n d)) (nI d) = some (r, T) ∧ ∀ (T2 : TT) (i dy q : Nat), i < 6 → dy < 100000 → T2.1 10 1 (17 + i) = nI k → T2.1 10 1 16 = nI dy → T2.2.1 10 6 = nI (gIt k 0 n d) → m < q → ∃ T3, m_X11_over_l22 q T2 (nI i) (nI d) = some (r, T3) ∧ Sc T2 T3 := by
  intro m
  induction m with
  | zero =>
    intro d f hd hf
    obtain ⟨f, rfl⟩ : ∃ q, f = q + 1 := ⟨f - 1, by omega⟩
    have hd : d = 100 := by omega
    subst hd
    refine ⟨-1, ?_, fun T2 i dy q hi hdy e1 e2 e3 hq => ?_⟩
    · show m_X10_over_h40 _ _ _ _ _ = _
      unfold m_X10_over_h40
      rw [if_pos (by decide)]
    · obtain ⟨q, rfl⟩ : ∃ z, q = z + 1 := ⟨q - 1, by omega⟩
      refine ⟨T2, ?_, Fr.rf⟩
      show m_X11_over_h22 _ _ _ _ = _
      unfold m_X11_over_h22
      rw [if_pos (by decide)]
  | succ m ih =>
    intro d f hd hf
    obtain ⟨f, rfl⟩ : ∃ q, f = q + 1 := ⟨f - 1, by omega⟩
    have hg := gIt_lt (c := 0) hk (by decide) hn d
    have h99 : ¬ (99 : Int32) < nI d := nI_nlt (b := d) (a := 99) (by omega) (by decide)
    have h100 : ¬ (100 : Int32) ≤ nI d := nI_ge (b := 100) (by omega) (by decide)
    by_cases h0 : gIt k 0 n d = 0
    · refine ⟨nI d, ?_, fun T2 i dy q hi hdy e1 e2 e3 hq => ?_⟩
      · show m_X10_over_h40 _ _ _ _ _ = _
        unfold m_X10_over_h40
        rw [if_neg h99, h0, if_pos (by decide)]
      · obtain ⟨q, rfl⟩ : ∃ z, q = z + 1 := ⟨q - 1, by omega⟩
        refine ⟨T2, ?_, Fr.rf⟩
        show m_X11_over_h22 _ _ _ _ = _
        unfold m_X11_over_h22
        rw [if_neg h100, e3, h0, if_pos (by decide)]
    · have hne : ¬ nI (gIt k 0 n d) = 0 := nI_ne0 (by omega) (by omega)
      obtain ⟨r, q1, q2⟩ := ih (d + 1) f (by omega) (by omega)
      refine ⟨r, ?_, fun T2 i dy q hi hdy e1 e2 e3 hq => ?_⟩
      · show m_X10_over_h40 _ _ _ _ _ = _
        unfold m_X10_over_h40
        rw [if_neg h99, if_neg hne, show v_left h 0 (nI (gIt k 0 n d)) = _ from left_v (c := 0) hh hk (by decide) hg, Option.bind_some, bT_v, nI_1]
        exact q1
      · obtain ⟨q, rfl⟩ : ∃ z, q = z + 1 := ⟨q - 1, by omega⟩
        show ∃ T3, m_X11_over_h22 _ _ _ _ = some (r, T3) ∧ Sc T2 T3
        unfold m_X11_over_h22
        rw [if_neg h100, e3, if_neg hne, kind_m hi, Option.bind_some, e1, e2, ad_n, show m_X11_goDay T2 (nI k) (nI (dy + d)) 0 = _ from goDay_v (c := 0) hk (by omega) (by decide) hg e3, Option.bind_some, bT_v, nI_1]
        obtain ⟨T3, z1, z2⟩ := q2 (goF T2 k (dy + d) 0 (gIt k 0 n d)) i dy q hi hdy e1 e2 (goF_6 _ _ _ _ _) (by omega)
        exact ⟨T3, z1, (goF_sc _ _ _ _ _).trans z2⟩
theorem lay_v {T : TT} {i : Nat} (hi : i < 6) : m_X11_layOne T (nI i) = some (sI (sI T 10 6 (T.1 10 1 (4 + i))) 10 7 0) := by
  unfold m_X11_layOne
  have e : (4 : Int32) + nI i = nI (4 + i) := ad_n 4 i
  rw [e, if_pos (inb_n (by omega) (by decide)), cl_n (by omega)]
  rfl
theorem op_over {n : Nat} {T : TT} (hn : n < 64) (h : Inv n T) (x : Int32) : Op n (m_X10_over T x) (fun T => m_X11_over T x) := by
  obtain ⟨sz, nc, tc, uc, dy, hR⟩ := h.t0
  have hsz := hR.1.1
  rcases ixd x sz hsz with hb | ⟨i, hi, rfl⟩
  · refine Op.of (r := -2) (T1 := rfs T 0) (T2 := rfm (rfs T 0) 0) ?_ ?_ (h.refuse hn (by decide))
    · unfold m_X10_over
      rw [has_bad hR.2.1.1 hb]
      rfl
    · show m_X11_over _ _ = _
      unfold m_X11_over
      rw [dr_bad (by rw [rfs_told]; exact hR.2.2.1.1) hsz hb]
      rfl
  · obtain ⟨⟨k, hk, k1, k2⟩, ⟨g, hg, g1, g2⟩, m1⟩ := hR.2.2.2.1 i hi
    have hdy : dy < 100000 := by have := hR.1.2.2.2.2; have := h.1; omega
    obtain ⟨r, q1, q2⟩ := over_c T (0, 8 + k) k g (kn0 k) hk hg 100 0 FU (by decide) (FU_lt (by decide))
    obtain ⟨T3, q3, q4⟩ := q2 (sI (sI T 10 6 (nI g)) 10 7 0) i dy FU (by omega) hdy k2 hR.2.2.1.2.1 (by rw [sI_v, if_neg (by omega), sI_v, if_pos ⟨rfl, rfl⟩]; rfl) (FU_lt (by decide))
    have e2 : m_X11_over T (nI i) = some (r, T3) := by
      unfold m_X11_over
      rw [dr_ok hR.2.2.1.1 hsz hi, Option.bind_some, if_neg (by decide), lay_v (by omega), Option.bind_some, g2]
      exact q3
    refine Op.of (r := r) (T1 := T) ?_ e2 (h.keep hn (Fr.trans ((Fr.rf.wI rfl (by simp [SCI])).wI rfl (by simp [SCI])) q4))
    unfold m_X10_over
    rw [has_ok hR.2.1.1 hsz hi, Option.bind_some, if_neg (by decide), kind_c hR.2.1.1 hsz hi k1 hk, Option.bind_some, if_pos (inb_n (by omega) (by decide)), cl_n (by omega), bT_v, g1]
    exact q1
