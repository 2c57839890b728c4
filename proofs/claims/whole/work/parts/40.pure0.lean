/-! PURE: the mirrors' values -/
theorem i32lt {x y : Int32} : x < y ↔ x.toInt < y.toInt := Int32.lt_iff_toInt_lt
theorem i32le {x y : Int32} : x ≤ y ↔ x.toInt ≤ y.toInt := Int32.le_iff_toInt_le
theorem i64lt {x y : Int64} : x < y ↔ x.toInt < y.toInt := Int64.lt_iff_toInt_lt
theorem i64le {x y : Int64} : x ≤ y ↔ x.toInt ≤ y.toInt := Int64.le_iff_toInt_le
theorem i3264 (x : Int32) : x.toInt64.toInt = x.toInt := by simp
theorem w_v (x lo hi : Int32) : m_X10_within x lo hi = some (if x < lo ∨ hi < x then 0 else 1) := by
  unfold m_X10_within
  by_cases h1 : x < lo
  · simp [h1]
  · by_cases h2 : hi < x
    · simp [h1, h2]
    · simp [h1, h2]
theorem in_v (x lo hi : Int64) : m_X11_in x lo hi = some (if x < lo ∨ hi < x then 0 else 1) := by
  unfold m_X11_in
  simp only [lg_cmp_lt, lg_cmp_gt]
  by_cases h1 : x < lo
  · simp [h1]
  · by_cases h2 : hi < x
    · simp [h1, h2]
    · simp [h1, h2]
theorem ch_v (x : Int32) : m_X10_isChoice x = some (if x < 0 ∨ 2 < x then 0 else 1) := by
  unfold m_X10_isChoice
  by_cases h1 : x < 0
  · simp [h1]
  · by_cases h2 : 2 < x
    · simp [h1, h2]
    · simp [h1, h2]
theorem x64 (x y : Int32) : x.toInt64 < y.toInt64 ↔ x < y := by rw [i64lt, i32lt, i3264, i3264]
/-- what a kind runs on a day of season s by grief n; what is left of it -/
def rF (k s n : Nat) : Nat := if k = 2 then (if s = 0 then n else 2 * n) / 3 else if k = 3 then (if s = 1 then 0 else if s = 0 then n else 2 * n) else if k = 5 then min 30 (if s = 1 then 0 else if s = 0 then n else 2 * n) else if s = 0 then n else 2 * n
def lF (k c n : Nat) : Nat := if c = 0 then (if k = 1 ∨ k = 4 then n - n / 10 else n - 1 - n / 10) else if c = 1 then min 99 (if k = 2 then (n + 4) / 2 else if k = 4 then n + 8 else n + 4) else (if k = 4 then n - 3 else if k = 5 then n else n - 1)
theorem rF_c : ∀ k, k < 6 → ∀ s, s < 4 → ∀ n, n < 100 → v_runs (0, 8 + k) (nI s) (nI n) = some (nI (rF k s n)) := by decide +kernel
theorem rF_m : ∀ k, k < 6 → ∀ s, s < 4 → ∀ n, n < 100 → m_X11_runsAs (nI k) (nI n) (nI s) = some (nI (rF k s n)) := by decide +kernel
theorem lF_c : ∀ k, k < 6 → ∀ c, c < 3 → ∀ n, n < 100 → v_left (0, 8 + k) (nI c) (nI n) = some (nI (lF k c n)) := by decide +kernel
theorem lF_m : ∀ k, k < 6 → ∀ c, c < 3 → ∀ n, n < 100 → m_X11_leftAs (nI k) (nI n) (nI c) = some (nI (lF k c n)) := by decide +kernel
theorem rF_lt : ∀ k, k < 6 → ∀ s, s < 4 → ∀ n, n < 100 → rF k s n < 199 := by decide +kernel
theorem lF_lt : ∀ k, k < 6 → ∀ c, c < 3 → ∀ n, n < 100 → lF k c n < 100 := by decide +kernel
theorem kn0 (k : Nat) : kn 0 (8 + k) = k := by simp [kn]
theorem knR {g k : Nat} (hg : g < 4) : kn g (8 + k) = k := by
  have : ¬ g = 6 := by omega
  simp [kn, this]
theorem v_runs_k (h : Nat × Nat) (x y : Int32) : v_runs h x y = v_runs (0, 8 + kn h.1 h.2) x y := by
  unfold v_runs
  rw [kn0]
  rfl
theorem v_bD_k (h : Nat × Nat) (x : Int32) : v_behindDriving h x = v_behindDriving (0, 8 + kn h.1 h.2) x := by
  unfold v_behindDriving
  rw [kn0]
  rfl
theorem v_bT_k (h : Nat × Nat) (x : Int32) : v_behindTelling h x = v_behindTelling (0, 8 + kn h.1 h.2) x := by
  unfold v_behindTelling
  rw [kn0]
  rfl
theorem v_bR_k (h : Nat × Nat) (x : Int32) : v_behindResting h x = v_behindResting (0, 8 + kn h.1 h.2) x := by
  unfold v_behindResting
  rw [kn0]
  rfl
theorem v_left_e (h : Nat × Nat) (x y : Int32) : v_left h x y = m_X3_left h x y := by
  unfold v_left
  by_cases h0 : kn h.1 h.2 = 0
  · simp [h0]
  · by_cases h1 : kn h.1 h.2 = 1
    · simp [h0, h1]
    · by_cases h2 : kn h.1 h.2 = 2
      · simp [h0, h1, h2]
      · by_cases h3 : kn h.1 h.2 = 3
        · simp [h0, h1, h2, h3]
        · by_cases h4 : kn h.1 h.2 = 4
          · simp [h0, h1, h2, h3, h4]
          · simp [h0, h1, h2, h3, h4]
theorem v_left_k (h : Nat × Nat) (x y : Int32) : v_left h x y = v_left (0, 8 + kn h.1 h.2) x y := by
  rw [v_left_e, v_left_e]
  unfold m_X3_left
  rw [v_bD_k h, v_bT_k h, v_bR_k h]
theorem runs_v {h : Nat × Nat} {k s n : Nat} (hk : kn h.1 h.2 = k) (h6 : k < 6) (hs : s < 4) (hn : n < 100) : v_runs h (nI s) (nI n) = some (nI (rF k s n)) := by rw [v_runs_k, hk]; exact rF_c k h6 s hs n hn
theorem left_v {h : Nat × Nat} {k c n : Nat} (hk : kn h.1 h.2 = k) (h6 : k < 6) (hc : c < 3) (hn : n < 100) : v_left h (nI c) (nI n) = some (nI (lF k c n)) := by rw [v_left_k, hk]; exact lF_c k h6 c hc n hn
theorem sea_v {d : Nat} (hd : d < 2 ^ 31) : m_X10_seasonOf (nI d) = some (nI (d / 20 % 4)) := by
  unfold m_X10_seasonOf
  have e1 : nI d / 20 = nI (d / 20) := pk_div (d := 20) hd (by decide) (by decide)
  have e2 : nI (d / 20) - nI (d / 20) / 4 * 4 = nI (d / 20 % 4) := pk_rem (d := 4) (by omega) (by decide) (by decide)
  rw [e1, e2]
theorem sea_m {d : Nat} (hd : d < 2 ^ 31) : m_X11_seasonOf (nI d) = some (nI (d / 20 % 4)) := sea_v hd
