theorem bit_d : ∀ s, s < 64 → ∀ k, k < 6 → m_X11_has (nI s) (nI k) = some (nI (s / 2 ^ k % 2)) := by decide +kernel
theorem shl_d : ∀ n, n < 7 → (1 : Int32) <<< (nI n &&& 31) = nI (2 ^ n) := by decide +kernel
theorem rn_le {k : Nat} (hk : k < 6) : ∀ n d g s, g < 100 → rnF k n d g s ≤ 199 * n
  | 0, _, _, _, _ => Nat.zero_le _
  | n + 1, d, g, s, hg => by
    show (if s % 2 = 1 then rnF k n (d + 1) (lF k 2 g) (s / 2) else rF k (d / 20 % 4) g + rnF k n (d + 1) (lF k 0 g) (s / 2)) ≤ _
    have h1 := rn_le hk n (d + 1) (lF k 0 g) (s / 2) (lF_lt k hk 0 (by decide) g hg)
    have h2 := rn_le hk n (d + 1) (lF k 2 g) (s / 2) (lF_lt k hk 2 (by decide) g hg)
    have hr := rF_lt k hk (d / 20 % 4) (Nat.mod_lt _ (by decide)) g hg
    by_cases h : s % 2 = 1
    · rw [if_pos h]; omega
    · rw [if_neg h]; omega
theorem st_i {i kd c N s dy : Nat} (hi : i < 6) (hk : kd < 6) (hc : c ≤ 10) (hN : N ≤ 6) (hs : s < 64) (hdy : dy < 100000) (rec71 : TT → Int32 → Int32 → Int32 → Int64 → Int64 → Int32 → Option (Int32 × TT)) (x4 x6 : Int64) : ∀ (m k n : Nat) (T : TT) (C R g : Nat), k + m = N → m < n → g < 100 → R ≤ 199 * k → T.1 10 1 (17 + i) = nI kd → T.1 10 1 16 = nI dy → T.2.1 10 6 = nI g → T.2.1 10 7 = nI R → ∃ T', m_X11_starts_l90 rec71 n T (nI i) (nI N) (nI c) x4 x6 (nI s) (lN C) (nI k) = rec71 T' (nI i) (nI N) (nI c) (x4 + lN (C * csF c m (s / 2 ^ k) * (R + rnF kd m (dy + k) g (s / 2 ^ k)))) x6 (nI (s + 1)) ∧ Sc T T' := by
  intro m
  induction m with
  | zero =>
    intro k n T C R g hkm hn hg hR h17 h16 h6 h7
    obtain ⟨n, rfl⟩ : ∃ q, n = q + 1 := ⟨n - 1, by omega⟩
    refine ⟨T, ?_, Fr.rf⟩
    show m_X11_starts_h90 _ _ _ _ _ _ _ _ _ _ _ = _
    unfold m_X11_starts_h90
    have e : C * csF c 0 (s / 2 ^ k) * (R + rnF kd 0 (dy + k) g (s / 2 ^ k)) = C * R := by
      show C * 1 * (R + 0) = _
      rw [Nat.mul_one, Nat.add_zero]
    rw [if_pos (nI_le (by omega) (by omega)), bT_v, bT_v, h7, nI_l (by omega), lN_mul, nI_1, e]
  | succ m ih =>
    intro k n T C R g hkm hn hg hR h17 h16 h6 h7
    obtain ⟨n, rfl⟩ : ∃ q, n = q + 1 := ⟨n - 1, by omega⟩
    have hdd : s / 2 ^ (k + 1) = s / 2 ^ k / 2 := by rw [Nat.pow_succ, Nat.div_div_eq_div_mul]
    show ∃ T', m_X11_starts_h90 _ _ _ _ _ _ _ _ _ _ _ = _ ∧ Sc T T'
    unfold m_X11_starts_h90
    have hb := bit_d s hs k (by omega)
    have e10 : ((10 : Int32) - nI c).toInt64 = lN (10 - c) := by
      rw [show (10 : Int32) - nI c = nI (10 - c) from pk_sub (a := 10) hc]
      exact nI_l (by omega)
    rw [if_neg (nI_ge (by omega) (by omega)), hb, Option.bind_some]
    have hr := rF_lt kd hk ((dy + k) / 20 % 4) (Nat.mod_lt _ (by decide)) g hg
    by_cases hbit : s / 2 ^ k % 2 = 1
    · have c0 : ¬ nI (s / 2 ^ k % 2) = 0 := by rw [hbit]; decide
      rw [if_neg c0]
      unfold m_X11_starts_b118 m_X11_starts_b152
      rw [nI_l (by omega), lN_mul, bT_v, kind_m hi, Option.bind_some, hb, Option.bind_some, if_neg c0, h17, h16, ad_n, show m_X11_goDay T (nI kd) (nI (dy + k)) 2 = _ from goDay_v (c := 2) hk (by omega) (by decide) hg h6, Option.bind_some, bT_v, nI_1]
      obtain ⟨T', z1, z2⟩ := ih (k + 1) n (goF T kd (dy + k) 2 g) (C * c) R (lF kd 2 g) (by omega) (by omega) (lF_lt kd hk 2 (by decide) g hg) (by omega) h17 h16 (goF_6 _ _ _ _ _) (by rw [goF_7, h7, if_neg (by decide)]; exact Int32.add_zero _)
      refine ⟨T', ?_, (goF_sc _ _ _ _ _).trans z2⟩
      have e : C * csF c (m + 1) (s / 2 ^ k) * (R + rnF kd (m + 1) (dy + k) g (s / 2 ^ k)) = C * c * csF c m (s / 2 ^ (k + 1)) * (R + rnF kd m (dy + (k + 1)) (lF kd 2 g) (s / 2 ^ (k + 1))) := by
        show C * ((if s / 2 ^ k % 2 = 1 then c else 10 - c) * csF c m (s / 2 ^ k / 2)) * (R + (if s / 2 ^ k % 2 = 1 then rnF kd m (dy + k + 1) (lF kd 2 g) (s / 2 ^ k / 2) else _)) = _
        rw [if_pos hbit, if_pos hbit, hdd, Nat.mul_assoc C c]
        rfl
      rw [e]
      exact z1
    · have hbit0 : s / 2 ^ k % 2 = 0 := by omega
      have c0 : nI (s / 2 ^ k % 2) = 0 := by rw [hbit0]; rfl
      rw [if_pos c0]
      unfold m_X11_starts_b118 m_X11_starts_b152
      rw [e10, lN_mul, bT_v, kind_m hi, Option.bind_some, hb, Option.bind_some, if_pos c0, h17, h16, ad_n, show m_X11_goDay T (nI kd) (nI (dy + k)) 0 = _ from goDay_v (c := 0) hk (by omega) (by decide) hg h6, Option.bind_some, bT_v, nI_1]
      obtain ⟨T', z1, z2⟩ := ih (k + 1) n (goF T kd (dy + k) 0 g) (C * (10 - c)) (R + rF kd ((dy + k) / 20 % 4) g) (lF kd 0 g) (by omega) (by omega) (lF_lt kd hk 0 (by decide) g hg) (by omega) h17 h16 (goF_6 _ _ _ _ _) (by rw [goF_7, h7, if_pos rfl, ad_n])
      refine ⟨T', ?_, (goF_sc _ _ _ _ _).trans z2⟩
      have e : C * csF c (m + 1) (s / 2 ^ k) * (R + rnF kd (m + 1) (dy + k) g (s / 2 ^ k)) = C * (10 - c) * csF c m (s / 2 ^ (k + 1)) * (R + rF kd ((dy + k) / 20 % 4) g + rnF kd m (dy + (k + 1)) (lF kd 0 g) (s / 2 ^ (k + 1))) := by
        show C * ((if s / 2 ^ k % 2 = 1 then c else 10 - c) * csF c m (s / 2 ^ k / 2)) * (R + (if s / 2 ^ k % 2 = 1 then _ else rF kd ((dy + k) / 20 % 4) g + rnF kd m (dy + k + 1) (lF kd 0 g) (s / 2 ^ k / 2))) = _
        rw [if_neg hbit, if_neg hbit, hdd, Nat.mul_assoc C (10 - c), Nat.add_assoc R]
        rfl
      rw [e]
      exact z1
theorem st_o {i kd c N dy g : Nat} (hi : i < 6) (hk : kd < 6) (hc : c ≤ 10) (hN : N ≤ 6) (hdy : dy < 100000) (hg : g < 100) (x6 : Int64) : ∀ (m s n : Nat) (T : TT), s + m = 2 ^ N → m < n → T.1 10 1 (17 + i) = nI kd → T.1 10 1 16 = nI dy → T.1 10 1 (4 + i) = nI g → ∃ T', m_X11_starts_l71 n T (nI i) (nI N) (nI c) (lN (sg (fun s => csF c N s * rnF kd N dy g s) s)) x6 (nI s) = (m_X11_fraction T' (lN (sg (fun s => csF c N s * rnF kd N dy g s) (2 ^ N))) x6).bind (fun z10 => some ((1 : Int32), z10)) ∧ Sc T T' := by
  have h64 : 2 ^ N ≤ 64 := Nat.pow_le_pow_right (n := 2) (by decide) hN
  intro m
  induction m with
  | zero =>
    intro s n T hs hn h17 h16 h4
    obtain ⟨n, rfl⟩ : ∃ q, n = q + 1 := ⟨n - 1, by omega⟩
    refine ⟨T, ?_, Fr.rf⟩
    show m_X11_starts_h71 _ _ _ _ _ _ _ _ = _
    unfold m_X11_starts_h71
    rw [shl_d N (by omega), if_pos (nI_le (by omega) (by omega)), show s = 2 ^ N by omega]
  | succ m ih =>
    intro s n T hs hn h17 h16 h4
    obtain ⟨n, rfl⟩ : ∃ q, n = q + 1 := ⟨n - 1, by omega⟩
    show ∃ T', m_X11_starts_h71 _ _ _ _ _ _ _ _ = _ ∧ Sc T T'
    unfold m_X11_starts_h71
    rw [shl_d N (by omega), if_neg (nI_ge (by omega) (by omega)), lay_v hi, Option.bind_some, h4]
    generalize hT0 : sI (sI T 10 6 (nI g)) 10 7 0 = T0
    have s0 : Sc T T0 := (Fr.rf.wI rfl (by simp [SCI])).wI hT0.symm (by simp [SCI])
    have w0 : T0.1 10 1 = T.1 10 1 := s0.1 10 1 (by simp [SCA])
    obtain ⟨T1, z1, z2⟩ := st_i (s := s) hi hk hc hN (by omega) hdy (m_X11_starts_l71 n) (lN (sg (fun s => csF c N s * rnF kd N dy g s) s)) x6 N 0 FU T0 1 0 g (by omega) (FU_lt (by omega)) hg (by omega) (by rw [w0]; exact h17) (by rw [w0]; exact h16) (by rw [← hT0, sI_v, if_neg (by omega), sI_v, if_pos ⟨rfl, rfl⟩]) (by rw [← hT0, sI_v, if_pos ⟨rfl, rfl⟩]; rfl)
    have s1 := s0.trans z2
    have w1 : T1.1 10 1 = T.1 10 1 := s1.1 10 1 (by simp [SCA])
    obtain ⟨T2, y1, y2⟩ := ih (s + 1) n T1 (by omega) (by omega) (by rw [w1]; exact h17) (by rw [w1]; exact h16) (by rw [w1]; exact h4)
    refine ⟨T2, ?_, s1.trans y2⟩
    have e : lN (sg (fun s => csF c N s * rnF kd N dy g s) s) + lN (1 * csF c N (s / 2 ^ 0) * (0 + rnF kd N (dy + 0) g (s / 2 ^ 0))) = lN (sg (fun s => csF c N s * rnF kd N dy g s) (s + 1)) := by
      rw [lN_add, Nat.one_mul, Nat.zero_add, Nat.pow_zero, Nat.div_one]
      rfl
    rw [e] at z1
    exact z1.trans y1
theorem st_t {i c N : Nat} (hN : N ≤ 6) (T : TT) (x4 : Int64) : ∀ (m j n : Nat), j + m = N → m < n → m_X11_starts_l48 n T (nI i) (nI N) (nI c) x4 (lN (10 ^ j)) (nI j) = m_X11_starts_l71 FU T (nI i) (nI N) (nI c) x4 (lN (10 ^ N)) 0 := by
  intro m
  induction m with
  | zero =>
    intro j n hj hn
    obtain ⟨n, rfl⟩ : ∃ q, n = q + 1 := ⟨n - 1, by omega⟩
    show m_X11_starts_h48 _ _ _ _ _ _ _ _ = _
    unfold m_X11_starts_h48
    rw [if_pos (nI_le (by omega) (by omega)), show j = N by omega]
  | succ m ih =>
    intro j n hj hn
    obtain ⟨n, rfl⟩ : ∃ q, n = q + 1 := ⟨n - 1, by omega⟩
    show m_X11_starts_h48 _ _ _ _ _ _ _ _ = _
    unfold m_X11_starts_h48
    have e : lN (10 ^ j) * (10 : Int64) = lN (10 ^ (j + 1)) := lN_mul (10 ^ j) 10
    rw [if_neg (nI_ge (by omega) (by omega)), bT_v, bT_v, nI_1, e]
    exact ih (j + 1) n (by omega) (by omega)
/-! the common divisor -/
theorem lz {b : Nat} (hb : b < 2 ^ 63) : lg_cmp (lN b) 0 = 0 ↔ b = 0 := by
  rw [lg_cmp_eq, show (0 : Int64) = lN 0 from rfl]
  exact pk_lEQ hb (by decide)
theorem gcd_s (a b : Nat) : Nat.gcd a b = Nat.gcd b (a % b) := by rw [Nat.gcd_comm a b, Nat.gcd_rec b a, Nat.gcd_comm]
theorem half {a b : Nat} (h0 : a % b ≠ 0) (hb : b ≠ 0) : 2 * (b % (a % b)) < b := by
  have h1 : a % b < b := Nat.mod_lt _ (by omega)
  have h2 : b % (a % b) < a % b := Nat.mod_lt _ (by omega)
  have h3 := Nat.div_add_mod b (a % b)
  have h4 : 1 ≤ b / (a % b) := Nat.div_pos (by omega) (by omega)
  have h5 : a % b * 1 ≤ a % b * (b / (a % b)) := Nat.mul_le_mul_left _ h4
  omega
theorem gc_c : ∀ (m a b j n : Nat), b < 2 ^ m → m ≤ 60 → a < 2 ^ 63 → j + 2 * m + 1 ≤ 200 → 2 * m + 1 < n → m_X10_commonDivisor_l3 n (lN a) (lN b) (nI j) = some (lN (Nat.gcd a b)) := by
  have st : ∀ (n a b j : Nat), j < 200 → a < 2 ^ 63 → b < 2 ^ 63 → m_X10_commonDivisor_l3 (n + 1) (lN a) (lN b) (nI j) = if b = 0 then some (lN a) else m_X10_commonDivisor_l3 n (lN b) (lN (a % b)) (nI (j + 1)) := fun n a b j hj ha hb => by
    show m_X10_commonDivisor_h3 _ _ _ _ = _
    unfold m_X10_commonDivisor_h3
    have h200 : ¬ (200 : Int32) ≤ nI j := nI_ge (b := 200) hj (by decide)
    rw [if_neg h200]
    by_cases h0 : b = 0
    · rw [if_pos ((lz hb).mpr h0), if_pos h0]
    · have hn0 : ¬ lN b = 0 := fun e => h0 ((pk_lEQ (b := 0) hb (by decide)).mp e)
      rw [if_neg (fun z => h0 ((lz hb).mp z)), if_neg hn0, if_neg h0, bT_v, bT_v, pk_lRem ha (by omega) hb, nI_1]
  intro m
  induction m with
  | zero =>
    intro a b j n hb hm ha hj hn
    obtain ⟨n, rfl⟩ : ∃ q, n = q + 1 := ⟨n - 1, by omega⟩
    have hb : b = 0 := by simp at hb; exact hb
    subst hb
    rw [st n a 0 j (by omega) ha (by decide), if_pos rfl, Nat.gcd_zero_right]
  | succ m ih =>
    intro a b j n hb hm ha hj hn
    obtain ⟨n, rfl⟩ : ∃ q, n = q + 1 := ⟨n - 1, by omega⟩
    obtain ⟨n, rfl⟩ : ∃ q, n = q + 1 := ⟨n - 1, by omega⟩
    have hp : 2 ^ (m + 1) ≤ 2 ^ 60 := Nat.pow_le_pow_right (by decide) (by omega)
    rw [st (n + 1) a b j (by omega) ha (by omega)]
    by_cases h0 : b = 0
    · subst h0
      rw [if_pos rfl, Nat.gcd_zero_right]
    · have hr : a % b < b := Nat.mod_lt _ (by omega)
      rw [if_neg h0, st n b (a % b) (j + 1) (by omega) (by omega) (by omega), gcd_s a b]
      by_cases h1 : a % b = 0
      · rw [if_pos h1, h1, Nat.gcd_zero_right]
      · rw [if_neg h1, gcd_s b (a % b)]
        have hh := half h1 h0
        have hq : 2 ^ (m + 1) = 2 * 2 ^ m := by rw [Nat.pow_succ, Nat.mul_comm]
        exact ih (a % b) (b % (a % b)) (j + 2) n (by omega) (by omega) (by omega) (by omega) (by omega)
theorem gc_m (T : TT) (x1 x3 : Int64) : ∀ (m a b n : Nat), b < 2 ^ m → m ≤ 60 → a < 2 ^ 63 → 2 * m + 1 < n → 0 < Nat.gcd a b → m_X11_fraction_l6 n T x1 x3 (lN a) (lN b) = some (sL (sL T 10 4 (x1 / lN (Nat.gcd a b))) 10 5 (x3 / lN (Nat.gcd a b))) := by
  have st : ∀ (n a b : Nat), a < 2 ^ 63 → b < 2 ^ 63 → 0 < Nat.gcd a b → m_X11_fraction_l6 (n + 1) T x1 x3 (lN a) (lN b) = if b = 0 then some (sL (sL T 10 4 (x1 / lN a)) 10 5 (x3 / lN a)) else m_X11_fraction_l6 n T x1 x3 (lN b) (lN (a % b)) := fun n a b ha hb hg => by
    show m_X11_fraction_h6 _ _ _ _ _ _ = _
    unfold m_X11_fraction_h6
    by_cases h0 : b = 0
    · subst h0
      rw [Nat.gcd_zero_right] at hg
      have hn0 : ¬ lN a = 0 := fun e => absurd ((pk_lEQ (b := 0) ha (by decide)).mp e) (by omega)
      rw [if_pos ((lz hb).mpr rfl), if_neg hn0, bT_v, if_neg hn0, bT_v, if_pos rfl]
    · have hn0 : ¬ lN b = 0 := fun e => h0 ((pk_lEQ (b := 0) hb (by decide)).mp e)
      rw [if_neg (fun z => h0 ((lz hb).mp z)), if_neg hn0, if_neg h0, bT_v, pk_lRem ha (by omega) hb]
  intro m
  induction m with
  | zero =>
    intro a b n hb hm ha hn hg
    obtain ⟨n, rfl⟩ : ∃ q, n = q + 1 := ⟨n - 1, by omega⟩
    have hb : b = 0 := by simp at hb; exact hb
    subst hb
    rw [st n a 0 ha (by decide) hg, if_pos rfl, Nat.gcd_zero_right]
  | succ m ih =>
    intro a b n hb hm ha hn hg
    obtain ⟨n, rfl⟩ : ∃ q, n = q + 1 := ⟨n - 1, by omega⟩
    obtain ⟨n, rfl⟩ : ∃ q, n = q + 1 := ⟨n - 1, by omega⟩
    have hp : 2 ^ (m + 1) ≤ 2 ^ 60 := Nat.pow_le_pow_right (by decide) (by omega)
    rw [st (n + 1) a b ha (by omega) hg]
    by_cases h0 : b = 0
    · subst h0
      rw [if_pos rfl, Nat.gcd_zero_right]
    · have hr : a % b < b := Nat.mod_lt _ (by omega)
      rw [gcd_s a b] at hg ⊢
      rw [if_neg h0, st n b (a % b) (by omega) (by omega) hg]
      by_cases h1 : a % b = 0
      · rw [if_pos h1, h1, Nat.gcd_zero_right]
      · rw [gcd_s b (a % b)] at hg ⊢
        rw [if_neg h1]
        have hh := half h1 h0
        have hq : 2 ^ (m + 1) = 2 * 2 ^ m := by rw [Nat.pow_succ, Nat.mul_comm]
        exact ih (a % b) (b % (a % b)) n (by omega) (by omega) (by omega) (by omega) hg
theorem Inv.lg {n : Nat} {T T' : TT} (h : Inv n T) (e1 : T'.1 = T.1) (e2 : T'.2.1 = T.2.1) (l1 : T'.2.2.1 4 9 = T'.2.2.1 10 4) (l2 : T'.2.2.1 4 10 = T'.2.2.1 10 5) : Inv n T' := by
  obtain ⟨h0, ⟨sz, nc, tc, uc, dy, h1⟩, h2, h3, h4, h5, h6⟩ := h
  refine ⟨h0, ⟨sz, nc, tc, uc, dy, h1.congr (fun f => by rw [e1]) (fun k => by rw [e2]) (fun i _ => by rw [e1]) (Nat.le_refl _)⟩, fun j hj => ?_, ?_, fun j hj => by rw [e1]; exact h4 j hj, l1, l2⟩
  · rw [e1]
    obtain ⟨q1, q2⟩ := h2 j hj
    refine ⟨q1, q2.imp id (fun q => ⟨q.1, ?_⟩)⟩
    obtain ⟨sz, nc, tc, uc, dy, q3⟩ := q.2
    exact ⟨sz, nc, tc, uc, dy, q3.congr (fun f => by rw [e1]) (fun k => by rw [e2]) (fun i _ => rfl) (Nat.le_refl _)⟩
  · rw [e1, e2]
    exact h3
theorem op_starts {n : Nat} {T : TT} (hn : n < 64) (h : Inv n T) (x y z : Int32) : Op n (m_X10_starts T x y z) (fun T => m_X11_starts T x y z) := by
  obtain ⟨sz, nc, tc, uc, dy, hR⟩ := h.t0
  have hsz := hR.1.1
  have hbad : ∀ (e1 : m_X10_starts T x y z = some (-2, rfs T 0)) (e2 : m_X11_starts (rfs T 0) x y z = some (-2, rfm (rfs T 0) 0)), Op n (m_X10_starts T x y z) (fun T => m_X11_starts T x y z) := fun e1 e2 => Op.of e1 e2 (h.refuse hn (by decide))
  have h0 : (rfs T 0).1 10 1 0 = nI sz := by rw [rfs_told]; exact hR.2.2.1.1
  rcases ixd x sz hsz with hb | ⟨i, hi, rfl⟩
  · refine hbad ?_ ?_
    · unfold m_X10_starts
      rw [has_bad hR.2.1.1 hb]
      rfl
    · unfold m_X11_starts
      rw [dr_bad h0 hsz hb]
      rfl
  rcases rng y 0 6 (by decide) (by decide) with hb | ⟨N, -, hN, rfl⟩
  · refine hbad ?_ ?_
    · unfold m_X10_starts
      rw [has_ok hR.2.1.1 hsz hi, Option.bind_some, if_neg (by decide), show m_X10_within y 0 6 = some 0 from w_bad hb]
      rfl
    · unfold m_X11_starts
      rw [dr_ok h0 hsz hi, Option.bind_some, if_neg (by decide), in_bad (lo := nI 0) (hi := nI 6) (by decide) (by decide) hb]
      rfl
  have w1 : m_X10_within (nI N) 0 6 = some 1 := w_ok (Nat.zero_le N) hN (by decide)
  have n1 : m_X11_in (nI N).toInt64 0 6 = some 1 := in_ok (lo := nI 0) (hi := nI 6) (by decide) (by decide) (nI_rng (Nat.zero_le N) hN (by decide))
  rcases rng z 0 10 (by decide) (by decide) with hb | ⟨c, -, hc, rfl⟩
  · refine hbad ?_ ?_
    · unfold m_X10_starts
      rw [has_ok hR.2.1.1 hsz hi, Option.bind_some, if_neg (by decide), w1, Option.bind_some, if_neg (by decide), show m_X10_within z 0 10 = some 0 from w_bad hb]
      rfl
    · unfold m_X11_starts
      rw [dr_ok h0 hsz hi, Option.bind_some, if_neg (by decide), n1, Option.bind_some, if_neg (by decide), in_bad (lo := nI 0) (hi := nI 10) (by decide) (by decide) hb]
      rfl
  have w2 : m_X10_within (nI c) 0 10 = some 1 := w_ok (Nat.zero_le c) hc (by decide)
  have n2 : m_X11_in (nI c).toInt64 0 10 = some 1 := in_ok (lo := nI 0) (hi := nI 10) (by decide) (by decide) (nI_rng (Nat.zero_le c) hc (by decide))
  have hdy : dy < 100000 := by have := hR.1.2.2.2.2; have := h.1; omega
  obtain ⟨⟨k, hk, k1, k2⟩, ⟨g, hg, g1, g2⟩, -⟩ := hR.2.2.2.1 i hi
  have hp : 10 ^ N ≤ 10 ^ 6 := Nat.pow_le_pow_right (by decide) hN
  have hp0 : 0 < 10 ^ N := Nat.pow_pos (by decide)
  have ht := tm_le hk hc N dy g hg
  have ht2 : 199 * N * 10 ^ N ≤ 199 * 6 * 10 ^ 6 := Nat.mul_le_mul (by omega) hp
  generalize hA : tm k c N dy g = A at ht
  generalize hB : 10 ^ N = B at *
  have hA63 : A < 2 ^ 63 := by omega
  have hgp : 0 < Nat.gcd A B := Nat.gcd_pos_of_pos_right _ hp0
  have hgl : Nat.gcd A B ≤ B := Nat.gcd_le_right _ hp0
  have cd : m_X10_commonDivisor (lN A) (lN B) = some (lN (Nat.gcd A B)) := gc_c 20 A B 0 FU (by omega) (by decide) hA63 (by decide) (by decide)
  generalize hG : Nat.gcd A B = G at *
  have hG0 : ¬ lN G = 0 := fun e => absurd ((pk_lEQ (b := 0) (by omega) (by decide)).mp e) (by omega)
  have hGp : 0 < lg_cmp (lN G) 0 := by rw [lg_cmp_gt]; exact (pk_lLT (a := 0) (by decide) (by omega)).mpr hgp
  generalize hS : sL (sL T 4 9 (lN A / lN G)) 4 10 (lN B / lN G) = S
  have sS1 : S.1 = T.1 := by rw [← hS]; rfl
  have sS2 : S.2.1 = T.2.1 := by rw [← hS]; rfl
  have e1 : m_X10_starts T (nI i) (nI N) (nI c) = some (1, S) := by
    unfold m_X10_starts m_X10_setFraction
    rw [has_ok hR.2.1.1 hsz hi, Option.bind_some, if_neg (by decide), w1, Option.bind_some, if_neg (by decide), w2, Option.bind_some, if_neg (by decide), kind_c hR.2.1.1 hsz hi k1 hk, Option.bind_some, if_pos (inb_n (by omega) (by decide)), cl_n (by omega), g1, hR.2.1.2.1, tm_v (kn0 k) hk hc N 12 dy g hN (by omega) (by omega) hg, Option.bind_some, ten_v hN, Option.bind_some, hA, hB, cd, Option.bind_some, if_pos hGp, if_neg hG0, bT_v, if_neg hG0, bT_v, hS]
    rfl
  obtain ⟨T2, y1, y2⟩ := st_o (N := N) (x6 := lN B) (show i < 6 by omega) hk hc hN hdy hg (2 ^ N) 0 FU S (by omega) (FU_lt (by have : 2 ^ N ≤ 2 ^ 6 := Nat.pow_le_pow_right (by decide) hN; omega)) (by rw [sS1]; exact k2) (by rw [sS1]; exact hR.2.2.1.2.1) (by rw [sS1]; exact g2)
  rw [st_sum hc, hA] at y1
  have fr := gc_m T2 (lN A) (lN B) 20 A B FU (by omega) (by decide) hA63 (by decide) (by rw [hG]; exact hgp)
  rw [hG] at fr
  have t1 := st_t (i := i) (c := c) hN S 0 N 0 FU (by omega) (FU_lt (by omega))
  rw [hB] at t1
  refine Op.of (r := 1) (T1 := S) (T2 := sL (sL T2 10 4 (lN A / lN G)) 10 5 (lN B / lN G)) e1 ?_ ?_
  · show m_X11_starts _ _ _ _ = _
    unfold m_X11_starts
    rw [dr_ok (by rw [sS1]; exact hR.2.2.1.1) hsz hi, Option.bind_some, if_neg (by decide), n1, Option.bind_some, if_neg (by decide), n2, Option.bind_some, if_neg (by decide)]
    refine Eq.trans t1 (Eq.trans y1 ?_)
    rw [show m_X11_fraction T2 (lN A) (lN B) = _ from fr]
    rfl
  · have hF : Sc T (T2.1, T2.2.1, T.2.2.1, T2.2.2.2) := ⟨fun a b q => by show T2.1 a b = T.1 a b; rw [y2.1 a b q, sS1], fun a b q => by show T2.2.1 a b = T.2.1 a b; rw [y2.2.1 a b q, sS2], fun _ _ _ => rfl⟩
    have hk1 := h.keep hn hF
    have l9 : ∀ a b, T2.2.2.1 a b = S.2.2.1 a b := fun a b => y2.2.2 a b (fun q => q)
    refine hk1.lg rfl rfl ?_ ?_
    · rw [sL_v, if_neg (by omega), sL_v, if_neg (by omega), l9, ← hS, sL_v, if_neg (by omega), sL_v, if_pos ⟨rfl, rfl⟩, sL_v, if_neg (by omega), sL_v, if_pos ⟨rfl, rfl⟩]
    · rw [sL_v, if_neg (by omega), sL_v, if_neg (by omega), l9, ← hS, sL_v, if_pos ⟨rfl, rfl⟩, sL_v, if_pos ⟨rfl, rfl⟩]
