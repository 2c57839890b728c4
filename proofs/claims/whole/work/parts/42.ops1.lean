/-! THE OPS, the simple ones -/
theorem inb_n {n N : Nat} (h : n < N) (hN : N < 2 ^ 31) : inb (nI n) N := vp_in_nI h hN
theorem cl_n {n : Nat} (h : n < 2 ^ 31) : (nI n).toNatClampNeg = n := nI_clamp h
theorem rng (x : Int32) (a b : Nat) (hb : b < 2 ^ 31 - 1) (hab : a ≤ b) : (x < nI a ∨ nI b < x) ∨ ∃ k, a ≤ k ∧ k ≤ b ∧ x = nI k := by
  by_cases h0 : x < 0
  · left; left
    have := nI_pos' (n := a) (by omega)
    rw [i32lt] at h0 ⊢
    rw [i32le] at this
    have e : (0 : Int32).toInt = 0 := by decide
    omega
  · obtain ⟨j, hj, rfl⟩ := nI_of h0
    by_cases h1 : j < a
    · left; left; exact nI_lt h1 (by omega)
    · by_cases h2 : b < j
      · left; right; exact nI_lt h2 hj
      · exact Or.inr ⟨j, by omega, by omega, rfl⟩
theorem w_bad {x lo hi : Int32} (h : x < lo ∨ hi < x) : m_X10_within x lo hi = some 0 := by rw [w_v, if_pos h]
theorem w_ok {k a b : Nat} (h1 : a ≤ k) (h2 : k ≤ b) (hb : b < 2 ^ 31) : m_X10_within (nI k) (nI a) (nI b) = some 1 := by
  rw [w_v, if_neg]
  rintro (h | h)
  · exact nI_nlt h1 (by omega) h
  · exact nI_nlt h2 hb h
theorem in_bad {x lo hi : Int32} {lo' hi' : Int64} (e1 : lo' = lo.toInt64) (e2 : hi' = hi.toInt64) (h : x < lo ∨ hi < x) : m_X11_in x.toInt64 lo' hi' = some 0 := by
  rw [in_v, if_pos]
  rw [e1, e2, x64, x64]
  exact h
theorem in_ok {x lo hi : Int32} {lo' hi' : Int64} (e1 : lo' = lo.toInt64) (e2 : hi' = hi.toInt64) (h : ¬ (x < lo ∨ hi < x)) : m_X11_in x.toInt64 lo' hi' = some 1 := by
  rw [in_v, if_neg]
  rw [e1, e2, x64, x64]
  exact h
theorem nI_rng {k a b : Nat} (h1 : a ≤ k) (h2 : k ≤ b) (hb : b < 2 ^ 31) : ¬ (nI k < nI a ∨ nI b < nI k) := by
  rintro (h | h)
  · exact nI_nlt h1 (by omega) h
  · exact nI_nlt h2 hb h
theorem ch_bad {x : Int32} (h : x < nI 0 ∨ nI 2 < x) : m_X10_isChoice x = some 0 := by
  rw [ch_v, if_pos]
  exact h
theorem ch_ok {k : Nat} (h : k ≤ 2) : m_X10_isChoice (nI k) = some 1 := by
  rw [ch_v, if_neg]
  exact nI_rng (a := 0) (Nat.zero_le k) h (by decide)
theorem chm_bad {x : Int32} (h : x < nI 0 ∨ nI 2 < x) : m_X11_isChoice x = some 0 := by
  unfold m_X11_isChoice
  rw [in_bad (lo := nI 0) (hi := nI 2) (by decide) (by decide) h]
  rfl
theorem chm_ok {k : Nat} (h : k ≤ 2) : m_X11_isChoice (nI k) = some 1 := by
  unfold m_X11_isChoice
  rw [in_ok (lo := nI 0) (hi := nI 2) (by decide) (by decide) (nI_rng (Nat.zero_le k) h (by decide))]
  rfl
theorem has_bad {T : TT} {g sz : Nat} {x : Int32} (h : T.2.1 g 7 = nI sz) (hx : x < 0 ∨ nI sz ≤ x) : m_X4_has T g x = some 0 := by
  unfold m_X4_has
  rw [h]
  by_cases h1 : x < 0
  · rw [if_pos h1]
  · rw [if_neg h1, if_pos (hx.resolve_left h1)]
theorem has_ok {T : TT} {g sz i : Nat} (h : T.2.1 g 7 = nI sz) (hs : sz ≤ 6) (hi : i < sz) : m_X4_has T g (nI i) = some 1 := by
  unfold m_X4_has
  rw [h, if_neg (nI_pos (by omega)), if_neg (nI_ge hi (by omega))]
theorem dr_bad {T : TT} {sz : Nat} {x : Int32} (h : T.1 10 1 0 = nI sz) (hs : sz ≤ 6) (hx : x < 0 ∨ nI sz ≤ x) : m_X11_isDriver T x = some 0 := by
  unfold m_X11_isDriver m_X11_many
  rw [h, Option.bind_some, in_bad (lo := 0) (hi := nI sz - 1) (by decide) rfl]
  · rfl
  · rcases hx with hx | hx
    · exact Or.inl hx
    · right
      rw [i32le] at hx
      rw [i32lt]
      have e1 := nI_toInt (n := sz) (by omega)
      have e2 : (nI sz - 1).toInt = (sz : Int) - 1 := pk_sub_toInt (a := sz) (b := 1) (by omega) (by decide)
      omega
theorem dr_ok {T : TT} {sz i : Nat} (h : T.1 10 1 0 = nI sz) (hs : sz ≤ 6) (hi : i < sz) : m_X11_isDriver T (nI i) = some 1 := by
  unfold m_X11_isDriver m_X11_many
  rw [h, Option.bind_some, in_ok (lo := 0) (hi := nI sz - 1) (by decide) rfl]
  · rfl
  · have e2 : nI sz - 1 = nI (sz - 1) := pk_sub (a := sz) (b := 1) (by omega)
    rw [e2]
    exact nI_rng (a := 0) (Nat.zero_le i) (by omega) (by omega)
/-- the number of a driver, or none -/
theorem ixd (x : Int32) (sz : Nat) (hs : sz ≤ 6) : (x < 0 ∨ nI sz ≤ x) ∨ ∃ i, i < sz ∧ x = nI i := by
  rcases pk_ix x (n := sz) (by omega) with h | h | h
  · exact Or.inl (Or.inl h)
  · exact Or.inl (Or.inr h)
  · exact Or.inr h
theorem ad_n (a b : Nat) : nI a + nI b = nI (a + b) := nI_add a b
theorem kind_c {T : TT} {g sz i k : Nat} (h : T.2.1 g 7 = nI sz) (hs : sz ≤ 6) (hi : i < sz) (hk : T.1 g 2 i = nI k) (h6 : k < 6) : m_X4_kindOf T g (nI i) = some (g, 8 + k) := by
  unfold m_X4_kindOf m_X4_kindOf_b18
  rw [has_ok h hs hi, Option.bind_some, if_neg (by decide), if_pos (inb_n (by omega) (by decide)), cl_n (by omega), hk]
  have h1 : ¬ nI k < 0 := nI_pos (by omega)
  have h2 : ¬ (6 : Int32) ≤ nI k := nI_ge (b := 6) h6 (by decide)
  rw [if_neg h1, if_neg h2, if_pos (inb_n h6 (by decide)), cl_n (by omega)]
theorem kind_m {T : TT} {i : Nat} (hi : i < 6) : m_X11_kindOf T (nI i) = some (T.1 10 1 (17 + i)) := by
  unfold m_X11_kindOf
  have e : (17 : Int32) + nI i = nI (17 + i) := ad_n 17 i
  rw [e, if_pos (inb_n (by omega) (by decide)), cl_n (by omega)]
theorem Op.of {α : Type} {n : Nat} {x : Option (α × TT)} {y : TT → Option (α × TT)} {r : α} {T1 T2 : TT} (hx : x = some (r, T1)) (hy : y T1 = some (r, T2)) (h : Inv (n + 1) T2) : Op n x y := ⟨r, T1, T2, hx, hy, h⟩
theorem Inv.t0 {n : Nat} {T : TT} (h : Inv n T) : ∃ sz nc tc uc dy, RK T 0 (T.1 10 1) (99 * n) sz nc tc uc dy := h.2.1
theorem rfs_told (T : TT) (j : Nat) : (rfs T j).1 10 = T.1 10 := by
  funext b i
  unfold rfs
  rw [sA_v, if_neg (by omega)]
theorem op_status {n : Nat} {T : TT} (hn : n < 64) (h : Inv n T) (x : Int32) : Op n (m_X10_status T x) (fun T => m_X11_status T x) := by
  rcases rng x 0 2 (by decide) (by decide) with hb | ⟨k, -, hk, rfl⟩
  · refine Op.of (r := -1) (T1 := rfs T 0) (T2 := rfm (rfs T 0) 0) ?_ ?_ (h.refuse hn (by decide))
    · unfold m_X10_status
      rw [show m_X10_within x 0 2 = some 0 from w_bad hb]
      rfl
    · show m_X11_status _ _ = _
      unfold m_X11_status
      rw [in_bad (lo := nI 0) (hi := nI 2) (by decide) (by decide) hb]
      rfl
  · refine Op.of (r := T.1 4 4 k) (T1 := T) (T2 := T) ?_ ?_ (h.keep hn Fr.rf)
    · unfold m_X10_status
      rw [show m_X10_within (nI k) 0 2 = some 1 from w_ok (Nat.zero_le k) hk (by decide), Option.bind_some, if_neg (by decide), if_pos (inb_n (by omega) (by decide)), cl_n (by omega)]
    · show m_X11_status _ _ = _
      unfold m_X11_status
      rw [in_ok (lo := nI 0) (hi := nI 2) (by decide) (by decide) (nI_rng (Nat.zero_le k) hk (by decide)), Option.bind_some, if_neg (by decide), if_pos (inb_n (by omega) (by decide)), cl_n (by omega), h.2.2.2.2.1 k (by omega)]
theorem op_part {n : Nat} {T : TT} (hn : n < 64) (h : Inv n T) (x : Int32) : Op n (m_X10_part T x) (fun T => m_X11_part T x) := by
  rcases rng x 0 1 (by decide) (by decide) with hb | ⟨k, -, hk, rfl⟩
  · refine Op.of (r := (-2 : Int32).toInt64) (T1 := rfs T 0) (T2 := rfm (rfs T 0) 0) ?_ ?_ (h.refuse hn (by decide))
    · unfold m_X10_part
      rw [show m_X10_within x 0 1 = some 0 from w_bad hb]
      rfl
    · show m_X11_part _ _ = _
      unfold m_X11_part
      have h0 : ¬ x = 0 := fun e => by subst e; revert hb; decide
      have h1 : ¬ x = 1 := fun e => by subst e; revert hb; decide
      rw [if_neg h0, if_neg h1]
      rfl
  · rcases (show k = 0 ∨ k = 1 by omega) with rfl | rfl
    · exact Op.of (r := T.2.2.1 4 9) (T1 := T) (T2 := T) rfl (by rw [h.2.2.2.2.2.1]; rfl) (h.keep hn Fr.rf)
    · exact Op.of (r := T.2.2.1 4 10) (T1 := T) (T2 := T) rfl (by rw [h.2.2.2.2.2.2]; rfl) (h.keep hn Fr.rf)
theorem op_of {n : Nat} {T : TT} (hn : n < 64) (h : Inv n T) (x y : Int32) : Op n (m_X10_of T x y) (fun T => m_X11_of T x y) := by
  obtain ⟨sz, nc, tc, uc, dy, hR⟩ := h.t0
  have hsz := hR.1.1
  have hbad : ∀ (e1 : m_X10_of T x y = some (-2, rfs T 0)) (e2 : m_X11_of (rfs T 0) x y = some (-2, rfm (rfs T 0) 0)), Op n (m_X10_of T x y) (fun T => m_X11_of T x y) := fun e1 e2 => Op.of e1 e2 (h.refuse hn (by decide))
  rcases ixd x sz hsz with hb | ⟨i, hi, rfl⟩
  · refine hbad ?_ ?_
    · unfold m_X10_of
      rw [has_bad hR.2.1.1 hb]
      rfl
    · unfold m_X11_of
      rw [dr_bad (by rw [rfs_told]; exact hR.2.2.1.1) hsz hb]
      rfl
  · obtain ⟨⟨k, hk, k1, k2⟩, ⟨g, hg, g1, g2⟩, m1⟩ := hR.2.2.2.1 i hi
    have hin : inb (nI i) 6 := inb_n (by omega) (by decide)
    have hci : (nI i).toNatClampNeg = i := cl_n (by omega)
    rcases rng y 0 2 (by decide) (by decide) with hb | ⟨j, -, hj, rfl⟩
    · have h0 : ¬ y = 0 := fun e => by subst e; revert hb; decide
      have h1 : ¬ y = 1 := fun e => by subst e; revert hb; decide
      have h2 : ¬ y = 2 := fun e => by subst e; revert hb; decide
      refine hbad ?_ ?_
      · unfold m_X10_of
        rw [has_ok hR.2.1.1 hsz hi, Option.bind_some, if_neg (by decide), if_neg h0, if_neg h1, if_neg h2]
        rfl
      · unfold m_X11_of
        rw [dr_ok (by rw [rfs_told]; exact hR.2.2.1.1) hsz hi, Option.bind_some, if_neg (by decide), in_bad (lo := nI 0) (hi := nI 2) (by decide) (by decide) hb]
        rfl
    · have e17 : (17 : Int32) + nI i = nI (17 + i) := ad_n 17 i
      have e4 : (4 : Int32) + nI i = nI (4 + i) := ad_n 4 i
      have e10 : (10 : Int32) + nI i = nI (10 + i) := ad_n 10 i
      refine Op.of (r := if j = 0 then nI k else if j = 1 then nI g else T.1 0 4 i) (T1 := T) (T2 := T) ?_ ?_ (h.keep hn Fr.rf)
      · unfold m_X10_of
        rw [has_ok hR.2.1.1 hsz hi, Option.bind_some, if_neg (by decide)]
        rcases (show j = 0 ∨ j = 1 ∨ j = 2 by omega) with rfl | rfl | rfl
        · rw [if_pos (by decide), if_pos hin, hci, k1]; rfl
        · rw [if_neg (by decide), if_pos (by decide), if_pos hin, hci, g1]; rfl
        · rw [if_neg (by decide), if_neg (by decide), if_pos (by decide), if_pos hin, hci]; rfl
      · show m_X11_of _ _ _ = _
        unfold m_X11_of
        rw [dr_ok hR.2.2.1.1 hsz hi, Option.bind_some, if_neg (by decide), in_ok (lo := nI 0) (hi := nI 2) (by decide) (by decide) (nI_rng (Nat.zero_le j) hj (by decide)), Option.bind_some, if_neg (by decide), e17, e4, e10, if_pos (inb_n (by omega) (by decide)), if_pos (inb_n (by omega) (by decide)), if_pos (inb_n (by omega) (by decide)), cl_n (by omega), cl_n (by omega), cl_n (by omega), k2, g2, ← m1]
        rcases (show j = 0 ∨ j = 1 ∨ j = 2 by omega) with rfl | rfl | rfl
        · rfl
        · rfl
        · rfl
