theorem bT_v {α β : Type} (x : α) (k : α → β) : bT x k = k x := rfl
theorem Inv.img {n : Nat} {T T' : TT} (h : Inv n T) (a2 : ∀ f, T'.1 2 f = T.1 2 f) (a3 : ∀ f, T'.1 3 f = T.1 3 f) (b2 : ∀ k, T'.2.1 2 k = T.2.1 2 k) (b3 : ∀ k, T'.2.1 3 k = T.2.1 3 k) (d2 : T'.1 4 2 = T.1 4 2) (c2 : T'.1 10 2 = T.1 10 2) (c3 : T'.1 10 3 = T.1 10 3) : ∀ j, j < 2 → T'.1 4 2 j = T'.1 10 3 j ∧ (T'.1 4 2 j = 0 ∨ (T'.1 4 2 j = 1 ∧ RE T' (2 + j) (fun i => T'.1 10 2 (175 * j + i)) (99 * (n + 1)))) := fun j hj => by
  rw [d2, c3, c2]
  obtain ⟨q1, q2⟩ := h.2.2.1 j hj
  refine ⟨q1, q2.imp id (fun q => ⟨q.1, ?_⟩)⟩
  obtain ⟨sz, nc, tc, uc, dy, q3⟩ := q.2
  rcases (show j = 0 ∨ j = 1 by omega) with rfl | rfl
  · exact ⟨sz, nc, tc, uc, dy, q3.congr a2 b2 (fun i _ => rfl) (by omega)⟩
  · exact ⟨sz, nc, tc, uc, dy, q3.congr a3 b3 (fun i _ => rfl) (by omega)⟩
theorem Inv.rk {n : Nat} {T T' : TT} (h : Inv n T) (a0 : ∀ f, T'.1 0 f = T.1 0 f) (b0 : ∀ k, T'.2.1 0 k = T.2.1 0 k) (c1 : T'.1 10 1 = T.1 10 1) : RE T' 0 (T'.1 10 1) (99 * (n + 1)) := by
  obtain ⟨sz, nc, tc, uc, dy, h1⟩ := h.2.1
  exact ⟨sz, nc, tc, uc, dy, h1.congr a0 b0 (fun i _ => by rw [c1]) (by omega)⟩
theorem Inv.tx {n : Nat} {T T' : TT} (h : Inv n T) (e1 : T'.1 5 1 = T.1 5 1) (c8 : T'.1 10 8 = T.1 10 8) (i5 : T'.2.1 5 1 = T.2.1 5 1) (i13 : T'.2.1 10 13 = T.2.1 10 13) : ∃ tl, tl ≤ n + 1 ∧ T'.2.1 5 1 = nI tl ∧ T'.2.1 10 13 = nI tl ∧ ∀ j, j < tl → ∃ c, c < 128 ∧ T'.1 5 1 j = nI c ∧ T'.1 10 8 j = nI c := by
  obtain ⟨tl, t1, t2, t3, t4⟩ := h.2.2.2.1
  exact ⟨tl, by omega, by rw [i5]; exact t2, by rw [i13]; exact t3, fun j hj => by rw [e1, c8]; exact t4 j hj⟩
theorem op_clear {n : Nat} {T : TT} (hn : n < 64) (h : Inv n T) : Op n (m_X10_clear T) (fun T => m_X11_clear T) := by
  obtain ⟨tl, t1, t2, t3, t4⟩ := h.2.2.2.1
  refine Op.of (r := nI tl) (T1 := sI T 5 1 0) (T2 := sI (sI T 5 1 0) 10 13 0) ?_ ?_ ?_
  · show some (T.2.1 5 1, _) = _
    rw [t2]
  · show some (T.2.1 10 13, _) = _
    rw [t3]
  · have e : ∀ a b, ¬ (a = 5 ∧ b = 1) → ¬ (a = 10 ∧ b = 13) → (sI (sI T 5 1 0) 10 13 0).2.1 a b = T.2.1 a b := fun a b q1 q2 => by rw [sI_v, if_neg q2, sI_v, if_neg q1]
    exact ⟨hn, h.rk (fun _ => rfl) (fun k => e 0 k (by omega) (by omega)) rfl, h.img (fun _ => rfl) (fun _ => rfl) (fun k => e 2 k (by omega) (by omega)) (fun k => e 3 k (by omega) (by omega)) rfl rfl rfl, ⟨0, by omega, rfl, rfl, fun j hj => absurd hj (by omega)⟩, h.2.2.2.2.1, h.2.2.2.2.2.1, h.2.2.2.2.2.2⟩
theorem byte_ok : ∀ c, c < 128 → vp_nar .byte ((nI c).toInt8.toInt32) = nI c := by decide +kernel
theorem op_type {n : Nat} {T : TT} (hn : n < 64) (h : Inv n T) (x : Int32) : Op n (m_X10_type T x) (fun T => m_X11_type T x) := by
  rcases rng x 0 127 (by decide) (by decide) with hb | ⟨c, -, hc, rfl⟩
  · refine Op.of (r := -2) (T1 := rfs T 0) (T2 := rfm (rfs T 0) 0) ?_ ?_ (h.refuse hn (by decide))
    · unfold m_X10_type
      rw [show m_X10_within x 0 127 = some 0 from w_bad hb]
      rfl
    · show m_X11_type _ _ = _
      unfold m_X11_type
      rw [in_bad (lo := nI 0) (hi := nI 127) (by decide) (by decide) hb]
      rfl
  · obtain ⟨tl, t1, t2, t3, t4⟩ := h.2.2.2.1
    have hne : ¬ nI (tl + 1) = -4 := fun e => by
      have := congrArg Int32.toInt e
      rw [nI_toInt (by omega)] at this
      have e4 : (-4 : Int32).toInt = -4 := by decide
      omega
    refine Op.of (r := nI (tl + 1)) (T1 := sI (sA T 5 1 tl (nI c)) 5 1 (nI (tl + 1))) (T2 := sI (sA (sI (sA T 5 1 tl (nI c)) 5 1 (nI (tl + 1))) 10 8 tl (nI c)) 10 13 (nI (tl + 1))) ?_ ?_ ?_
    · unfold m_X10_type
      rw [show m_X10_within (nI c) 0 127 = some 1 from w_ok (Nat.zero_le c) hc (by decide), Option.bind_some, if_neg (by decide)]
      have ea : m_X9_append T (nI c) = some (nI (tl + 1), sI (sA T 5 1 tl (nI c)) 5 1 (nI (tl + 1))) := by
        unfold m_X9_append
        have h9 : nI tl < 150 := nI_lt (b := 150) (by omega) (by decide)
        rw [t2, if_pos h9, if_pos (inb_n (by omega) (by decide)), cl_n (by omega), byte_ok c (by omega), bT_v, bT_v, sA_2, t2, nI_1, sI_v, if_pos ⟨rfl, rfl⟩]
      rw [ea, Option.bind_some]
      unfold m_X10_refuseIfFull
      rw [if_neg hne]
      rfl
    · show m_X11_type _ _ = _
      unfold m_X11_type
      have e13 : (sI (sA T 5 1 tl (nI c)) 5 1 (nI (tl + 1))).2.1 10 13 = nI tl := by rw [sI_v, if_neg (by omega)]; exact t3
      have h150 : ¬ nI tl = 150 := fun e => by
        have := (nI_eq (a := tl) (b := 150) (by omega) (by decide)).mp e
        omega
      rw [in_ok (lo := nI 0) (hi := nI 127) (by decide) (by decide) (nI_rng (Nat.zero_le c) hc (by decide)), Option.bind_some, if_neg (by decide), e13, if_neg h150, if_pos (inb_n (by omega) (by decide)), cl_n (by omega), bT_v, bT_v, sA_2, e13, nI_1, sI_v, if_pos ⟨rfl, rfl⟩]
    · generalize hT2 : sI (sA (sI (sA T 5 1 tl (nI c)) 5 1 (nI (tl + 1))) 10 8 tl (nI c)) 10 13 (nI (tl + 1)) = T2
      have ei : ∀ a b, T2.2.1 a b = if a = 10 ∧ b = 13 then nI (tl + 1) else if a = 5 ∧ b = 1 then nI (tl + 1) else T.2.1 a b := fun a b => by rw [← hT2, sI_v, sA_2, sI_v, sA_2]
      have ea : ∀ a b i, T2.1 a b i = if a = 10 ∧ b = 8 ∧ i = tl then nI c else if a = 5 ∧ b = 1 ∧ i = tl then nI c else T.1 a b i := fun a b i => by rw [← hT2, sI_1, sA_v, sI_1, sA_v]
      have eo : ∀ a b, ¬ (a = 10 ∧ b = 8) → ¬ (a = 5 ∧ b = 1) → T2.1 a b = T.1 a b := fun a b q1 q2 => by
        funext i
        rw [ea, if_neg (fun q => q1 ⟨q.1, q.2.1⟩), if_neg (fun q => q2 ⟨q.1, q.2.1⟩)]
      have eio : ∀ a b, ¬ (a = 10 ∧ b = 13) → ¬ (a = 5 ∧ b = 1) → T2.2.1 a b = T.2.1 a b := fun a b q1 q2 => by rw [ei, if_neg q1, if_neg q2]
      have el : T2.2.2.1 = T.2.2.1 := by rw [← hT2]; rfl
      refine ⟨hn, h.rk (fun f => eo 0 f (by omega) (by omega)) (fun k => eio 0 k (by omega) (by omega)) (eo 10 1 (by omega) (by omega)), h.img (fun f => eo 2 f (by omega) (by omega)) (fun f => eo 3 f (by omega) (by omega)) (fun k => eio 2 k (by omega) (by omega)) (fun k => eio 3 k (by omega) (by omega)) (eo 4 2 (by omega) (by omega)) (eo 10 2 (by omega) (by omega)) (eo 10 3 (by omega) (by omega)), ⟨tl + 1, by omega, by rw [ei]; simp, by rw [ei]; simp, fun j hj => ?_⟩, fun j hj => by rw [eo 4 4 (by omega) (by omega), eo 10 4 (by omega) (by omega)]; exact h.2.2.2.2.1 j hj, by rw [el]; exact h.2.2.2.2.2.1, by rw [el]; exact h.2.2.2.2.2.2⟩
      rw [ea, ea]
      by_cases hjt : j = tl
      · subst hjt
        exact ⟨c, by omega, by simp, by simp⟩
      · obtain ⟨c2, q1, q2, q3⟩ := t4 j (by omega)
        exact ⟨c2, q1, by simp [hjt, q2], by simp [hjt, q3]⟩
theorem op_today {n : Nat} {T : TT} (hn : n < 64) (h : Inv n T) (x y : Int32) : Op n (m_X10_today T x y) (fun T => m_X11_today T x y) := by
  obtain ⟨sz, nc, tc, uc, dy, hR⟩ := h.t0
  have hsz := hR.1.1
  have hbad : ∀ (e1 : m_X10_today T x y = some (-2, rfs T 0)) (e2 : m_X11_today (rfs T 0) x y = some (-2, rfm (rfs T 0) 0)), Op n (m_X10_today T x y) (fun T => m_X11_today T x y) := fun e1 e2 => Op.of e1 e2 (h.refuse hn (by decide))
  rcases ixd x sz hsz with hb | ⟨i, hi, rfl⟩
  · refine hbad ?_ ?_
    · unfold m_X10_today
      rw [has_bad hR.2.1.1 hb]
      rfl
    · unfold m_X11_today
      rw [dr_bad (by rw [rfs_told]; exact hR.2.2.1.1) hsz hb]
      rfl
  · obtain ⟨⟨k, hk, k1, k2⟩, ⟨g, hg, g1, g2⟩, m1⟩ := hR.2.2.2.1 i hi
    have hin : inb (nI i) 6 := inb_n (by omega) (by decide)
    have hci : (nI i).toNatClampNeg = i := cl_n (by omega)
    have e4 : (4 : Int32) + nI i = nI (4 + i) := ad_n 4 i
    have hdy : dy < 2 ^ 31 := by have := hR.1.2.2.2.2; have := h.1; omega
    have ks : kn (0, 8 + k).1 (0, 8 + k).2 = k := kn0 k
    by_cases hm1 : y = -1
    · subst hm1
      refine Op.of (r := nI (rF k (dy / 20 % 4) g)) (T1 := T) (T2 := T) ?_ ?_ (h.keep hn Fr.rf)
      · unfold m_X10_today m_X10_today_b30
        rw [has_ok hR.2.1.1 hsz hi, Option.bind_some, if_neg (by decide), if_pos rfl, kind_c hR.2.1.1 hsz hi k1 hk, Option.bind_some, if_pos hin, hci, bT_v, if_pos rfl, hR.2.1.2.1, sea_v hdy, Option.bind_some, g1, runs_v ks hk (Nat.mod_lt _ (by decide)) hg]
        rfl
      · show m_X11_today _ _ _ = _
        unfold m_X11_today
        rw [dr_ok hR.2.2.1.1 hsz hi, Option.bind_some, if_neg (by decide), in_ok (lo := -1) (hi := 2) (by decide) (by decide) (by decide), Option.bind_some, if_neg (by decide), e4, if_pos (inb_n (by omega) (by decide)), cl_n (by omega), bT_v, if_pos rfl, kind_m (by omega), Option.bind_some, hR.2.2.1.2.1, sea_m hdy, Option.bind_some, k2, g2, rF_m k hk _ (Nat.mod_lt _ (by decide)) g hg]
        rfl
    · rcases rng y 0 2 (by decide) (by decide) with hb | ⟨c, -, hc, rfl⟩
      · refine hbad ?_ ?_
        · unfold m_X10_today
          rw [has_ok hR.2.1.1 hsz hi, Option.bind_some, if_neg (by decide), if_neg hm1, ch_bad hb]
          rfl
        · unfold m_X11_today
          rw [dr_ok (by rw [rfs_told]; exact hR.2.2.1.1) hsz hi, Option.bind_some, if_neg (by decide), in_bad (lo := -1) (hi := 2) (by decide) (by decide)]
          · rfl
          · rcases hb with hb | hb
            · left
              rw [i32lt] at hb ⊢
              have e0 : (nI 0).toInt = 0 := by decide
              have e1 : (-1 : Int32).toInt = -1 := by decide
              have : y.toInt ≠ (-1 : Int32).toInt := fun e => hm1 (Int32.toInt_inj.mp e)
              omega
            · exact Or.inr hb
      · refine Op.of (r := nI (lF k c g)) (T1 := T) (T2 := T) ?_ ?_ (h.keep hn Fr.rf)
        · unfold m_X10_today m_X10_today_b30
          rw [has_ok hR.2.1.1 hsz hi, Option.bind_some, if_neg (by decide), if_neg hm1, ch_ok hc, Option.bind_some, if_neg (by decide), kind_c hR.2.1.1 hsz hi k1 hk, Option.bind_some, if_pos hin, hci, bT_v, if_neg hm1, g1, left_v ks hk (by omega) hg]
          rfl
        · show m_X11_today _ _ _ = _
          unfold m_X11_today
          have hq : ¬ (nI c < -1 ∨ 2 < nI c) := by
            rintro (q | q)
            · rw [i32lt, nI_toInt (by omega)] at q
              have e1 : (-1 : Int32).toInt = -1 := by decide
              omega
            · exact nI_nlt (b := c) (a := 2) hc (by decide) q
          rw [dr_ok hR.2.2.1.1 hsz hi, Option.bind_some, if_neg (by decide), in_ok (lo := -1) (hi := 2) (by decide) (by decide) hq, Option.bind_some, if_neg (by decide), e4, if_pos (inb_n (by omega) (by decide)), cl_n (by omega), bT_v, if_neg hm1, kind_m (by omega), Option.bind_some, k2, g2, lF_m k hk c (by omega) g hg]
          rfl
