theorem mu_n (a b : Nat) : nI a * nI b = nI (a * b) := pk_mul a b
theorem addN_full {T : TT} {g : Nat} {a b c d e f : Int32} (h : T.2.1 g 9 = nI 6) : m_X4_addNote T g a b c d e f = some (-4, T) := by
  unfold m_X4_addNote
  rw [h]
  rfl
theorem addN_v {T : TT} {g q : Nat} {a b c d e f : Int32} (h : T.2.1 g 9 = nI q) (hq : q < 6) : m_X4_addNote T g a b c d e f = some (nI (q + 1), sI (sA (sA (sA (sA (sA (sA T g 5 (6 * q) a) g 5 (6 * q + 1) b) g 5 (6 * q + 2) c) g 5 (6 * q + 3) d) g 5 (6 * q + 4) e) g 5 (6 * q + 5) f) g 9 (nI (q + 1))) := by
  unfold m_X4_addNote
  have h6 : nI q < 6 := nI_lt (b := 6) hq (by decide)
  have e0 : nI q * 6 = nI (6 * q) := by rw [Nat.mul_comm]; exact mu_n q 6
  have e1 : nI (6 * q) + 1 = nI (6 * q + 1) := ad_n _ 1
  have e2 : nI (6 * q) + 2 = nI (6 * q + 2) := ad_n _ 2
  have e3 : nI (6 * q) + 3 = nI (6 * q + 3) := ad_n _ 3
  have e4 : nI (6 * q) + 4 = nI (6 * q + 4) := ad_n _ 4
  have e5 : nI (6 * q) + 5 = nI (6 * q + 5) := ad_n _ 5
  rw [h, if_pos h6, bT_v, e0, e1, e2, e3, e4, e5, if_pos (inb_n (by omega) (by decide)), bT_v, if_pos (inb_n (by omega) (by decide)), bT_v, if_pos (inb_n (by omega) (by decide)), bT_v, if_pos (inb_n (by omega) (by decide)), bT_v, if_pos (inb_n (by omega) (by decide)), bT_v, if_pos (inb_n (by omega) (by decide)), bT_v, bT_v, cl_n (by omega), cl_n (by omega), cl_n (by omega), cl_n (by omega), cl_n (by omega), cl_n (by omega), sA_2, sA_2, sA_2, sA_2, sA_2, sA_2, h, nI_1, sI_v, if_pos ⟨rfl, rfl⟩]
theorem op_note {n : Nat} {T : TT} (hn : n < 64) (h : Inv n T) (x1 x2 x3 x4 x5 x6 : Int32) : Op n (m_X10_note T x1 x2 x3 x4 x5 x6) (fun T => m_X11_note T x1 x2 x3 x4 x5 x6) := by
  obtain ⟨sz, nc, tc, uc, dy, hR⟩ := h.t0
  have hsz := hR.1.1
  have hbad : ∀ (e1 : m_X10_note T x1 x2 x3 x4 x5 x6 = some (-2, rfs T 0)) (e2 : m_X11_note (rfs T 0) x1 x2 x3 x4 x5 x6 = some (-2, rfm (rfs T 0) 0)), Op n (m_X10_note T x1 x2 x3 x4 x5 x6) (fun T => m_X11_note T x1 x2 x3 x4 x5 x6) := fun e1 e2 => Op.of e1 e2 (h.refuse hn (by decide))
  have h0 : (rfs T 0).1 10 1 0 = nI sz := by rw [rfs_told]; exact hR.2.2.1.1
  rcases ixd x1 sz hsz with hb | ⟨i, hi, rfl⟩
  · refine hbad ?_ ?_
    · unfold m_X10_note
      rw [has_bad hR.2.1.1 hb]
      rfl
    · unfold m_X11_note
      rw [dr_bad h0 hsz hb]
      rfl
  rcases rng x2 0 99 (by decide) (by decide) with hb | ⟨g, -, hg, rfl⟩
  · refine hbad ?_ ?_
    · unfold m_X10_note
      rw [has_ok hR.2.1.1 hsz hi, Option.bind_some, if_neg (by decide), show m_X10_within x2 0 99 = some 0 from w_bad hb]
      rfl
    · unfold m_X11_note
      rw [dr_ok h0 hsz hi, Option.bind_some, if_neg (by decide), in_bad (lo := nI 0) (hi := nI 99) (by decide) (by decide) hb]
      rfl
  have w2 : m_X10_within (nI g) 0 99 = some 1 := w_ok (Nat.zero_le g) hg (by decide)
  have n2 : m_X11_in (nI g).toInt64 0 99 = some 1 := in_ok (lo := nI 0) (hi := nI 99) (by decide) (by decide) (nI_rng (Nat.zero_le g) hg (by decide))
  rcases rng x3 0 3 (by decide) (by decide) with hb | ⟨s, -, hs, rfl⟩
  · refine hbad ?_ ?_
    · unfold m_X10_note
      rw [has_ok hR.2.1.1 hsz hi, Option.bind_some, if_neg (by decide), w2, Option.bind_some, if_neg (by decide), show m_X10_within x3 0 3 = some 0 from w_bad hb]
      rfl
    · unfold m_X11_note
      rw [dr_ok h0 hsz hi, Option.bind_some, if_neg (by decide), n2, Option.bind_some, if_neg (by decide), in_bad (lo := nI 0) (hi := nI 3) (by decide) (by decide) hb]
      rfl
  have w3 : m_X10_within (nI s) 0 3 = some 1 := w_ok (Nat.zero_le s) hs (by decide)
  have n3 : m_X11_in (nI s).toInt64 0 3 = some 1 := in_ok (lo := nI 0) (hi := nI 3) (by decide) (by decide) (nI_rng (Nat.zero_le s) hs (by decide))
  have c1 : m_X10_note T (nI i) (nI g) (nI s) x4 x5 x6 = m_X10_note_b35 T (nI i) (nI g) (nI s) x4 x5 x6 1 := by
    unfold m_X10_note
    rw [has_ok hR.2.1.1 hsz hi, Option.bind_some, if_neg (by decide), w2, Option.bind_some, if_neg (by decide), w3, Option.bind_some, if_neg (by decide)]
  rcases rng x4 0 200 (by decide) (by decide) with hb | ⟨v, -, hv, rfl⟩
  · refine hbad ?_ ?_
    · rw [c1]
      unfold m_X10_note_b35
      rw [if_neg (by decide), show m_X10_within x4 0 200 = some 0 from w_bad hb]
      rfl
    · unfold m_X11_note
      rw [dr_ok h0 hsz hi, Option.bind_some, if_neg (by decide), n2, Option.bind_some, if_neg (by decide), n3, Option.bind_some, if_neg (by decide), in_bad (lo := nI 0) (hi := nI 200) (by decide) (by decide) hb]
      rfl
  have w4 : m_X10_within (nI v) 0 200 = some 1 := w_ok (Nat.zero_le v) hv (by decide)
  have n4 : m_X11_in (nI v).toInt64 0 200 = some 1 := in_ok (lo := nI 0) (hi := nI 200) (by decide) (by decide) (nI_rng (Nat.zero_le v) hv (by decide))
  rcases rng x5 0 2 (by decide) (by decide) with hb | ⟨c, -, hc, rfl⟩
  · refine hbad ?_ ?_
    · rw [c1]
      unfold m_X10_note_b35
      rw [if_neg (by decide), w4, Option.bind_some, if_neg (by decide), ch_bad hb]
      rfl
    · unfold m_X11_note
      rw [dr_ok h0 hsz hi, Option.bind_some, if_neg (by decide), n2, Option.bind_some, if_neg (by decide), n3, Option.bind_some, if_neg (by decide), n4, Option.bind_some, if_neg (by decide), chm_bad hb]
      rfl
  rcases rng x6 0 99 (by decide) (by decide) with hb | ⟨y, -, hy, rfl⟩
  · refine hbad ?_ ?_
    · rw [c1]
      unfold m_X10_note_b35
      rw [if_neg (by decide), w4, Option.bind_some, if_neg (by decide), ch_ok hc, Option.bind_some, if_neg (by decide), show m_X10_within x6 0 99 = some 0 from w_bad hb]
      rfl
    · unfold m_X11_note
      rw [dr_ok h0 hsz hi, Option.bind_some, if_neg (by decide), n2, Option.bind_some, if_neg (by decide), n3, Option.bind_some, if_neg (by decide), n4, Option.bind_some, if_neg (by decide), chm_ok hc, Option.bind_some, if_neg (by decide), in_bad (lo := nI 0) (hi := nI 99) (by decide) (by decide) hb]
      rfl
  have w6 : m_X10_within (nI y) 0 99 = some 1 := w_ok (Nat.zero_le y) hy (by decide)
  have n6 : m_X11_in (nI y).toInt64 0 99 = some 1 := in_ok (lo := nI 0) (hi := nI 99) (by decide) (by decide) (nI_rng (Nat.zero_le y) hy (by decide))
  have c2 : m_X10_note T (nI i) (nI g) (nI s) (nI v) (nI c) (nI y) = (m_X4_addNote T 0 (nI i) (nI g) (nI s) (nI v) (nI c) (nI y)).bind (fun z10 => (m_X10_refuseIfFull z10.2 z10.1).bind (fun z11 => some (z11.1, z11.2))) := by
    rw [c1]
    unfold m_X10_note_b35
    rw [if_neg (by decide), w4, Option.bind_some, if_neg (by decide), ch_ok hc, Option.bind_some, if_neg (by decide), w6, Option.bind_some, if_neg (by decide)]
  obtain ⟨⟨b1, b2, b3, b4, b5⟩, ⟨i1, i2, i3, i4, i5⟩, ⟨j1, j2, j3, j4, j5⟩, hd, hno, htr, hpa⟩ := hR
  by_cases h6 : nc = 6
  · subst h6
    refine Op.of (r := -4) (T1 := rfs T 2) (T2 := rfm (rfs T 2) 2) ?_ ?_ (h.refuse hn (by decide))
    · rw [c2, addN_full i3, Option.bind_some, rif_full]
      rfl
    · show m_X11_note _ _ _ _ _ _ _ = _
      unfold m_X11_note
      rw [dr_ok (by rw [rfs_told]; exact j1) hsz hi, Option.bind_some, if_neg (by decide), n2, Option.bind_some, if_neg (by decide), n3, Option.bind_some, if_neg (by decide), n4, Option.bind_some, if_neg (by decide), chm_ok hc, Option.bind_some, if_neg (by decide), n6, Option.bind_some, if_neg (by decide), rfs_told, j3, if_pos (by decide)]
      rfl
  · have hq : nc < 6 := by omega
    generalize hT1 : sI (sA (sA (sA (sA (sA (sA T 0 5 (6 * nc) (nI i)) 0 5 (6 * nc + 1) (nI g)) 0 5 (6 * nc + 2) (nI s)) 0 5 (6 * nc + 3) (nI v)) 0 5 (6 * nc + 4) (nI c)) 0 5 (6 * nc + 5) (nI y)) 0 9 (nI (nc + 1)) = T1
    generalize hT2 : sA (sA (sA (sA (sA (sA (sA T1 10 1 (23 + 6 * nc) (nI i)) 10 1 (23 + 6 * nc + 1) (nI g)) 10 1 (23 + 6 * nc + 2) (nI s)) 10 1 (23 + 6 * nc + 3) (nI v)) 10 1 (23 + 6 * nc + 4) (nI c)) 10 1 (23 + 6 * nc + 5) (nI y)) 10 1 1 (nI (nc + 1)) = T2
    have a1 : ∀ a b j, T1.1 a b j = if a = 0 ∧ b = 5 ∧ j = 6 * nc + 5 then nI y else if a = 0 ∧ b = 5 ∧ j = 6 * nc + 4 then nI c else if a = 0 ∧ b = 5 ∧ j = 6 * nc + 3 then nI v else if a = 0 ∧ b = 5 ∧ j = 6 * nc + 2 then nI s else if a = 0 ∧ b = 5 ∧ j = 6 * nc + 1 then nI g else if a = 0 ∧ b = 5 ∧ j = 6 * nc then nI i else T.1 a b j := fun a b j => by rw [← hT1, sI_1, sA_v, sA_v, sA_v, sA_v, sA_v, sA_v]
    have ii : ∀ a b, T1.2.1 a b = if a = 0 ∧ b = 9 then nI (nc + 1) else T.2.1 a b := fun a b => by rw [← hT1, sI_v]; rfl
    have a2 : ∀ a b j, T2.1 a b j = if a = 10 ∧ b = 1 ∧ j = 1 then nI (nc + 1) else if a = 10 ∧ b = 1 ∧ j = 23 + 6 * nc + 5 then nI y else if a = 10 ∧ b = 1 ∧ j = 23 + 6 * nc + 4 then nI c else if a = 10 ∧ b = 1 ∧ j = 23 + 6 * nc + 3 then nI v else if a = 10 ∧ b = 1 ∧ j = 23 + 6 * nc + 2 then nI s else if a = 10 ∧ b = 1 ∧ j = 23 + 6 * nc + 1 then nI g else if a = 10 ∧ b = 1 ∧ j = 23 + 6 * nc then nI i else T1.1 a b j := fun a b j => by rw [← hT2, sA_v, sA_v, sA_v, sA_v, sA_v, sA_v, sA_v]
    have e22 : T2.2 = T1.2 := by rw [← hT2]; rfl
    have el : T1.2.2 = T.2.2 := by rw [← hT1]; rfl
    have h10 : T1.1 10 = T.1 10 := by
      funext b j
      rw [a1, if_neg (by omega), if_neg (by omega), if_neg (by omega), if_neg (by omega), if_neg (by omega), if_neg (by omega)]
    refine Op.of (r := nI (nc + 1)) (T1 := T1) (T2 := T2) ?_ ?_ ?_
    · rw [c2, addN_v i3 hq, Option.bind_some, hT1, rif_no (by omega)]
      rfl
    · show m_X11_note _ _ _ _ _ _ _ = _
      unfold m_X11_note
      have hn6 : ¬ nI nc = 6 := fun e => h6 ((nI_eq (a := nc) (b := 6) (by omega) (by decide)).mp e)
      have e0 : (23 : Int32) + (6 : Int32) * nI nc = nI (23 + 6 * nc) := by
        rw [show (6 : Int32) * nI nc = nI (6 * nc) from mu_n 6 nc]
        exact ad_n 23 _
      have e1 : nI (23 + 6 * nc) + 1 = nI (23 + 6 * nc + 1) := ad_n _ 1
      have e2 : nI (23 + 6 * nc) + 2 = nI (23 + 6 * nc + 2) := ad_n _ 2
      have e3 : nI (23 + 6 * nc) + 3 = nI (23 + 6 * nc + 3) := ad_n _ 3
      have e4 : nI (23 + 6 * nc) + 4 = nI (23 + 6 * nc + 4) := ad_n _ 4
      have e5 : nI (23 + 6 * nc) + 5 = nI (23 + 6 * nc + 5) := ad_n _ 5
      rw [dr_ok (by rw [h10]; exact j1) hsz hi, Option.bind_some, if_neg (by decide), n2, Option.bind_some, if_neg (by decide), n3, Option.bind_some, if_neg (by decide), n4, Option.bind_some, if_neg (by decide), chm_ok hc, Option.bind_some, if_neg (by decide), n6, Option.bind_some, if_neg (by decide), h10, j3, if_neg hn6, bT_v, e0, e1, e2, e3, e4, e5, if_pos (inb_n (by omega) (by decide)), bT_v, if_pos (inb_n (by omega) (by decide)), bT_v, if_pos (inb_n (by omega) (by decide)), bT_v, if_pos (inb_n (by omega) (by decide)), bT_v, if_pos (inb_n (by omega) (by decide)), bT_v, if_pos (inb_n (by omega) (by decide)), bT_v, bT_v, cl_n (by omega), cl_n (by omega), cl_n (by omega), cl_n (by omega), cl_n (by omega), cl_n (by omega)]
      have em : (sA (sA (sA (sA (sA (sA T1 10 1 (23 + 6 * nc) (nI i)) 10 1 (23 + 6 * nc + 1) (nI g)) 10 1 (23 + 6 * nc + 2) (nI s)) 10 1 (23 + 6 * nc + 3) (nI v)) 10 1 (23 + 6 * nc + 4) (nI c)) 10 1 (23 + 6 * nc + 5) (nI y)).1 10 1 1 = nI nc := by
        rw [sA_v, if_neg (by omega), sA_v, if_neg (by omega), sA_v, if_neg (by omega), sA_v, if_neg (by omega), sA_v, if_neg (by omega), sA_v, if_neg (by omega), h10]
        exact j3
      rw [em, nI_1, hT2, a2, if_pos ⟨rfl, rfl, rfl⟩]
    · have eo : ∀ a b, ¬ (a = 0 ∧ b = 5) → ¬ (a = 10 ∧ b = 1) → T2.1 a b = T.1 a b := fun a b q1 q2 => by
        funext j
        rw [a2, if_neg (by omega), if_neg (by omega), if_neg (by omega), if_neg (by omega), if_neg (by omega), if_neg (by omega), if_neg (by omega), a1, if_neg (by omega), if_neg (by omega), if_neg (by omega), if_neg (by omega), if_neg (by omega), if_neg (by omega)]
      have eio : ∀ a b, ¬ (a = 0 ∧ b = 9) → T2.2.1 a b = T.2.1 a b := fun a b q => by rw [e22, ii, if_neg q]
      have ek : ∀ j, j ≠ 1 → (j < 23 + 6 * nc ∨ 23 + 6 * nc + 5 < j) → T2.1 10 1 j = T.1 10 1 j := fun j q1 q2 => by
        rw [a2, if_neg (by omega), if_neg (by omega), if_neg (by omega), if_neg (by omega), if_neg (by omega), if_neg (by omega), if_neg (by omega), h10]
      have e5 : ∀ j, j < 6 * nc → T2.1 0 5 j = T.1 0 5 j := fun j q => by
        rw [a2, if_neg (by omega), if_neg (by omega), if_neg (by omega), if_neg (by omega), if_neg (by omega), if_neg (by omega), if_neg (by omega), a1, if_neg (by omega), if_neg (by omega), if_neg (by omega), if_neg (by omega), if_neg (by omega), if_neg (by omega)]
      refine ⟨hn, ⟨sz, nc + 1, tc, uc, dy, ⟨⟨b1, by omega, b3, b4, by omega⟩, ⟨by rw [eio 0 7 (by omega)]; exact i1, by rw [eio 0 8 (by omega)]; exact i2, by rw [e22, ii, if_pos ⟨rfl, rfl⟩], by rw [eio 0 10 (by omega)]; exact i4, by rw [eio 0 11 (by omega)]; exact i5⟩, ⟨by rw [ek 0 (by omega) (by omega)]; exact j1, by rw [ek 16 (by omega) (by omega)]; exact j2, by rw [a2, if_pos ⟨rfl, rfl, rfl⟩], by rw [ek 2 (by omega) (by omega)]; exact j4, by rw [ek 3 (by omega) (by omega)]; exact j5⟩, fun i hi => ?_, ⟨fun j hj => ?_, fun m hm => ?_⟩, ⟨fun j hj => ?_, fun m hm => ?_⟩, fun u hu => ?_⟩⟩, h.img (fun f => eo 2 f (by omega) (by omega)) (fun f => eo 3 f (by omega) (by omega)) (fun q => eio 2 q (by omega)) (fun q => eio 3 q (by omega)) (eo 4 2 (by omega) (by omega)) (eo 10 2 (by omega) (by omega)) (eo 10 3 (by omega) (by omega)), h.tx (eo 5 1 (by omega) (by omega)) (eo 10 8 (by omega) (by omega)) (eio 5 1 (by omega)) (eio 10 13 (by omega)), fun j hj => by rw [eo 4 4 (by omega) (by omega), eo 10 4 (by omega) (by omega)]; exact h.2.2.2.2.1 j hj, by rw [e22, el]; exact h.2.2.2.2.2.1, by rw [e22, el]; exact h.2.2.2.2.2.2⟩
      · rw [eo 0 2 (by omega) (by omega), eo 0 3 (by omega) (by omega), eo 0 4 (by omega) (by omega), ek (17 + i) (by omega) (by omega), ek (4 + i) (by omega) (by omega), ek (10 + i) (by omega) (by omega)]
        exact hd i hi
      · by_cases hj6 : j < 6 * nc
        · rw [e5 j hj6, ek (23 + j) (by omega) (by omega)]
          exact hno.1 j hj6
        · obtain ⟨q, rfl⟩ : ∃ q, j = 6 * nc + q := ⟨j - 6 * nc, by omega⟩
          rw [a2, a2, a1]
          rcases (show q = 0 ∨ q = 1 ∨ q = 2 ∨ q = 3 ∨ q = 4 ∨ q = 5 by omega) with rfl | rfl | rfl | rfl | rfl | rfl
          · simp [show ¬ 23 + 6 * nc = 1 by omega]
          · simp [← Nat.add_assoc, show ¬ 23 + 6 * nc + 1 = 1 by omega]
          · simp [← Nat.add_assoc, show ¬ 23 + 6 * nc + 2 = 1 by omega]
          · simp [← Nat.add_assoc, show ¬ 23 + 6 * nc + 3 = 1 by omega]
          · simp [← Nat.add_assoc, show ¬ 23 + 6 * nc + 4 = 1 by omega]
          · simp [← Nat.add_assoc, show ¬ 23 + 6 * nc + 5 = 1 by omega]
      · by_cases hm6 : m < nc
        · rw [ek _ (by omega) (by omega), ek _ (by omega) (by omega), ek _ (by omega) (by omega)]
          exact hno.2 m hm6
        · have hm : m = nc := by omega
          subst hm
          refine ⟨g, s, c, by omega, by omega, by omega, ?_, ?_, ?_⟩
          · rw [a2, if_neg (by omega), if_neg (by omega), if_neg (by omega), if_neg (by omega), if_neg (by omega), if_pos (by omega)]
          · rw [a2, if_neg (by omega), if_neg (by omega), if_neg (by omega), if_neg (by omega), if_pos (by omega)]
          · rw [a2, if_neg (by omega), if_neg (by omega), if_pos (by omega)]
      · rw [eo 0 6 (by omega) (by omega), ek (59 + j) (by omega) (by omega)]
        exact htr.1 j hj
      · rw [ek _ (by omega) (by omega)]
        exact htr.2 m hm
      · obtain ⟨⟨d, q1, q2, q3⟩, q4⟩ := hpa u hu
        refine ⟨⟨d, by omega, by rw [eo 0 7 (by omega) (by omega)]; exact q2, by rw [ek _ (by omega) (by omega)]; exact q3⟩, fun i hi => ?_⟩
        rw [eo 0 7 (by omega) (by omega), ek (71 + (13 * u + i)) (by omega) (by omega), ek (71 + (13 * u + (6 + i))) (by omega) (by omega)]
        exact q4 i hi
