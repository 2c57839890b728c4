theorem addT_full {T : TT} {g : Nat} {a b c : Int32} (h : T.2.1 g 10 = nI 4) : m_X4_addTrip T g a b c = some (-4, T) := by
  unfold m_X4_addTrip
  rw [h]
  rfl
theorem addT_v {T : TT} {g q : Nat} {a b c : Int32} (h : T.2.1 g 10 = nI q) (hq : q < 4) : m_X4_addTrip T g a b c = some (nI (q + 1), sI (sA (sA (sA T g 6 (3 * q) a) g 6 (3 * q + 1) b) g 6 (3 * q + 2) c) g 10 (nI (q + 1))) := by
  unfold m_X4_addTrip
  have h6 : nI q < 4 := nI_lt (b := 4) hq (by decide)
  have e0 : nI q * 3 = nI (3 * q) := by rw [Nat.mul_comm]; exact mu_n q 3
  have e1 : nI (3 * q) + 1 = nI (3 * q + 1) := ad_n _ 1
  have e2 : nI (3 * q) + 2 = nI (3 * q + 2) := ad_n _ 2
  rw [h, if_pos h6, bT_v, e0, e1, e2, if_pos (inb_n (by omega) (by decide)), bT_v, if_pos (inb_n (by omega) (by decide)), bT_v, if_pos (inb_n (by omega) (by decide)), bT_v, bT_v, cl_n (by omega), cl_n (by omega), cl_n (by omega), sA_2, sA_2, sA_2, h, nI_1, sI_v, if_pos ⟨rfl, rfl⟩]
theorem op_gone {n : Nat} {T : TT} (hn : n < 64) (h : Inv n T) (x1 x2 x3 : Int32) : Op n (m_X10_gone T x1 x2 x3) (fun T => m_X11_gone T x1 x2 x3) := by
  obtain ⟨sz, nc, tc, uc, dy, hR⟩ := h.t0
  have hsz := hR.1.1
  have hbad : ∀ (e1 : m_X10_gone T x1 x2 x3 = some (-2, rfs T 0)) (e2 : m_X11_gone (rfs T 0) x1 x2 x3 = some (-2, rfm (rfs T 0) 0)), Op n (m_X10_gone T x1 x2 x3) (fun T => m_X11_gone T x1 x2 x3) := fun e1 e2 => Op.of e1 e2 (h.refuse hn (by decide))
  have h0 : (rfs T 0).1 10 1 0 = nI sz := by rw [rfs_told]; exact hR.2.2.1.1
  rcases ixd x1 sz hsz with hb | ⟨i, hi, rfl⟩
  · refine hbad ?_ ?_
    · unfold m_X10_gone
      rw [has_bad hR.2.1.1 hb]
      rfl
    · unfold m_X11_gone
      rw [dr_bad h0 hsz hb]
      rfl
  rcases rng x2 1 30 (by decide) (by decide) with hb | ⟨g, hg1, hg, rfl⟩
  · refine hbad ?_ ?_
    · unfold m_X10_gone
      rw [has_ok hR.2.1.1 hsz hi, Option.bind_some, if_neg (by decide), show m_X10_within x2 1 30 = some 0 from w_bad hb]
      rfl
    · unfold m_X11_gone
      rw [dr_ok h0 hsz hi, Option.bind_some, if_neg (by decide), in_bad (lo := nI 1) (hi := nI 30) (by decide) (by decide) hb]
      rfl
  have w2 : m_X10_within (nI g) 1 30 = some 1 := w_ok hg1 hg (by decide)
  have n2 : m_X11_in (nI g).toInt64 1 30 = some 1 := in_ok (lo := nI 1) (hi := nI 30) (by decide) (by decide) (nI_rng hg1 hg (by decide))
  rcases rng x3 0 6000 (by decide) (by decide) with hb | ⟨s, -, hs, rfl⟩
  · refine hbad ?_ ?_
    · unfold m_X10_gone
      rw [has_ok hR.2.1.1 hsz hi, Option.bind_some, if_neg (by decide), w2, Option.bind_some, if_neg (by decide), show m_X10_within x3 0 6000 = some 0 from w_bad hb]
      rfl
    · unfold m_X11_gone
      rw [dr_ok h0 hsz hi, Option.bind_some, if_neg (by decide), n2, Option.bind_some, if_neg (by decide), in_bad (lo := nI 0) (hi := nI 6000) (by decide) (by decide) hb]
      rfl
  have w3 : m_X10_within (nI s) 0 6000 = some 1 := w_ok (Nat.zero_le s) hs (by decide)
  have n3 : m_X11_in (nI s).toInt64 0 6000 = some 1 := in_ok (lo := nI 0) (hi := nI 6000) (by decide) (by decide) (nI_rng (Nat.zero_le s) hs (by decide))
  have c2 : m_X10_gone T (nI i) (nI g) (nI s) = (m_X4_addTrip T 0 (nI i) (nI g) (nI s)).bind (fun z4 => (m_X10_refuseIfFull z4.2 z4.1).bind (fun z5 => some (z5.1, z5.2))) := by
    unfold m_X10_gone
    rw [has_ok hR.2.1.1 hsz hi, Option.bind_some, if_neg (by decide), w2, Option.bind_some, if_neg (by decide), w3, Option.bind_some, if_neg (by decide)]
  obtain ⟨⟨b1, b2, b3, b4, b5⟩, ⟨i1, i2, i3, i4, i5⟩, ⟨j1, j2, j3, j4, j5⟩, hd, hno, htr, hpa⟩ := hR
  by_cases h6 : tc = 4
  · subst h6
    refine Op.of (r := -4) (T1 := rfs T 2) (T2 := rfm (rfs T 2) 2) ?_ ?_ (h.refuse hn (by decide))
    · rw [c2, addT_full i4, Option.bind_some, rif_full]
      rfl
    · show m_X11_gone _ _ _ _ = _
      unfold m_X11_gone
      rw [dr_ok (by rw [rfs_told]; exact j1) hsz hi, Option.bind_some, if_neg (by decide), n2, Option.bind_some, if_neg (by decide), n3, Option.bind_some, if_neg (by decide), rfs_told, j4, if_pos (by decide)]
      rfl
  · have hq : tc < 4 := by omega
    generalize hT1 : sI (sA (sA (sA T 0 6 (3 * tc) (nI i)) 0 6 (3 * tc + 1) (nI g)) 0 6 (3 * tc + 2) (nI s)) 0 10 (nI (tc + 1)) = T1
    generalize hT2 : sA (sA (sA (sA T1 10 1 (59 + 3 * tc) (nI i)) 10 1 (59 + 3 * tc + 1) (nI g)) 10 1 (59 + 3 * tc + 2) (nI s)) 10 1 2 (nI (tc + 1)) = T2
    have a1 : ∀ a b j, T1.1 a b j = if a = 0 ∧ b = 6 ∧ j = 3 * tc + 2 then nI s else if a = 0 ∧ b = 6 ∧ j = 3 * tc + 1 then nI g else if a = 0 ∧ b = 6 ∧ j = 3 * tc then nI i else T.1 a b j := fun a b j => by rw [← hT1, sI_1, sA_v, sA_v, sA_v]
    have ii : ∀ a b, T1.2.1 a b = if a = 0 ∧ b = 10 then nI (tc + 1) else T.2.1 a b := fun a b => by rw [← hT1, sI_v]; rfl
    have a2 : ∀ a b j, T2.1 a b j = if a = 10 ∧ b = 1 ∧ j = 2 then nI (tc + 1) else if a = 10 ∧ b = 1 ∧ j = 59 + 3 * tc + 2 then nI s else if a = 10 ∧ b = 1 ∧ j = 59 + 3 * tc + 1 then nI g else if a = 10 ∧ b = 1 ∧ j = 59 + 3 * tc then nI i else T1.1 a b j := fun a b j => by rw [← hT2, sA_v, sA_v, sA_v, sA_v]
    have e22 : T2.2 = T1.2 := by rw [← hT2]; rfl
    have el : T1.2.2 = T.2.2 := by rw [← hT1]; rfl
    have h10 : T1.1 10 = T.1 10 := by
      funext b j
      rw [a1, if_neg (by omega), if_neg (by omega), if_neg (by omega)]
    refine Op.of (r := nI (tc + 1)) (T1 := T1) (T2 := T2) ?_ ?_ ?_
    · rw [c2, addT_v i4 hq, Option.bind_some, hT1, rif_no (by omega)]
      rfl
    · show m_X11_gone _ _ _ _ = _
      unfold m_X11_gone
      have hn6 : ¬ nI tc = 4 := fun e => h6 ((nI_eq (a := tc) (b := 4) (by omega) (by decide)).mp e)
      have e0 : (59 : Int32) + (3 : Int32) * nI tc = nI (59 + 3 * tc) := by
        rw [show (3 : Int32) * nI tc = nI (3 * tc) from mu_n 3 tc]
        exact ad_n 59 _
      have e1 : nI (59 + 3 * tc) + 1 = nI (59 + 3 * tc + 1) := ad_n _ 1
      have e2 : nI (59 + 3 * tc) + 2 = nI (59 + 3 * tc + 2) := ad_n _ 2
      rw [dr_ok (by rw [h10]; exact j1) hsz hi, Option.bind_some, if_neg (by decide), n2, Option.bind_some, if_neg (by decide), n3, Option.bind_some, if_neg (by decide), h10, j4, if_neg hn6, bT_v, e0, e1, e2, if_pos (inb_n (by omega) (by decide)), bT_v, if_pos (inb_n (by omega) (by decide)), bT_v, if_pos (inb_n (by omega) (by decide)), bT_v, bT_v, cl_n (by omega), cl_n (by omega), cl_n (by omega)]
      have em : (sA (sA (sA T1 10 1 (59 + 3 * tc) (nI i)) 10 1 (59 + 3 * tc + 1) (nI g)) 10 1 (59 + 3 * tc + 2) (nI s)).1 10 1 2 = nI tc := by
        rw [sA_v, if_neg (by omega), sA_v, if_neg (by omega), sA_v, if_neg (by omega), h10]
        exact j4
      rw [em, nI_1, hT2, a2, if_pos ⟨rfl, rfl, rfl⟩]
    · have eo : ∀ a b, ¬ (a = 0 ∧ b = 6) → ¬ (a = 10 ∧ b = 1) → T2.1 a b = T.1 a b := fun a b q1 q2 => by
        funext j
        rw [a2, if_neg (by omega), if_neg (by omega), if_neg (by omega), if_neg (by omega), a1, if_neg (by omega), if_neg (by omega), if_neg (by omega)]
      have eio : ∀ a b, ¬ (a = 0 ∧ b = 10) → T2.2.1 a b = T.2.1 a b := fun a b q => by rw [e22, ii, if_neg q]
      have ek : ∀ j, j ≠ 2 → (j < 59 + 3 * tc ∨ 59 + 3 * tc + 2 < j) → T2.1 10 1 j = T.1 10 1 j := fun j q1 q2 => by
        rw [a2, if_neg (by omega), if_neg (by omega), if_neg (by omega), if_neg (by omega), h10]
      have e5 : ∀ j, j < 3 * tc → T2.1 0 6 j = T.1 0 6 j := fun j q => by
        rw [a2, if_neg (by omega), if_neg (by omega), if_neg (by omega), if_neg (by omega), a1, if_neg (by omega), if_neg (by omega), if_neg (by omega)]
      refine ⟨hn, ⟨sz, nc, tc + 1, uc, dy, ⟨⟨b1, b2, by omega, b4, by omega⟩, ⟨by rw [eio 0 7 (by omega)]; exact i1, by rw [eio 0 8 (by omega)]; exact i2, by rw [eio 0 9 (by omega)]; exact i3, by rw [e22, ii, if_pos ⟨rfl, rfl⟩], by rw [eio 0 11 (by omega)]; exact i5⟩, ⟨by rw [ek 0 (by omega) (by omega)]; exact j1, by rw [ek 16 (by omega) (by omega)]; exact j2, by rw [ek 1 (by omega) (by omega)]; exact j3, by rw [a2, if_pos ⟨rfl, rfl, rfl⟩], by rw [ek 3 (by omega) (by omega)]; exact j5⟩, fun i hi => ?_, ⟨fun j hj => ?_, fun m hm => ?_⟩, ⟨fun j hj => ?_, fun m hm => ?_⟩, fun u hu => ?_⟩⟩, h.img (fun f => eo 2 f (by omega) (by omega)) (fun f => eo 3 f (by omega) (by omega)) (fun q => eio 2 q (by omega)) (fun q => eio 3 q (by omega)) (eo 4 2 (by omega) (by omega)) (eo 10 2 (by omega) (by omega)) (eo 10 3 (by omega) (by omega)), h.tx (eo 5 1 (by omega) (by omega)) (eo 10 8 (by omega) (by omega)) (eio 5 1 (by omega)) (eio 10 13 (by omega)), fun j hj => by rw [eo 4 4 (by omega) (by omega), eo 10 4 (by omega) (by omega)]; exact h.2.2.2.2.1 j hj, by rw [e22, el]; exact h.2.2.2.2.2.1, by rw [e22, el]; exact h.2.2.2.2.2.2⟩
      · rw [eo 0 2 (by omega) (by omega), eo 0 3 (by omega) (by omega), eo 0 4 (by omega) (by omega), ek (17 + i) (by omega) (by omega), ek (4 + i) (by omega) (by omega), ek (10 + i) (by omega) (by omega)]
        exact hd i hi
      · rw [eo 0 5 (by omega) (by omega), ek (23 + j) (by omega) (by omega)]
        exact hno.1 j hj
      · rw [ek _ (by omega) (by omega), ek _ (by omega) (by omega), ek _ (by omega) (by omega)]
        exact hno.2 m hm
      · by_cases hj6 : j < 3 * tc
        · rw [e5 j hj6, ek (59 + j) (by omega) (by omega)]
          exact htr.1 j hj6
        · obtain ⟨q, rfl⟩ : ∃ q, j = 3 * tc + q := ⟨j - 3 * tc, by omega⟩
          rw [a2, a2, a1]
          rcases (show q = 0 ∨ q = 1 ∨ q = 2 by omega) with rfl | rfl | rfl
          · simp [show ¬ 59 + 3 * tc = 2 by omega]
          · simp [← Nat.add_assoc, show ¬ 59 + 3 * tc + 1 = 2 by omega]
          · simp [← Nat.add_assoc, show ¬ 59 + 3 * tc + 2 = 2 by omega]
      · by_cases hm6 : m < tc
        · rw [ek _ (by omega) (by omega)]
          exact htr.2 m hm6
        · have hm : m = tc := by omega
          subst hm
          refine ⟨g, by omega, ?_⟩
          rw [a2, if_neg (by omega), if_neg (by omega), if_pos (by omega)]
      · obtain ⟨⟨d, q1, q2, q3⟩, q4⟩ := hpa u hu
        refine ⟨⟨d, by omega, by rw [eo 0 7 (by omega) (by omega)]; exact q2, by rw [ek _ (by omega) (by omega)]; exact q3⟩, fun i hi => ?_⟩
        rw [eo 0 7 (by omega) (by omega), ek (71 + (13 * u + i)) (by omega) (by omega), ek (71 + (13 * u + (6 + i))) (by omega) (by omega)]
        exact q4 i hi
