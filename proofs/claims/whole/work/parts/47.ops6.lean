theorem ne_m4 {q : Nat} (h : q < 2 ^ 31) : ¬ nI q = -4 := fun e => by
  have := congrArg Int32.toInt e
  rw [nI_toInt h] at this
  have e4 : (-4 : Int32).toInt = -4 := by decide
  omega
theorem rif_no {T : TT} {q : Nat} (h : q < 2 ^ 31) : m_X10_refuseIfFull T (nI q) = some (nI q, T) := by
  unfold m_X10_refuseIfFull
  rw [if_neg (ne_m4 h)]
theorem rif_full (T : TT) : m_X10_refuseIfFull T (-4) = some (-4, rfs T 2) := by
  unfold m_X10_refuseIfFull
  rw [if_pos rfl, refuse_4]
  rfl
theorem add_full {T : TT} {g : Nat} {x y : Int32} (h : T.2.1 g 7 = nI 6) : m_X4_addDriver T g x y = some (-4, T) := by
  unfold m_X4_addDriver m_X4_isFull
  rw [h]
  rfl
theorem add_v {T : TT} {g sz : Nat} {x y : Int32} (h : T.2.1 g 7 = nI sz) (hs : sz < 6) : m_X4_addDriver T g x y = some (nI sz, sI (sI (sA (sA (sA T g 2 sz x) g 3 sz y) g 4 sz 0) g 7 (nI (sz + 1))) g 11 0) := by
  unfold m_X4_addDriver m_X4_isFull
  have h6 : nI sz < 6 := nI_lt (b := 6) hs (by decide)
  rw [h, if_pos h6, Option.bind_some, if_pos rfl, bT_v, if_pos (inb_n (by omega) (by decide)), bT_v, if_pos (inb_n (by omega) (by decide)), bT_v, if_pos (inb_n (by omega) (by decide)), bT_v, bT_v, bT_v, cl_n (by omega), sA_2, sA_2, sA_2, h, nI_1]
theorem layD_v {T : TT} {f an sz : Nat} {x y : Int32} (h : T.1 10 f 0 = nI sz) (hs : sz < 6) (ha : 71 ≤ an) (ha2 : an < 2 ^ 31) : m_X11_layDriver T 10 f an x y = some (sA (sA (sA (sA T 10 f (17 + sz) x) 10 f (4 + sz) y) 10 f (10 + sz) 0) 10 f 0 (nI (sz + 1))) := by
  unfold m_X11_layDriver
  have e17 : (17 : Int32) + nI sz = nI (17 + sz) := ad_n 17 sz
  have e4 : (4 : Int32) + nI sz = nI (4 + sz) := ad_n 4 sz
  have e10 : (10 : Int32) + nI sz = nI (10 + sz) := ad_n 10 sz
  have hi0 : inb (0 : Int32) an := inb_n (n := 0) (by omega) ha2
  have hc0 : (0 : Int32).toNatClampNeg = 0 := rfl
  have h' : T.1 10 f (Int32.toNatClampNeg 0) = nI sz := h
  rw [if_pos hi0, bT_v, h', e17, e4, e10, if_pos (inb_n (by omega) ha2), bT_v, if_pos (inb_n (by omega) ha2), bT_v, if_pos (inb_n (by omega) ha2), bT_v, if_pos hi0, if_pos hi0, bT_v, cl_n (by omega), cl_n (by omega), cl_n (by omega), hc0]
  have e : (sA (sA (sA T 10 f (17 + sz) x) 10 f (4 + sz) y) 10 f (10 + sz) 0).1 10 f 0 = nI sz := by
    rw [sA_v, if_neg (by omega), sA_v, if_neg (by omega), sA_v, if_neg (by omega), h]
  rw [e, nI_1]
theorem op_driver {n : Nat} {T : TT} (hn : n < 64) (h : Inv n T) (x y : Int32) : Op n (m_X10_driver T x y) (fun T => m_X11_driver T x y) := by
  obtain ⟨sz, nc, tc, uc, dy, hR⟩ := h.t0
  have hbad : ∀ (e1 : m_X10_driver T x y = some (-2, rfs T 0)) (e2 : m_X11_driver (rfs T 0) x y = some (-2, rfm (rfs T 0) 0)), Op n (m_X10_driver T x y) (fun T => m_X11_driver T x y) := fun e1 e2 => Op.of e1 e2 (h.refuse hn (by decide))
  rcases rng x 0 5 (by decide) (by decide) with hb | ⟨k, -, hk, rfl⟩
  · refine hbad ?_ ?_
    · unfold m_X10_driver
      rw [show m_X10_within x 0 5 = some 0 from w_bad hb]
      rfl
    · unfold m_X11_driver
      rw [in_bad (lo := nI 0) (hi := nI 5) (by decide) (by decide) hb]
      rfl
  have wk : m_X10_within (nI k) 0 5 = some 1 := w_ok (Nat.zero_le k) hk (by decide)
  have nk : m_X11_in (nI k).toInt64 0 5 = some 1 := in_ok (lo := nI 0) (hi := nI 5) (by decide) (by decide) (nI_rng (Nat.zero_le k) hk (by decide))
  rcases rng y 0 99 (by decide) (by decide) with hb | ⟨g, -, hg, rfl⟩
  · refine hbad ?_ ?_
    · unfold m_X10_driver
      rw [wk, Option.bind_some, if_neg (by decide), show m_X10_within y 0 99 = some 0 from w_bad hb]
      rfl
    · unfold m_X11_driver
      rw [nk, Option.bind_some, if_neg (by decide), in_bad (lo := nI 0) (hi := nI 99) (by decide) (by decide) hb]
      rfl
  have wg : m_X10_within (nI g) 0 99 = some 1 := w_ok (Nat.zero_le g) hg (by decide)
  have ng : m_X11_in (nI g).toInt64 0 99 = some 1 := in_ok (lo := nI 0) (hi := nI 99) (by decide) (by decide) (nI_rng (Nat.zero_le g) hg (by decide))
  obtain ⟨⟨b1, b2, b3, b4, b5⟩, ⟨i1, i2, i3, i4, i5⟩, ⟨j1, j2, j3, j4, j5⟩, hd, hno, htr, hpa⟩ := hR
  by_cases h6 : sz = 6
  · subst h6
    refine Op.of (r := -4) (T1 := rfs T 2) (T2 := rfm (rfs T 2) 2) ?_ ?_ (h.refuse hn (by decide))
    · unfold m_X10_driver
      rw [wk, Option.bind_some, if_neg (by decide), wg, Option.bind_some, if_neg (by decide), add_full i1, Option.bind_some, rif_full]
      rfl
    · show m_X11_driver _ _ _ = _
      unfold m_X11_driver m_X11_many
      rw [nk, Option.bind_some, if_neg (by decide), ng, Option.bind_some, if_neg (by decide), Option.bind_some, rfs_told, j1, if_pos (by decide)]
      rfl
  · have hs : sz < 6 := by omega
    generalize hT1 : sI (sI (sA (sA (sA T 0 2 sz (nI k)) 0 3 sz (nI g)) 0 4 sz 0) 0 7 (nI (sz + 1))) 0 11 0 = T1
    generalize hT2 : sA (sA (sA (sA (sA T1 10 1 (17 + sz) (nI k)) 10 1 (4 + sz) (nI g)) 10 1 (10 + sz) 0) 10 1 0 (nI (sz + 1))) 10 1 3 0 = T2
    have a1 : ∀ a b i, T1.1 a b i = if a = 0 ∧ b = 4 ∧ i = sz then 0 else if a = 0 ∧ b = 3 ∧ i = sz then nI g else if a = 0 ∧ b = 2 ∧ i = sz then nI k else T.1 a b i := fun a b i => by rw [← hT1, sI_1, sI_1, sA_v, sA_v, sA_v]
    have ii : ∀ a b, T1.2.1 a b = if a = 0 ∧ b = 11 then 0 else if a = 0 ∧ b = 7 then nI (sz + 1) else T.2.1 a b := fun a b => by rw [← hT1, sI_v, sI_v]; rfl
    have a2 : ∀ a b i, T2.1 a b i = if a = 10 ∧ b = 1 ∧ i = 3 then 0 else if a = 10 ∧ b = 1 ∧ i = 0 then nI (sz + 1) else if a = 10 ∧ b = 1 ∧ i = 10 + sz then 0 else if a = 10 ∧ b = 1 ∧ i = 4 + sz then nI g else if a = 10 ∧ b = 1 ∧ i = 17 + sz then nI k else T1.1 a b i := fun a b i => by rw [← hT2, sA_v, sA_v, sA_v, sA_v, sA_v]
    have e22 : T2.2 = T1.2 := by rw [← hT2]; rfl
    have el : T1.2.2 = T.2.2 := by rw [← hT1]; rfl
    have h10 : T1.1 10 = T.1 10 := by
      funext b i
      rw [a1, if_neg (by omega), if_neg (by omega), if_neg (by omega)]
    refine Op.of (r := nI sz) (T1 := T1) (T2 := T2) ?_ ?_ ?_
    · unfold m_X10_driver
      rw [wk, Option.bind_some, if_neg (by decide), wg, Option.bind_some, if_neg (by decide), add_v i1 hs, Option.bind_some, hT1, rif_no (by omega)]
      rfl
    · show m_X11_driver _ _ _ = _
      unfold m_X11_driver m_X11_many
      have hn6 : ¬ nI sz = 6 := fun e => h6 ((nI_eq (a := sz) (b := 6) (by omega) (by decide)).mp e)
      have j1' : T1.1 10 1 0 = nI sz := by rw [h10]; exact j1
      rw [nk, Option.bind_some, if_neg (by decide), ng, Option.bind_some, if_neg (by decide), Option.bind_some, j1', if_neg hn6, layD_v j1' hs (by decide) (by decide), Option.bind_some, bT_v, hT2, Option.bind_some, a2, if_neg (by omega), if_pos ⟨rfl, rfl, rfl⟩]
      have e1 : nI (sz + 1) - 1 = nI sz := nI_pred sz
      rw [e1]
    · have eo : ∀ a b, a ≠ 0 → ¬ (a = 10 ∧ b = 1) → T2.1 a b = T.1 a b := fun a b q1 q2 => by
        funext i
        rw [a2, if_neg (by omega), if_neg (by omega), if_neg (by omega), if_neg (by omega), if_neg (by omega), a1, if_neg (by omega), if_neg (by omega), if_neg (by omega)]
      have eio : ∀ a b, a ≠ 0 → T2.2.1 a b = T.2.1 a b := fun a b q => by rw [e22, ii, if_neg (by omega), if_neg (by omega)]
      have ek : ∀ i, i ≠ 3 → i ≠ 0 → i ≠ 10 + sz → i ≠ 4 + sz → i ≠ 17 + sz → T2.1 10 1 i = T.1 10 1 i := fun i q1 q2 q3 q4 q5 => by
        rw [a2, if_neg (by omega), if_neg (by omega), if_neg (by omega), if_neg (by omega), if_neg (by omega), h10]
      have e0 : ∀ b i, (i = sz → b ≠ 2 ∧ b ≠ 3 ∧ b ≠ 4) → T2.1 0 b i = T.1 0 b i := fun b i q => by
        rw [a2, if_neg (by omega), if_neg (by omega), if_neg (by omega), if_neg (by omega), if_neg (by omega), a1, if_neg (by omega), if_neg (by omega), if_neg (by omega)]
      refine ⟨hn, ⟨sz + 1, nc, tc, 0, dy, ⟨⟨by omega, b2, b3, by omega, by omega⟩, ⟨by rw [e22, ii]; simp, by rw [e22, ii]; simpa using i2, by rw [e22, ii]; simpa using i3, by rw [e22, ii]; simpa using i4, by rw [e22, ii]; simp [nI]⟩, ⟨by rw [a2]; simp, by rw [ek 16 (by omega) (by omega) (by omega) (by omega) (by omega)]; exact j2, by rw [ek 1 (by omega) (by omega) (by omega) (by omega) (by omega)]; exact j3, by rw [ek 2 (by omega) (by omega) (by omega) (by omega) (by omega)]; exact j4, by rw [a2]; simp [nI]⟩, fun i hi => ?_, ⟨fun j hj => ?_, fun m hm => ?_⟩, ⟨fun j hj => ?_, fun m hm => ?_⟩, fun u hu => absurd hu (by omega)⟩⟩, h.img (fun f => eo 2 f (by omega) (by omega)) (fun f => eo 3 f (by omega) (by omega)) (fun q => eio 2 q (by omega)) (fun q => eio 3 q (by omega)) (eo 4 2 (by omega) (by omega)) (eo 10 2 (by omega) (by omega)) (eo 10 3 (by omega) (by omega)), h.tx (eo 5 1 (by omega) (by omega)) (eo 10 8 (by omega) (by omega)) (eio 5 1 (by omega)) (eio 10 13 (by omega)), fun j hj => by rw [eo 4 4 (by omega) (by omega), eo 10 4 (by omega) (by omega)]; exact h.2.2.2.2.1 j hj, by rw [e22, el]; exact h.2.2.2.2.2.1, by rw [e22, el]; exact h.2.2.2.2.2.2⟩
      · by_cases his : i = sz
        · subst his
          refine ⟨⟨k, by omega, ?_, ?_⟩, ⟨g, by omega, ?_, ?_⟩, ?_⟩
          · rw [a2]; simp [a1]
          · rw [a2, if_neg (by omega), if_neg (by omega), if_neg (by omega), if_neg (by omega), if_pos ⟨rfl, rfl, rfl⟩]
          · rw [a2]; simp [a1]
          · rw [a2, if_neg (by omega), if_neg (by omega), if_neg (by omega), if_pos ⟨rfl, rfl, rfl⟩]
          · rw [a2, a2]; simp [a1]
        · rw [e0 2 i (fun q => absurd q his), e0 3 i (fun q => absurd q his), e0 4 i (fun q => absurd q his), ek (17 + i) (by omega) (by omega) (by omega) (by omega) (by omega), ek (4 + i) (by omega) (by omega) (by omega) (by omega) (by omega), ek (10 + i) (by omega) (by omega) (by omega) (by omega) (by omega)]
          exact hd i (by omega)
      · rw [e0 5 j (by omega), ek (23 + j) (by omega) (by omega) (by omega) (by omega) (by omega)]
        exact hno.1 j hj
      · rw [ek _ (by omega) (by omega) (by omega) (by omega) (by omega), ek _ (by omega) (by omega) (by omega) (by omega) (by omega), ek _ (by omega) (by omega) (by omega) (by omega) (by omega)]
        exact hno.2 m hm
      · rw [e0 6 j (by omega), ek (59 + j) (by omega) (by omega) (by omega) (by omega) (by omega)]
        exact htr.1 j hj
      · rw [ek _ (by omega) (by omega) (by omega) (by omega) (by omega)]
        exact htr.2 m hm
