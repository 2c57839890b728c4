theorem take_v {T : TT} {g q : Nat} (h11 : T.2.1 g 11 = nI (q + 1)) (hq : q < 8) : ∃ T1, m_X4_takeBack T g = some T1 ∧ T1.2.1 g 11 = nI q ∧ T1.2.1 g 8 = T.1 g 7 (13 * q) ∧ (∀ i, i < 6 → T1.1 g 3 i = T.1 g 7 (13 * q + (1 + i)) ∧ T1.1 g 4 i = T.1 g 7 (13 * q + (7 + i))) ∧ (∀ a b, ¬ (a = g ∧ (b = 3 ∨ b = 4)) → T1.1 a b = T.1 a b) ∧ (∀ a b, ¬ (a = g ∧ (b = 8 ∨ b = 11)) → T1.2.1 a b = T.2.1 a b) ∧ T1.2.2 = T.2.2 := by
  have e0 : nI q * 13 = nI (13 * q) := by rw [Nat.mul_comm]; exact mu_n q 13
  have e1 : nI (13 * q) + 1 = nI (13 * q + 1) := ad_n _ 1
  have e7 : nI (13 * q + 1) + 6 = nI (13 * q + 7) := ad_n _ 6
  have k0 : (nI (13 * q)).toNatClampNeg = 13 * q := cl_n (by omega)
  have k1 : (nI (13 * q + 1)).toNatClampNeg = 13 * q + 1 := cl_n (by omega)
  have k7 : (nI (13 * q + 7)).toNatClampNeg = 13 * q + 7 := cl_n (by omega)
  have p1 : ¬ nI (13 * q + 1) < 0 ∧ ¬ (0 : Int32) < 0 ∧ ¬ (6 : Int32) < 0 ∧ Int32.toNatClampNeg (nI (13 * q + 1)) + Int32.toNatClampNeg (6 : Int32) ≤ 104 ∧ Int32.toNatClampNeg (0 : Int32) + Int32.toNatClampNeg (6 : Int32) ≤ 6 := ⟨nI_pos (by omega), by decide, by decide, by rw [k1, c6n]; omega, by decide⟩
  have p7 : ¬ nI (13 * q + 7) < 0 ∧ ¬ (0 : Int32) < 0 ∧ ¬ (6 : Int32) < 0 ∧ Int32.toNatClampNeg (nI (13 * q + 7)) + Int32.toNatClampNeg (6 : Int32) ≤ 104 ∧ Int32.toNatClampNeg (0 : Int32) + Int32.toNatClampNeg (6 : Int32) ≤ 6 := ⟨nI_pos (by omega), by decide, by decide, by rw [k7, c6n]; omega, by decide⟩
  have ex : m_X4_takeBack T g = some (cpA (cpA (sI (sI T g 11 (nI q)) g 8 (T.1 g 7 (13 * q))) g 7 (13 * q + 1) g 3 0 6) g 7 (13 * q + 7) g 4 0 6) := by
    unfold m_X4_takeBack
    have hp : (0 : Int32) < nI (q + 1) := nI_lt (a := 0) (by omega) (by omega)
    rw [h11, if_pos hp, bT_v, nI_pred, bT_v, show (sI T g 11 (nI q)).2.1 g 11 = nI q by rw [sI_v, if_pos ⟨rfl, rfl⟩], e0, if_pos (inb_n (by omega) (by decide)), bT_v, e1, e7, if_pos p1, bT_v, if_pos p7, bT_v, k0, k1, k7]
    rfl
  refine ⟨_, ex, ?_, ?_, fun i hi => ⟨?_, ?_⟩, fun a b hab => ?_, fun a b hab => ?_, rfl⟩
  · rw [cpA_2, cpA_2, sI_v, if_neg (by omega), sI_v, if_pos ⟨rfl, rfl⟩]
  · rw [cpA_2, cpA_2, sI_v, if_pos ⟨rfl, rfl⟩]
  · rw [cpA_v, if_neg (by omega), cpA_v, if_pos ⟨rfl, rfl⟩, pk_cpy_in (by omega) (by omega)]
    exact congrArg (T.1 g 7) (by omega)
  · rw [cpA_v, if_pos ⟨rfl, rfl⟩, pk_cpy_in (by omega) (by omega), cpA_v, if_neg (by omega)]
    exact congrArg (T.1 g 7) (by omega)
  · rw [cpA_v, if_neg (by omega), cpA_v, if_neg (by omega)]
    rfl
  · rw [cpA_2, cpA_2, sI_v, if_neg (by omega), sI_v, if_neg (by omega)]
theorem op_undo {n : Nat} {T : TT} (hn : n < 64) (h : Inv n T) : Op n (m_X10_undo T) (fun T => m_X11_undo T) := by
  obtain ⟨sz, nc, tc, uc, dy, hR⟩ := h.t0
  obtain ⟨⟨b1, b2, b3, b4, b5⟩, ⟨i1, i2, i3, i4, i5⟩, ⟨j1, j2, j3, j4, j5⟩, hd, hno, htr, hpa⟩ := hR
  by_cases hu : uc = 0
  · subst hu
    refine Op.of (r := -3) (T1 := rfs T 1) (T2 := rfm (rfs T 1) 1) ?_ ?_ (h.refuse hn (by decide))
    · unfold m_X10_undo
      rw [i5, if_neg (by decide)]
      rfl
    · show m_X11_undo _ = _
      unfold m_X11_undo
      rw [rfs_told, j5, if_pos (by decide)]
      rfl
  · obtain ⟨q, rfl⟩ : ∃ q, uc = q + 1 := ⟨uc - 1, by omega⟩
    obtain ⟨S, s1, s2, s3, s4, s5, s6, s7⟩ := take_v i5 (by omega)
    obtain ⟨⟨d, d1, d2, d3⟩, d4⟩ := hpa q (by omega)
    have hS : S.1 10 = T.1 10 := by funext b; exact s5 10 b (by omega)
    generalize hS1 : sA S 10 1 3 (nI q) = S1
    have l3 : S1.1 10 1 3 = nI q := by rw [← hS1, sA_v, if_pos ⟨rfl, rfl, rfl⟩]
    have lo : ∀ i, i ≠ 3 → S1.1 10 1 i = T.1 10 1 i := fun i hi => by rw [← hS1, sA_v, if_neg (by omega), hS]
    have z := undo_l S1 q (by omega) l3 13 0 FU (by omega) (FU_lt (by omega))
    rw [cpf_0, sF_self] at z
    generalize hS2 : sF S1 10 1 (cpf (S1.1 10 1) (S1.1 10 1) (71 + 13 * q) 4 13) = S2 at z
    have e22 : S2.2 = S.2 := by rw [← hS2, ← hS1]; rfl
    have eo : ∀ a b, ¬ (a = 10 ∧ b = 1) → S2.1 a b = S.1 a b := fun a b q1 => by
      funext i
      rw [← hS2, sF_v, if_neg q1, ← hS1, sA_v, if_neg (fun z => q1 ⟨z.1, z.2.1⟩)]
    have e1 : S2.1 10 1 = cpf (S1.1 10 1) (S1.1 10 1) (71 + 13 * q) 4 13 := by rw [← hS2, sF_at]
    have ek : ∀ i, i ≠ 3 → (i < 4 ∨ 17 ≤ i) → S2.1 10 1 i = T.1 10 1 i := fun i q1 q2 => by rw [e1, cpf_out (by omega), lo i q1]
    have ei : ∀ j, j < 13 → S2.1 10 1 (4 + j) = T.1 10 1 (71 + (13 * q + j)) := fun j q1 => by rw [e1, cpf_in q1, lo _ (by omega), Nat.add_assoc]
    refine Op.of (r := nI d) (T1 := S) (T2 := S2) ?_ ?_ ?_
    · unfold m_X10_undo
      have hp : (0 : Int32) < nI (q + 1) := nI_lt (a := 0) (by omega) (by omega)
      rw [i5, if_pos hp, s1, Option.bind_some, s3, d2]
    · show m_X11_undo _ = _
      unfold m_X11_undo
      rw [hS, j5, if_neg (nI_ne0 (by omega) (by omega)), bT_v, nI_pred, hS1]
      have e : S1.1 10 1 (71 + 13 * q + 12) = nI d := by rw [lo _ (by omega), Nat.add_assoc]; exact d3
      rw [e] at z
      exact z
    · refine ⟨hn, ⟨sz, nc, tc, q, d, ⟨⟨b1, b2, b3, by omega, by omega⟩, ⟨by rw [e22, s6 0 7 (by omega)]; exact i1, by rw [e22, s3]; exact d2, by rw [e22, s6 0 9 (by omega)]; exact i3, by rw [e22, s6 0 10 (by omega)]; exact i4, by rw [e22]; exact s2⟩, ⟨by rw [ek 0 (by omega) (by omega)]; exact j1, by rw [ei 12 (by omega)]; exact d3, by rw [ek 1 (by omega) (by omega)]; exact j3, by rw [ek 2 (by omega) (by omega)]; exact j4, by rw [e1, cpf_out (by omega)]; exact l3⟩, fun i hi => ?_, ⟨fun j hj => ?_, fun m hm => ?_⟩, ⟨fun j hj => ?_, fun m hm => ?_⟩, fun u hu => ?_⟩⟩, h.img (fun f => by rw [eo 2 f (by omega)]; exact s5 2 f (by omega)) (fun f => by rw [eo 3 f (by omega)]; exact s5 3 f (by omega)) (fun k => by rw [e22]; exact s6 2 k (by omega)) (fun k => by rw [e22]; exact s6 3 k (by omega)) (by rw [eo 4 2 (by omega)]; exact s5 4 2 (by omega)) (by rw [eo 10 2 (by omega), hS]) (by rw [eo 10 3 (by omega), hS]), h.tx (by rw [eo 5 1 (by omega)]; exact s5 5 1 (by omega)) (by rw [eo 10 8 (by omega), hS]) (by rw [e22]; exact s6 5 1 (by omega)) (by rw [e22]; exact s6 10 13 (by omega)), fun j hj => by rw [eo 4 4 (by omega), eo 10 4 (by omega), hS, s5 4 4 (by omega)]; exact h.2.2.2.2.1 j hj, by rw [e22, s7]; exact h.2.2.2.2.2.1, by rw [e22, s7]; exact h.2.2.2.2.2.2⟩
      · obtain ⟨⟨k, hk, k1, k2⟩, -, -⟩ := hd i hi
        obtain ⟨⟨g, g0, g1, g2⟩, g3⟩ := d4 i hi
        refine ⟨⟨k, hk, by rw [eo 0 2 (by omega), s5 0 2 (by omega)]; exact k1, by rw [ek _ (by omega) (by omega)]; exact k2⟩, ⟨g, g0, by rw [eo 0 3 (by omega), (s4 i (by omega)).1]; exact g1, by rw [ei i (by omega)]; exact g2⟩, ?_⟩
        rw [eo 0 4 (by omega), (s4 i (by omega)).2, g3, show 10 + i = 4 + (6 + i) by omega, ei _ (by omega)]
      · rw [eo 0 5 (by omega), s5 0 5 (by omega), ek _ (by omega) (by omega)]
        exact hno.1 j hj
      · rw [ek _ (by omega) (by omega), ek _ (by omega) (by omega), ek _ (by omega) (by omega)]
        exact hno.2 m hm
      · rw [eo 0 6 (by omega), s5 0 6 (by omega), ek _ (by omega) (by omega)]
        exact htr.1 j hj
      · rw [ek _ (by omega) (by omega)]
        exact htr.2 m hm
      · obtain ⟨⟨d, q1, q2, q3⟩, q4⟩ := hpa u (by omega)
        refine ⟨⟨d, by omega, by rw [eo 0 7 (by omega), s5 0 7 (by omega)]; exact q2, by rw [ek _ (by omega) (by omega)]; exact q3⟩, fun i hi => ?_⟩
        rw [eo 0 7 (by omega), s5 0 7 (by omega), ek (71 + (13 * u + i)) (by omega) (by omega), ek (71 + (13 * u + (6 + i))) (by omega) (by omega)]
        exact q4 i hi
