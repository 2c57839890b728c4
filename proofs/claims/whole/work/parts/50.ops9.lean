theorem cpA_v (T : TT) (g0 f0 sp g f dp m a b : Nat) : (cpA T g0 f0 sp g f dp m).1 a b = if a = g ∧ b = f then va_cpy (T.1 g0 f0) (T.1 g f) sp dp m else T.1 a b := by
  unfold cpA
  by_cases h1 : a = g
  · subst h1
    by_cases h2 : b = f <;> simp [h2]
  · simp [h1]
theorem cpA_2 (T : TT) (g0 f0 sp g f dp m : Nat) : (cpA T g0 f0 sp g f dp m).2 = T.2 := rfl
theorem cpy0 {f g : Nat → Int32} {m j : Nat} (h : j < m) : va_cpy f g 0 0 m j = f j := by
  rw [pk_cpy_in (Nat.zero_le j) (by omega)]
  simp
theorem RK.move {T T' : TT} {g g2 : Nat} {a a' : Nat → Int32} {bd bd' sz nc tc uc dy : Nat} (h : RK T g2 a bd sz nc tc uc dy) (hi : ∀ k, 7 ≤ k → k ≤ 11 → T'.2.1 g k = T.2.1 g2 k) (h2 : ∀ j, j < 6 → T'.1 g 2 j = T.1 g2 2 j) (h3 : ∀ j, j < 6 → T'.1 g 3 j = T.1 g2 3 j) (h4 : ∀ j, j < 6 → T'.1 g 4 j = T.1 g2 4 j) (h5 : ∀ j, j < 36 → T'.1 g 5 j = T.1 g2 5 j) (h6 : ∀ j, j < 12 → T'.1 g 6 j = T.1 g2 6 j) (h7 : ∀ j, j < 104 → T'.1 g 7 j = T.1 g2 7 j) (ha : ∀ i, i < 175 → a' i = a i) (hb : bd ≤ bd') : RK T' g a' bd' sz nc tc uc dy := by
  obtain ⟨⟨b1, b2, b3, b4, b5⟩, ⟨i1, i2, i3, i4, i5⟩, ⟨j1, j2, j3, j4, j5⟩, hd, hno, htr, hpa⟩ := h
  refine ⟨⟨b1, b2, b3, b4, by omega⟩, ⟨by rw [hi 7 (by omega) (by omega)]; exact i1, by rw [hi 8 (by omega) (by omega)]; exact i2, by rw [hi 9 (by omega) (by omega)]; exact i3, by rw [hi 10 (by omega) (by omega)]; exact i4, by rw [hi 11 (by omega) (by omega)]; exact i5⟩, ⟨by rw [ha 0 (by omega)]; exact j1, by rw [ha 16 (by omega)]; exact j2, by rw [ha 1 (by omega)]; exact j3, by rw [ha 2 (by omega)]; exact j4, by rw [ha 3 (by omega)]; exact j5⟩, fun i hi => ?_, ⟨fun j hj => ?_, fun m hm => ?_⟩, ⟨fun j hj => ?_, fun m hm => ?_⟩, fun u hu => ?_⟩
  · rw [h2 i (by omega), h3 i (by omega), h4 i (by omega), ha (17 + i) (by omega), ha (4 + i) (by omega), ha (10 + i) (by omega)]
    exact hd i hi
  · rw [h5 j (by omega), ha (23 + j) (by omega)]
    exact hno.1 j hj
  · rw [ha _ (by omega), ha _ (by omega), ha _ (by omega)]
    exact hno.2 m hm
  · rw [h6 j (by omega), ha (59 + j) (by omega)]
    exact htr.1 j hj
  · rw [ha _ (by omega)]
    exact htr.2 m hm
  · obtain ⟨⟨d, q1, q2, q3⟩, q4⟩ := hpa u hu
    refine ⟨⟨d, by omega, by rw [h7 _ (by omega)]; exact q2, by rw [ha _ (by omega)]; exact q3⟩, fun i hi => ?_⟩
    rw [h7 _ (by omega), h7 _ (by omega), ha (71 + (13 * u + i)) (by omega), ha (71 + (13 * u + (6 + i))) (by omega)]
    exact q4 i hi
theorem copy_v (T : TT) (g g2 : Nat) (hne : g2 ≠ g) : ∃ T1, m_X4_copyFrom T g g2 = some T1 ∧ (∀ a b, a ≠ g → T1.1 a b = T.1 a b) ∧ (∀ a b, a ≠ g → T1.2.1 a b = T.2.1 a b) ∧ T1.2.2.1 = T.2.2.1 ∧ (∀ k, 7 ≤ k → k ≤ 11 → T1.2.1 g k = T.2.1 g2 k) ∧ (∀ j, j < 6 → T1.1 g 2 j = T.1 g2 2 j) ∧ (∀ j, j < 6 → T1.1 g 3 j = T.1 g2 3 j) ∧ (∀ j, j < 6 → T1.1 g 4 j = T.1 g2 4 j) ∧ (∀ j, j < 36 → T1.1 g 5 j = T.1 g2 5 j) ∧ (∀ j, j < 12 → T1.1 g 6 j = T.1 g2 6 j) ∧ (∀ j, j < 104 → T1.1 g 7 j = T.1 g2 7 j) := by
  have e : ∃ T1, m_X4_copyFrom T g g2 = some T1 ∧ T1.1 = (cpA (cpA (cpA (cpA (cpA (cpA T g2 2 0 g 2 0 6) g2 3 0 g 3 0 6) g2 4 0 g 4 0 6) g2 5 0 g 5 0 36) g2 6 0 g 6 0 12) g2 7 0 g 7 0 104).1 ∧ T1.2 = (sI (sI (sI (sI (sI T g 7 (T.2.1 g2 7)) g 8 (T.2.1 g2 8)) g 9 (T.2.1 g2 9)) g 10 (T.2.1 g2 10)) g 11 (T.2.1 g2 11)).2 := by
    unfold m_X4_copyFrom
    rw [if_pos (by decide), bT_v, if_pos (by decide), bT_v, if_pos (by decide), bT_v, if_pos (by decide), bT_v, if_pos (by decide), bT_v, if_pos (by decide), bT_v, bT_v, bT_v, bT_v, bT_v, bT_v]
    refine ⟨_, rfl, rfl, ?_⟩
    have h7 : ∀ x : Int32, ∀ k, (sI T g 7 x).2.1 g2 k = T.2.1 g2 k := fun x k => by rw [sI_v, if_neg (by omega)]
    refine Prod.ext (funext fun a => funext fun b => ?_) rfl
    simp [sI_v, hne, cpA_2]
  obtain ⟨T1, e0, e1, e2⟩ := e
  have hF := fr_X4_copyFrom e0
  refine ⟨T1, e0, fun a b q => hF.1 a b (by omega), fun a b q => hF.2.1 a b (by omega), by rw [e2]; rfl, fun k q1 q2 => ?_, fun j q => ?_, fun j q => ?_, fun j q => ?_, fun j q => ?_, fun j q => ?_, fun j q => ?_⟩
  · rw [e2]
    rcases (show k = 7 ∨ k = 8 ∨ k = 9 ∨ k = 10 ∨ k = 11 by omega) with rfl | rfl | rfl | rfl | rfl <;> simp [sI_v]
  · rw [e1]; simp [cpA_v, cpy0 q]
  · rw [e1]; simp [cpA_v, cpy0 q, hne]
  · rw [e1]; simp [cpA_v, cpy0 q, hne]
  · rw [e1]; simp [cpA_v, cpy0 q, hne]
  · rw [e1]; simp [cpA_v, cpy0 q, hne]
  · rw [e1]; simp [cpA_v, cpy0 q, hne]
