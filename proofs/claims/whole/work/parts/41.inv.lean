/-! WHAT TIES THE CLASS TO THE REFERENCE -/
/-- the rank of group g and the row a of the reference tell the same: sz drivers, nc notes, tc trips, uc that may be undone, the day dy -/
def RK (T : TT) (g : Nat) (a : Nat → Int32) (bd sz nc tc uc dy : Nat) : Prop :=
  (sz ≤ 6 ∧ nc ≤ 6 ∧ tc ≤ 4 ∧ uc ≤ 8 ∧ dy ≤ bd) ∧
  (T.2.1 g 7 = nI sz ∧ T.2.1 g 8 = nI dy ∧ T.2.1 g 9 = nI nc ∧ T.2.1 g 10 = nI tc ∧ T.2.1 g 11 = nI uc) ∧
  (a 0 = nI sz ∧ a 16 = nI dy ∧ a 1 = nI nc ∧ a 2 = nI tc ∧ a 3 = nI uc) ∧
  (∀ i, i < sz → (∃ k, k < 6 ∧ T.1 g 2 i = nI k ∧ a (17 + i) = nI k) ∧ (∃ n, n < 100 ∧ T.1 g 3 i = nI n ∧ a (4 + i) = nI n) ∧ T.1 g 4 i = a (10 + i)) ∧
  ((∀ j, j < 6 * nc → T.1 g 5 j = a (23 + j)) ∧ ∀ m, m < nc → ∃ n s c, n < 100 ∧ s < 4 ∧ c < 3 ∧ a (23 + (6 * m + 1)) = nI n ∧ a (23 + (6 * m + 2)) = nI s ∧ a (23 + (6 * m + 4)) = nI c) ∧
  ((∀ j, j < 3 * tc → T.1 g 6 j = a (59 + j)) ∧ ∀ m, m < tc → ∃ n, n ≤ 30 ∧ a (59 + (3 * m + 1)) = nI n) ∧
  (∀ u, u < uc → (∃ d, d ≤ bd ∧ T.1 g 7 (13 * u) = nI d ∧ a (71 + (13 * u + 12)) = nI d) ∧ ∀ i, i < sz → (∃ n, n < 100 ∧ T.1 g 7 (13 * u + (1 + i)) = nI n ∧ a (71 + (13 * u + i)) = nI n) ∧ T.1 g 7 (13 * u + (7 + i)) = a (71 + (13 * u + (6 + i))))
theorem RK.congr {T T' : TT} {g : Nat} {a a' : Nat → Int32} {bd bd' sz nc tc uc dy : Nat} (h : RK T g a bd sz nc tc uc dy) (h1 : ∀ f, T'.1 g f = T.1 g f) (h2 : ∀ k, T'.2.1 g k = T.2.1 g k) (ha : ∀ i, i < 175 → a' i = a i) (hb : bd ≤ bd') : RK T' g a' bd' sz nc tc uc dy := by
  obtain ⟨⟨b1, b2, b3, b4, b5⟩, i1, i2, i3, i4, i5, i6⟩ := h
  refine ⟨⟨b1, b2, b3, b4, by omega⟩, by simpa only [h2] using i1, by simpa only [ha 0 (by decide), ha 16 (by decide), ha 1 (by decide), ha 2 (by decide), ha 3 (by decide)] using i2, fun i hi => ?_, ⟨fun j hj => ?_, fun m hm => ?_⟩, ⟨fun j hj => ?_, fun m hm => ?_⟩, fun u hu => ?_⟩
  · rw [h1, h1, h1, ha (17 + i) (by omega), ha (4 + i) (by omega), ha (10 + i) (by omega)]
    exact i3 i hi
  · rw [h1, ha (23 + j) (by omega)]
    exact i4.1 j hj
  · rw [ha _ (by omega), ha _ (by omega), ha _ (by omega)]
    exact i4.2 m hm
  · rw [h1, ha (59 + j) (by omega)]
    exact i5.1 j hj
  · rw [ha _ (by omega)]
    exact i5.2 m hm
  · obtain ⟨⟨d, q1, q2, q3⟩, q4⟩ := i6 u hu
    refine ⟨⟨d, by omega, by rw [h1]; exact q2, by rw [ha _ (by omega)]; exact q3⟩, fun i hi => ?_⟩
    rw [h1, ha (71 + (13 * u + i)) (by omega), ha (71 + (13 * u + (6 + i))) (by omega)]
    exact q4 i hi
def RE (T : TT) (g : Nat) (a : Nat → Int32) (bd : Nat) : Prop := ∃ sz nc tc uc dy, RK T g a bd sz nc tc uc dy
/-- .. behind n calls -/
def Inv (n : Nat) (T : TT) : Prop :=
  n ≤ 64 ∧ RE T 0 (T.1 10 1) (99 * n) ∧
  (∀ j, j < 2 → T.1 4 2 j = T.1 10 3 j ∧ (T.1 4 2 j = 0 ∨ (T.1 4 2 j = 1 ∧ RE T (2 + j) (fun i => T.1 10 2 (175 * j + i)) (99 * n)))) ∧
  (∃ tl, tl ≤ n ∧ T.2.1 5 1 = nI tl ∧ T.2.1 10 13 = nI tl ∧ ∀ j, j < tl → ∃ c, c < 128 ∧ T.1 5 1 j = nI c ∧ T.1 10 8 j = nI c) ∧
  (∀ j, j < 3 → T.1 4 4 j = T.1 10 4 j) ∧ T.2.2.1 4 9 = T.2.2.1 10 4 ∧ T.2.2.1 4 10 = T.2.2.1 10 5
/-- what no later answer hangs on -/
def SCA (a b : Nat) : Prop := a = 1 ∨ a = 6 ∨ a = 7 ∨ a = 8 ∨ a = 9 ∨ (a = 4 ∧ b = 3) ∨ (a = 10 ∧ (b = 5 ∨ b = 6 ∨ b = 7 ∨ b = 9 ∨ b = 10))
def SCI (a b : Nat) : Prop := a = 1 ∨ a = 6 ∨ a = 7 ∨ (a = 5 ∧ b ≠ 1) ∨ (a = 10 ∧ b ≠ 13)
abbrev Sc (T T' : TT) : Prop := Fr SCA SCI (fun _ _ => False) T T'
theorem Inv.keep {n : Nat} {T T' : TT} (hn : n < 64) (hF : Sc T T') (h : Inv n T) : Inv (n + 1) T' := by
  obtain ⟨h0, ⟨sz, nc, tc, uc, dy, h1⟩, h2, ⟨tl, t1, t2, t3, t4⟩, h4, h5, h6⟩ := h
  have a0 : ∀ f, T'.1 0 f = T.1 0 f := fun f => hF.1 0 f (by simp [SCA])
  have a2 : ∀ f, T'.1 2 f = T.1 2 f := fun f => hF.1 2 f (by simp [SCA])
  have a3 : ∀ f, T'.1 3 f = T.1 3 f := fun f => hF.1 3 f (by simp [SCA])
  have b0 : ∀ k, T'.2.1 0 k = T.2.1 0 k := fun f => hF.2.1 0 f (by simp [SCI])
  have b2 : ∀ k, T'.2.1 2 k = T.2.1 2 k := fun f => hF.2.1 2 f (by simp [SCI])
  have b3 : ∀ k, T'.2.1 3 k = T.2.1 3 k := fun f => hF.2.1 3 f (by simp [SCI])
  have c1 : T'.1 10 1 = T.1 10 1 := hF.1 10 1 (by simp [SCA])
  have c2 : T'.1 10 2 = T.1 10 2 := hF.1 10 2 (by simp [SCA])
  have c3 : T'.1 10 3 = T.1 10 3 := hF.1 10 3 (by simp [SCA])
  have c4 : T'.1 10 4 = T.1 10 4 := hF.1 10 4 (by simp [SCA])
  have c8 : T'.1 10 8 = T.1 10 8 := hF.1 10 8 (by simp [SCA])
  have d2 : T'.1 4 2 = T.1 4 2 := hF.1 4 2 (by simp [SCA])
  have d4 : T'.1 4 4 = T.1 4 4 := hF.1 4 4 (by simp [SCA])
  have e1 : T'.1 5 1 = T.1 5 1 := hF.1 5 1 (by simp [SCA])
  have i5 : T'.2.1 5 1 = T.2.1 5 1 := hF.2.1 5 1 (by simp [SCI])
  have i13 : T'.2.1 10 13 = T.2.1 10 13 := hF.2.1 10 13 (by simp [SCI])
  have l1 : ∀ a b, T'.2.2.1 a b = T.2.2.1 a b := fun a b => hF.2.2 a b (fun q => q)
  refine ⟨hn, ⟨sz, nc, tc, uc, dy, h1.congr a0 b0 (fun i _ => by rw [c1]) (by omega)⟩, fun j hj => ?_, ⟨tl, by omega, by rw [i5]; exact t2, by rw [i13]; exact t3, fun j hj => by rw [e1, c8]; exact t4 j hj⟩, fun j hj => by rw [d4, c4]; exact h4 j hj, by rw [l1, l1]; exact h5, by rw [l1, l1]; exact h6⟩
  rw [d2, c3, c2]
  obtain ⟨q1, q2⟩ := h2 j hj
  refine ⟨q1, q2.imp id (fun q => ⟨q.1, ?_⟩)⟩
  obtain ⟨sz, nc, tc, uc, dy, q3⟩ := q.2
  rcases (show j = 0 ∨ j = 1 by omega) with rfl | rfl
  · exact ⟨sz, nc, tc, uc, dy, q3.congr a2 b2 (fun i _ => rfl) (by omega)⟩
  · exact ⟨sz, nc, tc, uc, dy, q3.congr a3 b3 (fun i _ => rfl) (by omega)⟩
/-- an op is right: both answer alike, and what ties them stays -/
def Op {α : Type} (n : Nat) (x : Option (α × TT)) (y : TT → Option (α × TT)) : Prop := ∃ (r : α) (T1 T2 : TT), x = some (r, T1) ∧ y T1 = some (r, T2) ∧ Inv (n + 1) T2
theorem sA_v (T : TT) (g f j : Nat) (x : Int32) (a b i : Nat) : (sA T g f j x).1 a b i = if a = g ∧ b = f ∧ i = j then x else T.1 a b i := by
  unfold sA
  by_cases h1 : a = g
  · subst h1
    by_cases h2 : b = f
    · subst h2
      by_cases h3 : i = j <;> simp [h3]
    · simp [h2]
  · simp [h1]
theorem sA_2 (T : TT) (g f j : Nat) (x : Int32) : (sA T g f j x).2 = T.2 := rfl
theorem sI_v (T : TT) (g k : Nat) (x : Int32) (a b : Nat) : (sI T g k x).2.1 a b = if a = g ∧ b = k then x else T.2.1 a b := by
  unfold sI
  by_cases h1 : a = g
  · subst h1
    by_cases h2 : b = k <;> simp [h2]
  · simp [h1]
theorem sI_1 (T : TT) (g k : Nat) (x : Int32) : (sI T g k x).1 = T.1 := rfl
theorem sI_2 (T : TT) (g k : Nat) (x : Int32) : (sI T g k x).2.2 = T.2.2 := rfl
theorem sL_v (T : TT) (g k : Nat) (x : Int64) (a b : Nat) : (sL T g k x).2.2.1 a b = if a = g ∧ b = k then x else T.2.2.1 a b := by
  unfold sL
  by_cases h1 : a = g
  · subst h1
    by_cases h2 : b = k <;> simp [h2]
  · simp [h1]
theorem sL_1 (T : TT) (g k : Nat) (x : Int64) : (sL T g k x).1 = T.1 := rfl
theorem sL_2 (T : TT) (g k : Nat) (x : Int64) : (sL T g k x).2.1 = T.2.1 := rfl
/-- the count of what was refused, on both sides -/
def rfs (T : TT) (j : Nat) : TT := sA T 4 4 j (T.1 4 4 j + 1)
def rfm (T : TT) (j : Nat) : TT := sA T 10 4 j (T.1 10 4 j + 1)
theorem refuse_2 (T : TT) : m_X10_refuse T (-2) = some (-2, rfs T 0) := rfl
theorem refuse_3 (T : TT) : m_X10_refuse T (-3) = some (-3, rfs T 1) := rfl
theorem refuse_4 (T : TT) : m_X10_refuse T (-4) = some (-4, rfs T 2) := rfl
theorem bad_v (T : TT) (x : Int32) : m_X11_bad T x = some (x, rfm T 0) := rfl
theorem no_v (T : TT) : m_X11_no T = some (-3, rfm T 1) := rfl
theorem full_v (T : TT) : m_X11_full T = some (-4, rfm T 2) := rfl
theorem Inv.refuse {n j : Nat} {T : TT} (hn : n < 64) (hj : j < 3) (h : Inv n T) : Inv (n + 1) (rfm (rfs T j) j) := by
  obtain ⟨h0, ⟨sz, nc, tc, uc, dy, h1⟩, h2, ⟨tl, t1, t2, t3, t4⟩, h4, h5, h6⟩ := h
  have ev : ∀ a b i, (rfm (rfs T j) j).1 a b i = if a = 10 ∧ b = 4 ∧ i = j then T.1 10 4 j + 1 else if a = 4 ∧ b = 4 ∧ i = j then T.1 4 4 j + 1 else T.1 a b i := fun a b i => by
    unfold rfm rfs
    rw [sA_v, sA_v, sA_v]
    simp
  have eo : ∀ a b, ¬ (a = 10 ∧ b = 4) → ¬ (a = 4 ∧ b = 4) → (rfm (rfs T j) j).1 a b = T.1 a b := fun a b q1 q2 => by
    funext i
    rw [ev, if_neg (fun q => q1 ⟨q.1, q.2.1⟩), if_neg (fun q => q2 ⟨q.1, q.2.1⟩)]
  have e2 : (rfm (rfs T j) j).2 = T.2 := rfl
  refine ⟨hn, ⟨sz, nc, tc, uc, dy, h1.congr (fun f => eo 0 f (by omega) (by omega)) (fun k => by rw [e2]) (fun i _ => by rw [eo 10 1 (by omega) (by omega)]) (by omega)⟩, fun i hi => ?_, ⟨tl, by omega, t2, t3, fun i hi => by rw [eo 5 1 (by omega) (by omega), eo 10 8 (by omega) (by omega)]; exact t4 i hi⟩, fun i hi => ?_, h5, h6⟩
  · rw [eo 4 2 (by omega) (by omega), eo 10 3 (by omega) (by omega), eo 10 2 (by omega) (by omega)]
    obtain ⟨q1, q2⟩ := h2 i hi
    refine ⟨q1, q2.imp id (fun q => ⟨q.1, ?_⟩)⟩
    obtain ⟨sz, nc, tc, uc, dy, q3⟩ := q.2
    exact ⟨sz, nc, tc, uc, dy, q3.congr (fun f => eo (2 + i) f (by omega) (by omega)) (fun k => by rw [e2]) (fun i _ => rfl) (by omega)⟩
  · rw [ev, ev]
    have := h4 i hi
    have hjj := h4 j hj
    by_cases c : i = j
    · subst c; simp [this]
    · simp [c, this]
