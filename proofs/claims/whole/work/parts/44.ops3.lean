/-- the whole of an array anew -/
def sF (T : TT) (g f : Nat) (φ : Nat → Int32) : TT := (fun a => if a = g then (fun b => if b = f then φ else T.1 g b) else T.1 a, T.2)
theorem sF_v (T : TT) (g f : Nat) (φ : Nat → Int32) (a b : Nat) : (sF T g f φ).1 a b = if a = g ∧ b = f then φ else T.1 a b := by
  unfold sF
  by_cases h1 : a = g
  · subst h1
    by_cases h2 : b = f <;> simp [h2]
  · simp [h1]
theorem sF_2 (T : TT) (g f : Nat) (φ : Nat → Int32) : (sF T g f φ).2 = T.2 := rfl
theorem sF_at (T : TT) (g f : Nat) (φ : Nat → Int32) : (sF T g f φ).1 g f = φ := by rw [sF_v, if_pos ⟨rfl, rfl⟩]
theorem TT_ext {T T' : TT} (h1 : ∀ a b, T.1 a b = T'.1 a b) (h2 : T.2 = T'.2) : T = T' := Prod.ext (funext fun a => funext fun b => h1 a b) h2
theorem sA_sF (T : TT) (g f j : Nat) (x : Int32) (φ : Nat → Int32) : sA (sF T g f φ) g f j x = sF T g f (upd φ j x) := by
  refine TT_ext (fun a b => ?_) rfl
  funext i
  rw [sA_v, sF_v, sF_v]
  by_cases h : a = g ∧ b = f
  · obtain ⟨rfl, rfl⟩ := h
    simp [upd]
  · rw [if_neg h, if_neg h, if_neg (fun q => h ⟨q.1, q.2.1⟩)]
theorem sF_self (T : TT) (g f : Nat) : sF T g f (T.1 g f) = T := by
  refine TT_ext (fun a b => ?_) rfl
  rw [sF_v]
  by_cases h : a = g ∧ b = f
  · obtain ⟨rfl, rfl⟩ := h; simp
  · rw [if_neg h]
theorem sA_F (T : TT) (g f j : Nat) (x : Int32) : sA T g f j x = sF T g f (upd (T.1 g f) j x) := by
  have := sA_sF T g f j x (T.1 g f)
  rw [sF_self] at this
  exact this
def zf (φ : Nat → Int32) (j : Nat) : Nat → Int32 := fun i => if i < j then 0 else φ i
theorem zf_s (φ : Nat → Int32) (j : Nat) : upd (zf φ j) j 0 = zf φ (j + 1) := by
  funext i
  unfold upd zf
  by_cases h : i = j
  · subst h; simp
  · by_cases h2 : i < j
    · simp [h2, Nat.lt_succ_of_lt h2]
    · simp [h, h2, show ¬ i < j + 1 by omega]
theorem begin_l (T : TT) (g f an : Nat) (φ : Nat → Int32) (ha : 71 ≤ an) (ha2 : an < 2 ^ 31) : ∀ (m j n : Nat), j + m = 71 → m < n → m_X11_begin_l2 g f an n (sF T g f (zf φ j)) (nI j) = some (sF T g f (zf φ 71)) := by
  intro m
  induction m with
  | zero =>
    intro j n hj hn
    obtain ⟨n, rfl⟩ : ∃ q, n = q + 1 := ⟨n - 1, by omega⟩
    show m_X11_begin_h2 _ _ _ _ _ _ = _
    unfold m_X11_begin_h2
    have hj : j = 71 := by omega
    subst hj
    rw [if_pos (by decide)]
  | succ m ih =>
    intro j n hj hn
    obtain ⟨n, rfl⟩ : ∃ q, n = q + 1 := ⟨n - 1, by omega⟩
    show m_X11_begin_h2 _ _ _ _ _ _ = _
    unfold m_X11_begin_h2
    have h1 : ¬ (71 : Int32) ≤ nI j := nI_ge (b := 71) (by omega) (by decide)
    rw [if_neg h1, if_pos (inb_n (by omega) ha2), cl_n (by omega), bT_v, bT_v, sA_sF, zf_s, nI_1]
    exact ih (j + 1) n (by omega) (by omega)
theorem begin_v (T : TT) (g f an : Nat) (ha : 71 ≤ an) (ha2 : an < 2 ^ 31) : m_X11_begin T g f an = some (sF T g f (zf (T.1 g f) 71)) := by
  unfold m_X11_begin
  have := begin_l T g f an (T.1 g f) ha ha2 71 0 FU (by decide) (by decide)
  have e : zf (T.1 g f) 0 = T.1 g f := by funext i; simp [zf]
  rw [e, sF_self] at this
  exact this
theorem RK0 {T : TT} {g : Nat} {a : Nat → Int32} {bd : Nat} (h1 : T.2.1 g 7 = 0) (h2 : T.2.1 g 8 = 0) (h3 : T.2.1 g 9 = 0) (h4 : T.2.1 g 10 = 0) (h5 : T.2.1 g 11 = 0) (a0 : a 0 = 0) (a16 : a 16 = 0) (a1 : a 1 = 0) (a2 : a 2 = 0) (a3 : a 3 = 0) : RK T g a bd 0 0 0 0 0 :=
  ⟨⟨by omega, by omega, by omega, by omega, by omega⟩, ⟨h1, h2, h3, h4, h5⟩, ⟨a0, a16, a1, a2, a3⟩, fun i hi => absurd hi (by omega), ⟨fun j hj => absurd hj (by omega), fun m hm => absurd hm (by omega)⟩, ⟨fun j hj => absurd hj (by omega), fun m hm => absurd hm (by omega)⟩, fun u hu => absurd hu (by omega)⟩
theorem reset_v (T : TT) (g : Nat) : ∃ T1, m_X4_reset T g = some T1 ∧ T1.1 = T.1 ∧ T1.2.2 = T.2.2 ∧ (∀ a b, a ≠ g → T1.2.1 a b = T.2.1 a b) ∧ T1.2.1 g 7 = 0 ∧ T1.2.1 g 8 = 0 ∧ T1.2.1 g 9 = 0 ∧ T1.2.1 g 10 = 0 ∧ T1.2.1 g 11 = 0 := by
  refine ⟨_, rfl, rfl, rfl, fun a b h => ?_, ?_, ?_, ?_, ?_, ?_⟩
  · simp [sI_v, h]
  · simp [sI_v]
  · simp [sI_v]
  · simp [sI_v]
  · simp [sI_v]
  · simp [sI_v]
theorem op_rank {n : Nat} {T : TT} (hn : n < 64) (h : Inv n T) : Op n (m_X10_rank T) (fun T => m_X11_rank T) := by
  obtain ⟨sz, nc, tc, uc, dy, hR⟩ := h.t0
  obtain ⟨T1, e1, ea, el, ei, i7, i8, i9, i10, i11⟩ := reset_v T 0
  refine Op.of (r := nI sz) (T1 := T1) (T2 := sF T1 10 1 (zf (T1.1 10 1) 71)) ?_ ?_ ?_
  · unfold m_X10_rank
    rw [bT_v, e1, hR.2.1.1]
    rfl
  · show m_X11_rank _ = _
    unfold m_X11_rank m_X11_many
    rw [Option.bind_some, begin_v _ _ _ _ (by decide) (by decide), ea, hR.2.2.1.1]
    rfl
  · have eo : ∀ a b, ¬ (a = 10 ∧ b = 1) → (sF T1 10 1 (zf (T1.1 10 1) 71)).1 a b = T.1 a b := fun a b q => by rw [sF_v, if_neg q, ea]
    have eo2 : ∀ a b, a ≠ 0 → (sF T1 10 1 (zf (T1.1 10 1) 71)).2.1 a b = T.2.1 a b := fun a b q => by rw [sF_2]; exact ei a b q
    refine ⟨hn, ⟨0, 0, 0, 0, 0, RK0 i7 i8 i9 i10 i11 ?_ ?_ ?_ ?_ ?_⟩, h.img (fun f => eo 2 f (by omega)) (fun f => eo 3 f (by omega)) (fun k => eo2 2 k (by omega)) (fun k => eo2 3 k (by omega)) (eo 4 2 (by omega)) (eo 10 2 (by omega)) (eo 10 3 (by omega)), h.tx (eo 5 1 (by omega)) (eo 10 8 (by omega)) (eo2 5 1 (by omega)) (eo2 10 13 (by omega)), fun j hj => by rw [eo 4 4 (by omega), eo 10 4 (by omega)]; exact h.2.2.2.2.1 j hj, ?_, ?_⟩
    · rw [sF_at]; rfl
    · rw [sF_at]; rfl
    · rw [sF_at]; rfl
    · rw [sF_at]; rfl
    · rw [sF_at]; rfl
    · rw [sF_2, el]; exact h.2.2.2.2.2.1
    · rw [sF_2, el]; exact h.2.2.2.2.2.2
theorem op_forget {n : Nat} {T : TT} (hn : n < 64) (h : Inv n T) (x : Int32) : Op n (m_X10_forget T x) (fun T => m_X11_forget T x) := by
  rcases rng x 0 1 (by decide) (by decide) with hb | ⟨k, -, hk, rfl⟩
  · refine Op.of (r := -2) (T1 := rfs T 0) (T2 := rfm (rfs T 0) 0) ?_ ?_ (h.refuse hn (by decide))
    · unfold m_X10_forget
      rw [show m_X10_within x 0 1 = some 0 from w_bad hb]
      rfl
    · show m_X11_forget _ _ = _
      unfold m_X11_forget
      rw [in_bad (lo := nI 0) (hi := nI 1) (by decide) (by decide) hb]
      rfl
  · obtain ⟨sz, nc, tc, uc, dy, hR⟩ := h.t0
    obtain ⟨⟨b1, b2, b3, b4, b5⟩, ⟨i1, i2, i3, i4, i5⟩, ⟨j1, j2, j3, j4, j5⟩, hd, hno, htr, hpa⟩ := hR
    have main : ∀ (T1 T2 : TT) (nc' tc' : Nat), nc' ≤ nc → tc' ≤ tc → (T2.1 = (sA T1 10 1 (1 + k) 0).1) → T1.1 = T.1 → T2.2 = T1.2 → T1.2.2 = T.2.2 → (∀ a b, a ≠ 0 → T1.2.1 a b = T.2.1 a b) → T1.2.1 0 7 = T.2.1 0 7 → T1.2.1 0 8 = T.2.1 0 8 → T1.2.1 0 11 = T.2.1 0 11 → T1.2.1 0 9 = nI nc' → T1.2.1 0 10 = nI tc' → (if 1 + k = 1 then 0 else T.1 10 1 1) = nI nc' → (if 1 + k = 2 then 0 else T.1 10 1 2) = nI tc' → Inv (n + 1) T2 := fun T1 T2 nc' tc' hn' ht' e1 e2 e3 e4 e5 e6 e7 e8 e9 e10 e11 e12 => by
      have ea : ∀ a b i, T2.1 a b i = if a = 10 ∧ b = 1 ∧ i = 1 + k then 0 else T.1 a b i := fun a b i => by rw [e1, sA_v, e2]
      have eo : ∀ a b, ¬ (a = 10 ∧ b = 1) → T2.1 a b = T.1 a b := fun a b q => by
        funext i
        rw [ea, if_neg (fun z => q ⟨z.1, z.2.1⟩)]
      have ek : ∀ i, i ≠ 1 + k → T2.1 10 1 i = T.1 10 1 i := fun i q => by rw [ea, if_neg (fun z => q z.2.2)]
      have ei : ∀ a b, a ≠ 0 → T2.2.1 a b = T.2.1 a b := fun a b q => by rw [e3]; exact e5 a b q
      refine ⟨hn, ⟨sz, nc', tc', uc, dy, ⟨⟨b1, by omega, by omega, b4, by omega⟩, ⟨by rw [e3, e6]; exact i1, by rw [e3, e7]; exact i2, by rw [e3]; exact e9, by rw [e3]; exact e10, by rw [e3, e8]; exact i5⟩, ⟨by rw [ek 0 (by omega)]; exact j1, by rw [ek 16 (by omega)]; exact j2, ?_, ?_, by rw [ek 3 (by omega)]; exact j5⟩, fun i hi => ?_, ⟨fun j hj => ?_, fun m hm => ?_⟩, ⟨fun j hj => ?_, fun m hm => ?_⟩, fun u hu => ?_⟩⟩, h.img (fun f => eo 2 f (by omega)) (fun f => eo 3 f (by omega)) (fun q => ei 2 q (by omega)) (fun q => ei 3 q (by omega)) (eo 4 2 (by omega)) (eo 10 2 (by omega)) (eo 10 3 (by omega)), h.tx (eo 5 1 (by omega)) (eo 10 8 (by omega)) (ei 5 1 (by omega)) (ei 10 13 (by omega)), fun j hj => by rw [eo 4 4 (by omega), eo 10 4 (by omega)]; exact h.2.2.2.2.1 j hj, by rw [e3, e4]; exact h.2.2.2.2.2.1, by rw [e3, e4]; exact h.2.2.2.2.2.2⟩
      · rw [ea, ← e11]
        by_cases q : 1 + k = 1
        · simp [q]
        · simp [q, Ne.symm q]
      · rw [ea, ← e12]
        by_cases q : 1 + k = 2
        · simp [q]
        · simp [q, Ne.symm q]
      · rw [eo 0 2 (by omega), eo 0 3 (by omega), eo 0 4 (by omega), ek (17 + i) (by omega), ek (4 + i) (by omega), ek (10 + i) (by omega)]
        exact hd i hi
      · rw [eo 0 5 (by omega), ek (23 + j) (by omega)]
        exact hno.1 j (by omega)
      · rw [ek _ (by omega), ek _ (by omega), ek _ (by omega)]
        exact hno.2 m (by omega)
      · rw [eo 0 6 (by omega), ek (59 + j) (by omega)]
        exact htr.1 j (by omega)
      · rw [ek _ (by omega)]
        exact htr.2 m (by omega)
      · obtain ⟨⟨d, q1, q2, q3⟩, q4⟩ := hpa u hu
        refine ⟨⟨d, by omega, by rw [eo 0 7 (by omega)]; exact q2, by rw [ek _ (by omega)]; exact q3⟩, fun i hi => ?_⟩
        rw [eo 0 7 (by omega), ek (71 + (13 * u + i)) (by omega), ek (71 + (13 * u + (6 + i))) (by omega)]
        exact q4 i hi
    have e1k : (1 : Int32) + nI k = nI (1 + k) := ad_n 1 k
    have hT1 : ∀ T1 : TT, T1.1 = T.1 → m_X11_forget T1 (nI k) = some (T.1 10 1 (1 + k), sA T1 10 1 (1 + k) 0) := fun T1 e => by
      unfold m_X11_forget
      rw [in_ok (lo := nI 0) (hi := nI 1) (by decide) (by decide) (nI_rng (Nat.zero_le k) hk (by decide)), Option.bind_some, if_neg (by decide), e1k, if_pos (inb_n (by omega) (by decide)), bT_v, if_pos (inb_n (by omega) (by decide)), bT_v, cl_n (by omega), e]
    rcases (show k = 0 ∨ k = 1 by omega) with rfl | rfl
    · refine Op.of (r := nI nc) (T1 := sI T 0 9 0) (T2 := sA (sI T 0 9 0) 10 1 1 0) ?_ ?_ ?_
      · show some (T.2.1 0 9, _) = _
        rw [i3]
      · show m_X11_forget _ _ = _
        rw [hT1 (sI T 0 9 0) rfl, j3]
      · refine main (sI T 0 9 0) _ 0 tc (by omega) (by omega) rfl rfl rfl rfl (fun a b q => by rw [sI_v, if_neg (by omega)]) (by simp [sI_v]) (by simp [sI_v]) (by simp [sI_v]) (by simp [sI_v, nI]) (by rw [sI_v]; simpa using i4) rfl (by simpa using j4)
    · refine Op.of (r := nI tc) (T1 := sI T 0 10 0) (T2 := sA (sI T 0 10 0) 10 1 2 0) ?_ ?_ ?_
      · show some (T.2.1 0 10, _) = _
        rw [i4]
      · show m_X11_forget _ _ = _
        rw [hT1 (sI T 0 10 0) rfl, j4]
      · refine main (sI T 0 10 0) _ nc 0 (by omega) (by omega) rfl rfl rfl rfl (fun a b q => by rw [sI_v, if_neg (by omega)]) (by simp [sI_v]) (by simp [sI_v]) (by simp [sI_v]) (by rw [sI_v]; simpa using i3) (by simp [sI_v, nI]) (by simpa using j3) rfl
