def cpf (φ ψ : Nat → Int32) (p q j : Nat) : Nat → Int32 := fun i => if q ≤ i ∧ i < q + j then φ (p + (i - q)) else ψ i
theorem cpf_0 (φ ψ : Nat → Int32) (p q : Nat) : cpf φ ψ p q 0 = ψ := by
  funext i
  unfold cpf
  rw [if_neg (by omega)]
theorem cpf_s (φ ψ : Nat → Int32) (p q j : Nat) : upd (cpf φ ψ p q j) (q + j) (φ (p + j)) = cpf φ ψ p q (j + 1) := by
  funext i
  unfold upd cpf
  by_cases h : i = q + j
  · subst h
    simp
  · by_cases h2 : q ≤ i ∧ i < q + j
    · rw [if_neg h, if_pos h2, if_pos (by omega)]
    · rw [if_neg h, if_neg h2, if_neg (by omega)]
theorem cpf_in {φ ψ : Nat → Int32} {p q j i : Nat} (h : i < j) : cpf φ ψ p q j (q + i) = φ (p + i) := by
  unfold cpf
  rw [if_pos (by omega)]
  congr 1
  omega
theorem cpf_out {φ ψ : Nat → Int32} {p q j i : Nat} (h : i < q ∨ q + j ≤ i) : cpf φ ψ p q j i = ψ i := by
  unfold cpf
  rw [if_neg (by omega)]
theorem image_l (T : TT) (k : Nat) (hk : k < 2) : ∀ (m j n : Nat), j + m = 175 → m < n → m_X11_image_l19 n (sF T 10 2 (cpf (T.1 10 1) (T.1 10 2) 0 (175 * k) j)) (nI k) (nI j) = some (1, sA (sF T 10 2 (cpf (T.1 10 1) (T.1 10 2) 0 (175 * k) 175)) 10 3 k 1) := by
  intro m
  induction m with
  | zero =>
    intro j n hj hn
    obtain ⟨n, rfl⟩ : ∃ q, n = q + 1 := ⟨n - 1, by omega⟩
    show m_X11_image_h19 _ _ _ _ = _
    unfold m_X11_image_h19
    have hj : j = 175 := by omega
    subst hj
    rw [if_pos (by decide), if_pos (inb_n (by omega) (by decide)), bT_v, cl_n (by omega)]
    rfl
  | succ m ih =>
    intro j n hj hn
    obtain ⟨n, rfl⟩ : ∃ q, n = q + 1 := ⟨n - 1, by omega⟩
    show m_X11_image_h19 _ _ _ _ = _
    unfold m_X11_image_h19
    have h1 : ¬ (175 : Int32) ≤ nI j := nI_ge (b := 175) (by omega) (by decide)
    have e : (175 : Int32) * nI k + nI j = nI (175 * k + j) := by rw [show (175 : Int32) * nI k = nI (175 * k) from mu_n 175 k, ad_n]
    have e1 : (sF T 10 2 (cpf (T.1 10 1) (T.1 10 2) 0 (175 * k) j)).1 10 1 j = T.1 10 1 (0 + j) := by rw [sF_v, if_neg (by omega), Nat.zero_add]
    rw [if_neg h1, e, if_pos (inb_n (by omega) (by decide)), if_pos (inb_n (by omega) (by decide)), cl_n (by omega), cl_n (by omega), bT_v, bT_v, e1, sA_sF, cpf_s, nI_1]
    exact ih (j + 1) n (by omega) (by omega)
theorem op_image {n : Nat} {T : TT} (hn : n < 64) (h : Inv n T) (x : Int32) : Op n (m_X10_image T x) (fun T => m_X11_image T x) := by
  rcases rng x 0 1 (by decide) (by decide) with hb | ⟨k, -, hk, rfl⟩
  · refine Op.of (r := -2) (T1 := rfs T 0) (T2 := rfm (rfs T 0) 0) ?_ ?_ (h.refuse hn (by decide))
    · unfold m_X10_image
      rw [show m_X10_within x 0 1 = some 0 from w_bad hb]
      rfl
    · show m_X11_image _ _ = _
      unfold m_X11_image
      rw [in_bad (lo := nI 0) (hi := nI 1) (by decide) (by decide) hb]
      rfl
  · obtain ⟨sz, nc, tc, uc, dy, hR⟩ := h.t0
    obtain ⟨T1, e1, ea, ei, el, c7, c2, c3, c4, c5, c6, cp⟩ := copy_v T (2 + k) 0 (by omega)
    generalize hS : sA T1 4 2 k 1 = S
    have q := image_l S k (by omega) 175 0 FU (by omega) (FU_lt (by omega))
    rw [cpf_0, sF_self] at q
    generalize hS2 : sA (sF S 10 2 (cpf (S.1 10 1) (S.1 10 2) 0 (175 * k) 175)) 10 3 k 1 = S2 at q
    refine Op.of (r := 1) (T1 := S) (T2 := S2) ?_ ?_ ?_
    · unfold m_X10_image
      rw [show m_X10_within (nI k) 0 1 = some 1 from w_ok (Nat.zero_le k) hk (by decide), Option.bind_some, if_neg (by decide), if_pos (inb_n (by omega) (by decide)), show m_X4_copyFrom T (2 + (nI k).toNatClampNeg) 0 = some T1 by rw [cl_n (by omega)]; exact e1, Option.bind_some, if_pos (inb_n (by omega) (by decide)), bT_v, cl_n (by omega), ← hS]
      rfl
    · show m_X11_image _ _ = _
      unfold m_X11_image
      rw [in_ok (lo := nI 0) (hi := nI 1) (by decide) (by decide) (nI_rng (Nat.zero_le k) hk (by decide)), Option.bind_some, if_neg (by decide)]
      exact q
    · have a1 : ∀ a b i, S.1 a b i = if a = 4 ∧ b = 2 ∧ i = k then 1 else T1.1 a b i := fun a b i => by rw [← hS, sA_v]
      have a2 : ∀ a b i, S2.1 a b i = if a = 10 ∧ b = 3 ∧ i = k then 1 else (if a = 10 ∧ b = 2 then cpf (S.1 10 1) (S.1 10 2) 0 (175 * k) 175 else S.1 a b) i := fun a b i => by rw [← hS2, sA_v, sF_v]
      have e22 : S2.2 = T1.2 := by rw [← hS2, ← hS]; rfl
      have o1 : ∀ a b, ¬ (a = 4 ∧ b = 2) → S.1 a b = T1.1 a b := fun a b q => by
        funext i
        rw [a1, if_neg (fun z => q ⟨z.1, z.2.1⟩)]
      have o2 : ∀ a b, ¬ (a = 10 ∧ b = 3) → ¬ (a = 10 ∧ b = 2) → ¬ (a = 4 ∧ b = 2) → S2.1 a b = T1.1 a b := fun a b q1 q2 q3 => by
        funext i
        rw [a2, if_neg (fun z => q1 ⟨z.1, z.2.1⟩), if_neg q2, o1 a b q3]
      have oo : ∀ a b, a ≠ 2 + k → ¬ (a = 10 ∧ b = 3) → ¬ (a = 10 ∧ b = 2) → ¬ (a = 4 ∧ b = 2) → S2.1 a b = T.1 a b := fun a b q q1 q2 q3 => by rw [o2 a b q1 q2 q3, ea a b q]
      have oi : ∀ a b, a ≠ 2 + k → S2.2.1 a b = T.2.1 a b := fun a b q => by rw [e22]; exact ei a b q
      refine ⟨hn, h.rk (fun f => oo 0 f (by omega) (by omega) (by omega) (by omega)) (fun f => oi 0 f (by omega)) (oo 10 1 (by omega) (by omega) (by omega) (by omega)), fun j hj => ?_, h.tx (oo 5 1 (by omega) (by omega) (by omega) (by omega)) (oo 10 8 (by omega) (by omega) (by omega) (by omega)) (oi 5 1 (by omega)) (oi 10 13 (by omega)), fun j hj => by rw [oo 4 4 (by omega) (by omega) (by omega) (by omega), oo 10 4 (by omega) (by omega) (by omega) (by omega)]; exact h.2.2.2.2.1 j hj, by rw [e22, el]; exact h.2.2.2.2.2.1, by rw [e22, el]; exact h.2.2.2.2.2.2⟩
      have x1 : S2.1 4 2 j = if j = k then 1 else T.1 4 2 j := by
        rw [a2, if_neg (by omega), if_neg (by omega), a1, ea 4 2 (by omega)]
        simp
      have x2 : S2.1 10 3 j = if j = k then 1 else T.1 10 3 j := by
        rw [a2, if_neg (show ¬ ((10 : Nat) = 10 ∧ 3 = 2) by omega), o1 10 3 (by omega), ea 10 3 (by omega)]
        simp
      have x3 : S2.1 10 2 = cpf (T.1 10 1) (T.1 10 2) 0 (175 * k) 175 := by
        funext i
        rw [a2, if_neg (by omega), if_pos ⟨rfl, rfl⟩, o1 10 1 (by omega), o1 10 2 (by omega), ea 10 1 (by omega), ea 10 2 (by omega)]
      rw [x1, x2, x3]
      by_cases hjk : j = k
      · subst hjk
        refine ⟨by rw [if_pos rfl, if_pos rfl], Or.inr ⟨by rw [if_pos rfl], sz, nc, tc, uc, dy, ?_⟩⟩
        refine hR.move (fun k q1 q2 => by rw [e22]; exact c7 k q1 q2) (fun i q => ?_) (fun i q => ?_) (fun i q => ?_) (fun i q => ?_) (fun i q => ?_) (fun i q => ?_) (fun i q => ?_) (by omega)
        · rw [o2 _ _ (by omega) (by omega) (by omega)]; exact c2 i q
        · rw [o2 _ _ (by omega) (by omega) (by omega)]; exact c3 i q
        · rw [o2 _ _ (by omega) (by omega) (by omega)]; exact c4 i q
        · rw [o2 _ _ (by omega) (by omega) (by omega)]; exact c5 i q
        · rw [o2 _ _ (by omega) (by omega) (by omega)]; exact c6 i q
        · rw [o2 _ _ (by omega) (by omega) (by omega)]; exact cp i q
        · show cpf _ _ _ _ _ _ = _
          rw [cpf_in q, Nat.zero_add]
      · rw [if_neg hjk, if_neg hjk]
        obtain ⟨q1, q2⟩ := h.2.2.1 j hj
        refine ⟨q1, q2.imp id (fun q => ⟨q.1, ?_⟩)⟩
        obtain ⟨sz, nc, tc, uc, dy, q3⟩ := q.2
        refine ⟨sz, nc, tc, uc, dy, q3.congr (fun f => oo (2 + j) f (by omega) (by omega) (by omega) (by omega)) (fun f => oi (2 + j) f (by omega)) (fun i hi => ?_) (by omega)⟩
        show cpf _ _ _ _ _ _ = _
        rw [cpf_out (by omega)]
theorem from_l (T : TT) (k : Nat) (hk : k < 2) : ∀ (m j n : Nat), j + m = 175 → m < n → m_X11_from_l33 n (sF T 10 1 (cpf (T.1 10 2) (T.1 10 1) (175 * k) 0 j)) (nI k) (nI j) = some (1, sF T 10 1 (cpf (T.1 10 2) (T.1 10 1) (175 * k) 0 175)) := by
  intro m
  induction m with
  | zero =>
    intro j n hj hn
    obtain ⟨n, rfl⟩ : ∃ q, n = q + 1 := ⟨n - 1, by omega⟩
    show m_X11_from_h33 _ _ _ _ = _
    unfold m_X11_from_h33
    have hj : j = 175 := by omega
    subst hj
    rw [if_pos (by decide)]
  | succ m ih =>
    intro j n hj hn
    obtain ⟨n, rfl⟩ : ∃ q, n = q + 1 := ⟨n - 1, by omega⟩
    show m_X11_from_h33 _ _ _ _ = _
    unfold m_X11_from_h33
    have h1 : ¬ (175 : Int32) ≤ nI j := nI_ge (b := 175) (by omega) (by decide)
    have e : (175 : Int32) * nI k + nI j = nI (175 * k + j) := by rw [show (175 : Int32) * nI k = nI (175 * k) from mu_n 175 k, ad_n]
    have e1 : (sF T 10 1 (cpf (T.1 10 2) (T.1 10 1) (175 * k) 0 j)).1 10 2 (175 * k + j) = T.1 10 2 (175 * k + j) := by rw [sF_v, if_neg (by omega)]
    have e2 := cpf_s (T.1 10 2) (T.1 10 1) (175 * k) 0 j
    rw [Nat.zero_add] at e2
    rw [if_neg h1, e, if_pos (inb_n (by omega) (by decide)), if_pos (inb_n (by omega) (by decide)), cl_n (by omega), cl_n (by omega), bT_v, bT_v, e1, sA_sF, e2, nI_1]
    exact ih (j + 1) n (by omega) (by omega)
theorem op_from {n : Nat} {T : TT} (hn : n < 64) (h : Inv n T) (x : Int32) : Op n (m_X10_from T x) (fun T => m_X11_from T x) := by
  rcases rng x 0 1 (by decide) (by decide) with hb | ⟨k, -, hk, rfl⟩
  · refine Op.of (r := -2) (T1 := rfs T 0) (T2 := rfm (rfs T 0) 0) ?_ ?_ (h.refuse hn (by decide))
    · unfold m_X10_from
      rw [show m_X10_within x 0 1 = some 0 from w_bad hb]
      rfl
    · show m_X11_from _ _ = _
      unfold m_X11_from
      rw [in_bad (lo := nI 0) (hi := nI 1) (by decide) (by decide) hb]
      rfl
  · obtain ⟨q1, q2⟩ := h.2.2.1 k (by omega)
    have w1 : m_X10_within (nI k) 0 1 = some 1 := w_ok (Nat.zero_le k) hk (by decide)
    have n1 : m_X11_in (nI k).toInt64 0 1 = some 1 := in_ok (lo := nI 0) (hi := nI 1) (by decide) (by decide) (nI_rng (Nat.zero_le k) hk (by decide))
    have hc : (nI k).toNatClampNeg = k := cl_n (by omega)
    rcases q2 with q0 | ⟨q0, sz, nc, tc, uc, dy, hR⟩
    · refine Op.of (r := -3) (T1 := rfs T 1) (T2 := rfm (rfs T 1) 1) ?_ ?_ (h.refuse hn (by decide))
      · unfold m_X10_from
        rw [w1, Option.bind_some, if_neg (by decide), if_pos (inb_n (by omega) (by decide)), if_pos (show T.1 4 2 (nI k).toNatClampNeg = 0 by rw [hc]; exact q0)]
        rfl
      · show m_X11_from _ _ = _
        unfold m_X11_from
        rw [n1, Option.bind_some, if_neg (by decide), if_pos (inb_n (by omega) (by decide)), if_pos (show (rfs T 1).1 10 3 (nI k).toNatClampNeg = 0 by rw [hc, rfs_told, ← q1]; exact q0)]
        rfl
    · obtain ⟨S, e1, ea, ei, el, c7, c2, c3, c4, c5, c6, cp⟩ := copy_v T 0 (2 + k) (by omega)
      have q := from_l S k (by omega) 175 0 FU (by omega) (FU_lt (by omega))
      rw [cpf_0, sF_self] at q
      generalize hS2 : sF S 10 1 (cpf (S.1 10 2) (S.1 10 1) (175 * k) 0 175) = S2 at q
      have a2 : ∀ a b, S2.1 a b = if a = 10 ∧ b = 1 then cpf (S.1 10 2) (S.1 10 1) (175 * k) 0 175 else S.1 a b := fun a b => by rw [← hS2, sF_v]
      have e22 : S2.2 = S.2 := by rw [← hS2]; rfl
      have oo : ∀ a b, a ≠ 0 → ¬ (a = 10 ∧ b = 1) → S2.1 a b = T.1 a b := fun a b q q1 => by rw [a2, if_neg q1, ea a b q]
      have oi : ∀ a b, a ≠ 0 → S2.2.1 a b = T.2.1 a b := fun a b q => by rw [e22]; exact ei a b q
      have o0 : ∀ b, S2.1 0 b = S.1 0 b := fun b => by rw [a2, if_neg (by omega)]
      refine Op.of (r := 1) (T1 := S) (T2 := S2) ?_ ?_ ?_
      · unfold m_X10_from
        rw [w1, Option.bind_some, if_neg (by decide), if_pos (inb_n (by omega) (by decide)), if_neg (show ¬ T.1 4 2 (nI k).toNatClampNeg = 0 by rw [hc, q0]; decide), if_pos (inb_n (by omega) (by decide)), show m_X4_copyFrom T 0 (2 + (nI k).toNatClampNeg) = some S by rw [hc]; exact e1]
        rfl
      · show m_X11_from _ _ = _
        unfold m_X11_from
        rw [n1, Option.bind_some, if_neg (by decide), if_pos (inb_n (by omega) (by decide)), if_neg (show ¬ S.1 10 3 (nI k).toNatClampNeg = 0 by rw [hc, ea 10 3 (by omega), ← q1, q0]; decide)]
        exact q
      · refine ⟨hn, ⟨sz, nc, tc, uc, dy, ?_⟩, h.img (fun f => oo 2 f (by omega) (by omega)) (fun f => oo 3 f (by omega) (by omega)) (fun f => oi 2 f (by omega)) (fun f => oi 3 f (by omega)) (oo 4 2 (by omega) (by omega)) (oo 10 2 (by omega) (by omega)) (oo 10 3 (by omega) (by omega)), h.tx (oo 5 1 (by omega) (by omega)) (oo 10 8 (by omega) (by omega)) (oi 5 1 (by omega)) (oi 10 13 (by omega)), fun j hj => by rw [oo 4 4 (by omega) (by omega), oo 10 4 (by omega) (by omega)]; exact h.2.2.2.2.1 j hj, by rw [e22, el]; exact h.2.2.2.2.2.1, by rw [e22, el]; exact h.2.2.2.2.2.2⟩
        refine hR.move (fun k q1 q2 => by rw [e22]; exact c7 k q1 q2) (fun i q => by rw [o0]; exact c2 i q) (fun i q => by rw [o0]; exact c3 i q) (fun i q => by rw [o0]; exact c4 i q) (fun i q => by rw [o0]; exact c5 i q) (fun i q => by rw [o0]; exact c6 i q) (fun i q => by rw [o0]; exact cp i q) (fun i q => ?_) (by omega)
        rw [a2, if_pos ⟨rfl, rfl⟩]
        have := cpf_in (φ := S.1 10 2) (ψ := S.1 10 1) (p := 175 * k) (q := 0) q
        rw [Nat.zero_add] at this
        rw [this, ea 10 2 (by omega)]
