theorem c6n : Int32.toNatClampNeg 6 = 6 := rfl
theorem c0n : Int32.toNatClampNeg 0 = 0 := rfl
theorem rem_b {T : TT} {g q : Nat} (h11 : T.2.1 g 11 = nI q) (hq : q < 8) : ∃ T1, m_X4_remember_b48 g T = some T1 ∧ T1.2.1 g 11 = nI (q + 1) ∧ (∀ j, j < 13 * q → T1.1 g 7 j = T.1 g 7 j) ∧ T1.1 g 7 (13 * q) = T.2.1 g 8 ∧ ∀ i, i < 6 → T1.1 g 7 (13 * q + (1 + i)) = T.1 g 3 i ∧ T1.1 g 7 (13 * q + (7 + i)) = T.1 g 4 i := by
  have e0 : nI q * 13 = nI (13 * q) := by rw [Nat.mul_comm]; exact mu_n q 13
  have e1 : nI (13 * q) + 1 = nI (13 * q + 1) := ad_n _ 1
  have e7 : nI (13 * q + 1) + 6 = nI (13 * q + 7) := ad_n _ 6
  have k1 : (nI (13 * q + 1)).toNatClampNeg = 13 * q + 1 := cl_n (by omega)
  have k7 : (nI (13 * q + 7)).toNatClampNeg = 13 * q + 7 := cl_n (by omega)
  have p1 : ¬ (0 : Int32) < 0 ∧ ¬ nI (13 * q + 1) < 0 ∧ ¬ (6 : Int32) < 0 ∧ Int32.toNatClampNeg (0 : Int32) + Int32.toNatClampNeg (6 : Int32) ≤ 6 ∧ Int32.toNatClampNeg (nI (13 * q + 1)) + Int32.toNatClampNeg (6 : Int32) ≤ 104 := ⟨by decide, nI_pos (by omega), by decide, by decide, by rw [k1, c6n]; omega⟩
  have p7 : ¬ (0 : Int32) < 0 ∧ ¬ nI (13 * q + 7) < 0 ∧ ¬ (6 : Int32) < 0 ∧ Int32.toNatClampNeg (0 : Int32) + Int32.toNatClampNeg (6 : Int32) ≤ 6 ∧ Int32.toNatClampNeg (nI (13 * q + 7)) + Int32.toNatClampNeg (6 : Int32) ≤ 104 := ⟨by decide, nI_pos (by omega), by decide, by decide, by rw [k7, c6n]; omega⟩
  have ex : m_X4_remember_b48 g T = some (sI (cpA (cpA (sA T g 7 (13 * q) (T.2.1 g 8)) g 3 0 g 7 (13 * q + 1) 6) g 4 0 g 7 (13 * q + 7) 6) g 11 (nI (q + 1))) := by
    unfold m_X4_remember_b48
    rw [bT_v, h11, e0, if_pos (inb_n (by omega) (by decide)), bT_v, e1, e7, if_pos p1, bT_v, if_pos p7, bT_v, bT_v, k1, k7, cl_n (by omega), cpA_2, cpA_2, sA_2, h11, nI_1]
    rfl
  refine ⟨_, ex, by rw [sI_v, if_pos ⟨rfl, rfl⟩], fun j hj => ?_, ?_, fun i hi => ⟨?_, ?_⟩⟩
  · rw [sI_1, cpA_v, if_pos ⟨rfl, rfl⟩, pk_cpy_out (by omega), cpA_v, if_pos ⟨rfl, rfl⟩, pk_cpy_out (by omega), sA_v, if_neg (by omega)]
  · rw [sI_1, cpA_v, if_pos ⟨rfl, rfl⟩, pk_cpy_out (by omega), cpA_v, if_pos ⟨rfl, rfl⟩, pk_cpy_out (by omega), sA_v, if_pos ⟨rfl, rfl, rfl⟩]
  · rw [sI_1, cpA_v, if_pos ⟨rfl, rfl⟩, pk_cpy_out (by omega), cpA_v, if_pos ⟨rfl, rfl⟩, pk_cpy_in (by omega) (by omega), sA_v, if_neg (by omega)]
    exact congrArg (T.1 g 3) (by omega)
  · rw [sI_1, cpA_v, if_pos ⟨rfl, rfl⟩, pk_cpy_in (by omega) (by omega), cpA_v, if_neg (by omega), sA_v, if_neg (by omega)]
    exact congrArg (T.1 g 4) (by omega)
theorem rem_v {T : TT} {g uc dy : Nat} (h11 : T.2.1 g 11 = nI uc) (hu : uc ≤ 8) (h8 : T.2.1 g 8 = nI dy) (hd : dy < 9999) : ∃ T1, m_X4_remember T g = some T1 ∧ T1.2.1 g 11 = nI (min uc 7 + 1) ∧ (∀ j, j < 13 * min uc 7 → T1.1 g 7 j = T.1 g 7 (13 * (uc - min uc 7) + j)) ∧ T1.1 g 7 (13 * min uc 7) = T.2.1 g 8 ∧ ∀ i, i < 6 → T1.1 g 7 (13 * min uc 7 + (1 + i)) = T.1 g 3 i ∧ T1.1 g 7 (13 * min uc 7 + (7 + i)) = T.1 g 4 i := by
  unfold m_X4_remember
  have hd' : nI dy < 9999 := nI_lt (b := 9999) hd (by decide)
  rw [h8, if_pos hd', h11]
  by_cases h8' : uc = 8
  · subst h8'
    rw [if_neg (by decide), if_pos (by decide), bT_v, bT_v, show min 8 7 = 7 from rfl]
    obtain ⟨T1, q1, q2, q3, q4, q5⟩ := rem_b (T := sI (cpA T g 7 (Int32.toNatClampNeg 13) g 7 (Int32.toNatClampNeg 0) (Int32.toNatClampNeg (104 - 13))) g 11 7) (g := g) (q := 7) (by rw [sI_v, if_pos ⟨rfl, rfl⟩]; rfl) (by decide)
    refine ⟨T1, q1, q2, fun j hj => ?_, ?_, fun i hi => ?_⟩
    · rw [q3 j hj, sI_1, cpA_v, if_pos ⟨rfl, rfl⟩, pk_cpy_in (by rw [c0n]; omega) (by rw [c0n, show Int32.toNatClampNeg (104 - 13) = 91 from rfl]; omega), show Int32.toNatClampNeg 13 = 13 from rfl, c0n]
      exact congrArg (T.1 g 7) (by omega)
    · rw [q4, sI_v, if_neg (by omega), cpA_2, h8]
    · rw [(q5 i hi).1, (q5 i hi).2, sI_1, cpA_v, if_neg (by omega), cpA_v, if_neg (by omega)]
      exact ⟨rfl, rfl⟩
  · have hlt : nI uc < 8 := nI_lt (b := 8) (by omega) (by decide)
    have hm : min uc 7 = uc := by omega
    rw [if_pos hlt, hm]
    obtain ⟨T1, q1, q2, q3, q4, q5⟩ := rem_b h11 (by omega)
    refine ⟨T1, q1, q2, fun j hj => ?_, by rw [q4, h8], q5⟩
    rw [q3 j hj]
    exact congrArg (T.1 g 7) (by omega)
theorem keep_l (T : TT) (q : Nat) (hq : q < 8) (h3 : T.1 10 1 3 = nI q) : ∀ (m j n : Nat), j + m = 13 → m < n → m_X11_keep_l53 n (sF T 10 1 (cpf (T.1 10 1) (T.1 10 1) 4 (71 + 13 * q) j)) (nI j) = some (sA (sF T 10 1 (cpf (T.1 10 1) (T.1 10 1) 4 (71 + 13 * q) 13)) 10 1 3 (nI (q + 1))) := by
  intro m
  induction m with
  | zero =>
    intro j n hj hn
    obtain ⟨n, rfl⟩ : ∃ q, n = q + 1 := ⟨n - 1, by omega⟩
    show m_X11_keep_h53 _ _ _ = _
    unfold m_X11_keep_h53
    have hj : j = 13 := by omega
    subst hj
    rw [if_pos (by decide), bT_v, sF_at, cpf_out (by omega), h3, nI_1]
  | succ m ih =>
    intro j n hj hn
    obtain ⟨n, rfl⟩ : ∃ q, n = q + 1 := ⟨n - 1, by omega⟩
    show m_X11_keep_h53 _ _ _ = _
    unfold m_X11_keep_h53
    have h1 : ¬ (13 : Int32) ≤ nI j := nI_ge (b := 13) (by omega) (by decide)
    have e4 : (4 : Int32) + nI j = nI (4 + j) := ad_n 4 j
    have e : (71 : Int32) + (13 : Int32) * nI q + nI j = nI (71 + 13 * q + j) := by rw [show (13 : Int32) * nI q = nI (13 * q) from mu_n 13 q, show (71 : Int32) + nI (13 * q) = nI (71 + 13 * q) from ad_n 71 _, ad_n]
    rw [if_neg h1, sF_at, cpf_out (by omega), h3, e4, e, if_pos (inb_n (by omega) (by decide)), if_pos (inb_n (by omega) (by decide)), cl_n (by omega), cl_n (by omega), bT_v, bT_v, cpf_out (by omega), sA_sF, cpf_s, nI_1]
    exact ih (j + 1) n (by omega) (by omega)
theorem keep_b {T : TT} {q : Nat} (hq : q < 8) (h3 : T.1 10 1 3 = nI q) : m_X11_keep_b51 T = some (sA (sF T 10 1 (cpf (T.1 10 1) (T.1 10 1) 4 (71 + 13 * q) 13)) 10 1 3 (nI (q + 1))) := by
  have := keep_l T q hq h3 13 0 FU (by omega) (FU_lt (by omega))
  rw [cpf_0, sF_self] at this
  exact this
theorem keep_s (T : TT) : ∀ (m j n : Nat), j + m = 91 → m < n → m_X11_keep_l13 n (sF T 10 1 (cpf (T.1 10 1) (T.1 10 1) 84 71 j)) (nI j) = m_X11_keep_b51 (sA (sF T 10 1 (cpf (T.1 10 1) (T.1 10 1) 84 71 91)) 10 1 3 7) := by
  intro m
  induction m with
  | zero =>
    intro j n hj hn
    obtain ⟨n, rfl⟩ : ∃ q, n = q + 1 := ⟨n - 1, by omega⟩
    show m_X11_keep_h13 _ _ _ = _
    unfold m_X11_keep_h13
    have hj : j = 91 := by omega
    subst hj
    rw [if_pos (by decide), bT_v]
  | succ m ih =>
    intro j n hj hn
    obtain ⟨n, rfl⟩ : ∃ q, n = q + 1 := ⟨n - 1, by omega⟩
    show m_X11_keep_h13 _ _ _ = _
    unfold m_X11_keep_h13
    have h1 : ¬ (91 : Int32) ≤ nI j := nI_ge (b := 91) (by omega) (by decide)
    have e4 : (84 : Int32) + nI j = nI (84 + j) := ad_n 84 j
    have e : (71 : Int32) + nI j = nI (71 + j) := ad_n 71 j
    rw [if_neg h1, e4, e, if_pos (inb_n (by omega) (by decide)), if_pos (inb_n (by omega) (by decide)), cl_n (by omega), cl_n (by omega), bT_v, bT_v, sF_at, cpf_out (by omega), sA_sF, cpf_s, nI_1]
    exact ih (j + 1) n (by omega) (by omega)
theorem keep_v {T : TT} {uc : Nat} (hu : uc ≤ 8) (h3 : T.1 10 1 3 = nI uc) : ∃ T1, m_X11_keep T = some T1 ∧ T1.1 10 1 3 = nI (min uc 7 + 1) ∧ (∀ i, i < 71 → i ≠ 3 → T1.1 10 1 i = T.1 10 1 i) ∧ (∀ j, j < 13 * min uc 7 → T1.1 10 1 (71 + j) = T.1 10 1 (71 + (13 * (uc - min uc 7) + j))) ∧ ∀ j, j < 13 → T1.1 10 1 (71 + (13 * min uc 7 + j)) = T.1 10 1 (4 + j) := by
  unfold m_X11_keep
  rw [h3]
  by_cases h8' : uc = 8
  · subst h8'
    rw [if_pos (by decide), show min 8 7 = 7 from rfl]
    have q := keep_s T 91 0 FU (by omega) (FU_lt (by omega))
    rw [cpf_0, sF_self] at q
    have q' : m_X11_keep_l13 FU T 0 = _ := q
    generalize hS : sA (sF T 10 1 (cpf (T.1 10 1) (T.1 10 1) 84 71 91)) 10 1 3 7 = S at q'
    have s3 : S.1 10 1 3 = nI 7 := by rw [← hS, sA_v, if_pos ⟨rfl, rfl, rfl⟩]; rfl
    have so : ∀ i, i ≠ 3 → S.1 10 1 i = cpf (T.1 10 1) (T.1 10 1) 84 71 91 i := fun i hi => by rw [← hS, sA_v, if_neg (by omega), sF_at]
    rw [q', keep_b (by decide) s3]
    refine ⟨_, rfl, by rw [sA_v, if_pos ⟨rfl, rfl, rfl⟩], fun i h1 h2 => ?_, fun j hj => ?_, fun j hj => ?_⟩
    · rw [sA_v, if_neg (by omega), sF_at, cpf_out (by omega), so i h2, cpf_out (by omega)]
    · rw [sA_v, if_neg (by omega), sF_at, cpf_out (by omega), so _ (by omega), cpf_in (by omega)]
      exact congrArg (T.1 10 1) (by omega)
    · rw [sA_v, if_neg (by omega), sF_at, ← Nat.add_assoc, cpf_in hj, so _ (by omega), cpf_out (by omega)]
  · have hm : min uc 7 = uc := by omega
    have hne : ¬ nI uc = 8 := fun e => h8' ((nI_eq (a := uc) (b := 8) (by omega) (by decide)).mp e)
    rw [if_neg hne, keep_b (by omega) h3, hm]
    refine ⟨_, rfl, by rw [sA_v, if_pos ⟨rfl, rfl, rfl⟩], fun i h1 h2 => ?_, fun j hj => ?_, fun j hj => ?_⟩
    · rw [sA_v, if_neg (by omega), sF_at, cpf_out (by omega)]
    · rw [sA_v, if_neg (by omega), sF_at, cpf_out (by omega)]
      exact congrArg (T.1 10 1) (by omega)
    · rw [sA_v, if_neg (by omega), sF_at, ← Nat.add_assoc, cpf_in hj]
theorem undo_l (T : TT) (q : Nat) (hq : q < 8) (h3 : T.1 10 1 3 = nI q) : ∀ (m j n : Nat), j + m = 13 → m < n → m_X11_undo_l26 n (sF T 10 1 (cpf (T.1 10 1) (T.1 10 1) (71 + 13 * q) 4 j)) (nI j) = some (T.1 10 1 (71 + 13 * q + 12), sF T 10 1 (cpf (T.1 10 1) (T.1 10 1) (71 + 13 * q) 4 13)) := by
  intro m
  induction m with
  | zero =>
    intro j n hj hn
    obtain ⟨n, rfl⟩ : ∃ q, n = q + 1 := ⟨n - 1, by omega⟩
    show m_X11_undo_h26 _ _ _ = _
    unfold m_X11_undo_h26
    have hj : j = 13 := by omega
    subst hj
    rw [if_pos (by decide), sF_at, show (16 : Nat) = 4 + 12 from rfl, cpf_in (by omega)]
  | succ m ih =>
    intro j n hj hn
    obtain ⟨n, rfl⟩ : ∃ q, n = q + 1 := ⟨n - 1, by omega⟩
    show m_X11_undo_h26 _ _ _ = _
    unfold m_X11_undo_h26
    have h1 : ¬ (13 : Int32) ≤ nI j := nI_ge (b := 13) (by omega) (by decide)
    have e4 : (4 : Int32) + nI j = nI (4 + j) := ad_n 4 j
    have e : (71 : Int32) + (13 : Int32) * nI q + nI j = nI (71 + 13 * q + j) := by rw [show (13 : Int32) * nI q = nI (13 * q) from mu_n 13 q, show (71 : Int32) + nI (13 * q) = nI (71 + 13 * q) from ad_n 71 _, ad_n]
    rw [if_neg h1, sF_at, cpf_out (i := 3) (by omega), h3, e4, e, if_pos (inb_n (by omega) (by decide)), if_pos (inb_n (by omega) (by decide)), cl_n (by omega), cl_n (by omega), bT_v, bT_v, cpf_out (by omega), sA_sF, cpf_s, nI_1]
    exact ih (j + 1) n (by omega) (by omega)
