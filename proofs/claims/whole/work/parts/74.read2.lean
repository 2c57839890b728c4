/-! THE TEXT: the reference's tokens -/
theorem smal_v {c : Nat} (h : c < 128) : m_X11_isSmall (nI c) = some (if 97 ≤ c ∧ c ≤ 122 then 1 else 0) := by
  unfold m_X11_isSmall
  by_cases h1 : 97 ≤ c ∧ c ≤ 122
  · rw [in_ok (lo := nI 97) (hi := nI 122) (by decide) (by decide) (nI_rng h1.1 h1.2 (by decide)), if_pos h1]
    rfl
  · have hb : nI c < nI 97 ∨ nI 122 < nI c := by
      by_cases h2 : c < 97
      · exact Or.inl (nI_lt h2 (by decide))
      · exact Or.inr (nI_lt (by omega) (by omega))
    rw [in_bad (lo := nI 97) (hi := nI 122) (by decide) (by decide) hb, if_neg h1]
    rfl
theorem figu_v {c : Nat} (h : c < 128) : m_X11_isFigure (nI c) = some (if 48 ≤ c ∧ c ≤ 57 then 1 else 0) := by
  unfold m_X11_isFigure
  by_cases h1 : 48 ≤ c ∧ c ≤ 57
  · rw [in_ok (lo := nI 48) (hi := nI 57) (by decide) (by decide) (nI_rng h1.1 h1.2 (by decide)), if_pos h1]
    rfl
  · have hb : nI c < nI 48 ∨ nI 57 < nI c := by
      by_cases h2 : c < 48
      · exact Or.inl (nI_lt h2 (by decide))
      · exact Or.inr (nI_lt (by omega) (by omega))
    rw [in_bad (lo := nI 48) (hi := nI 57) (by decide) (by decide) hb, if_neg h1]
    rfl
theorem look_5 {b : Nat → Nat} {tl : Nat} (ht : tl ≤ 64) : ∀ (m q n : Nat) (T : TT), q + m = tl → m < n → TM T b tl → T.2.1 10 14 = nI q → ∃ T1, m_X11_lookAt_l5 n T = m_X11_lookAt_b43 T1 ∧ TM T1 b tl ∧ T1.2.1 10 14 = nI (rn b tl 32 32 q) := by
  intro m
  induction m with
  | zero =>
    intro q n T hq hn h e
    obtain ⟨n, rfl⟩ : ∃ q, n = q + 1 := ⟨n - 1, by omega⟩
    refine ⟨T, ?_, h, by rw [rn_e (fun z => by omega)]; exact e⟩
    show m_X11_lookAt_h5 _ _ = _
    unfold m_X11_lookAt_h5
    rw [h.1, e, if_pos (nI_le (by omega) (by omega))]
  | succ m ih =>
    intro q n T hq hn h e
    obtain ⟨n, rfl⟩ : ∃ q, n = q + 1 := ⟨n - 1, by omega⟩
    obtain ⟨hb, a⟩ := h.2 q (by omega)
    by_cases c : b q = 32
    · obtain ⟨T1, z1, z2, z3⟩ := ih (q + 1) n (sI T 10 14 (nI (q + 1))) (by omega) (by omega) (h.sI (by omega)) (by rw [sI_v, if_pos ⟨rfl, rfl⟩])
      refine ⟨T1, ?_, z2, by rw [rn_s (by omega) (by omega) (by omega)]; exact z3⟩
      show m_X11_lookAt_h5 _ _ = _
      unfold m_X11_lookAt_h5
      have c' : nI (b q) = 32 := by rw [c]; rfl
      rw [h.1, e, if_neg (nI_ge (by omega) (by omega)), if_pos (inb_n (by omega) (by decide)), cl_n (by omega), a, if_pos c', bT_v, nI_1]
      exact z1
    · refine ⟨T, ?_, h, by rw [rn_e (fun z => by omega)]; exact e⟩
      show m_X11_lookAt_h5 _ _ = _
      unfold m_X11_lookAt_h5
      have c' : ¬ nI (b q) = 32 := fun z => c ((nI_eq (b := 32) (by omega) (by decide)).mp z)
      rw [h.1, e, if_neg (nI_ge (by omega) (by omega)), if_pos (inb_n (by omega) (by decide)), cl_n (by omega), a, if_neg c']
theorem look_136 {b : Nat → Nat} {tl st kd lo hi : Nat} (ht : tl ≤ 64) (hk : (kd = 1 ∧ lo = 97 ∧ hi = 122) ∨ (kd = 2 ∧ lo = 48 ∧ hi = 57)) : ∀ (m q n : Nat) (T : TT), st + q + m = tl → m + 1 < n → TM T b tl → T.2.1 10 14 = nI st → T.2.1 10 15 = nI q → T.2.1 10 16 = nI kd → T.2.1 10 17 = 0 → ∃ T1, m_X11_lookAt_l136 n T 1 = m_X11_lookAt_b215 T1 ∧ TM T1 b tl ∧ T1.2.1 10 14 = nI st ∧ T1.2.1 10 15 = nI (rn b tl lo hi (st + q) - st) ∧ T1.2.1 10 16 = nI kd ∧ T1.2.1 10 17 = 0 := by
  intro m
  induction m with
  | zero =>
    intro q n T hq hn h e14 e15 e16 e17
    obtain ⟨n, rfl⟩ : ∃ q, n = q + 1 := ⟨n - 1, by omega⟩
    refine ⟨T, ?_, h, e14, ?_, e16, e17⟩
    · show m_X11_lookAt_h136 _ _ _ = _
      unfold m_X11_lookAt_h136
      rw [if_neg (by decide), h.1, e14, e15, ad_n, if_pos (nI_le (by omega) (by omega))]
    · rw [rn_e (fun z => by omega), e15]
      exact congrArg nI (by omega)
  | succ m ih =>
    intro q n T hq hn h e14 e15 e16 e17
    obtain ⟨n, rfl⟩ : ∃ q, n = q + 1 := ⟨n - 1, by omega⟩
    obtain ⟨hb, a⟩ := h.2 (st + q) (by omega)
    have hsel : (if nI kd = 1 then ((m_X11_isSmall (nI (b (st + q)))).bind (fun z20 => m_X11_lookAt_b193 (m_X11_lookAt_l136 n) T z20)) else ((m_X11_isFigure (nI (b (st + q)))).bind (fun z19 => m_X11_lookAt_b193 (m_X11_lookAt_l136 n) T z19))) = m_X11_lookAt_b193 (m_X11_lookAt_l136 n) T (if lo ≤ b (st + q) ∧ b (st + q) ≤ hi then 1 else 0) := by
      rcases hk with ⟨rfl, rfl, rfl⟩ | ⟨rfl, rfl, rfl⟩
      · rw [if_pos (by decide), smal_v hb, Option.bind_some]
      · rw [if_neg (by decide), figu_v hb, Option.bind_some]
    have hu : m_X11_lookAt_l136 (n + 1) T 1 = m_X11_lookAt_b193 (m_X11_lookAt_l136 n) T (if lo ≤ b (st + q) ∧ b (st + q) ≤ hi then 1 else 0) := by
      show m_X11_lookAt_h136 _ _ _ = _
      unfold m_X11_lookAt_h136
      rw [if_neg (by decide), h.1, e14, e15, ad_n, if_neg (nI_ge (by omega) (by omega)), if_pos (inb_n (by omega) (by decide)), cl_n (by omega), a, bT_v, e16]
      exact hsel
    rw [hu]
    by_cases c : lo ≤ b (st + q) ∧ b (st + q) ≤ hi
    · obtain ⟨T1, z1, z2, z3, z4, z5, z6⟩ := ih (q + 1) n (sI T 10 15 (nI (q + 1))) (by omega) (by omega) (h.sI (by omega)) (by rw [sI_v, if_neg (by omega)]; exact e14) (by rw [sI_v, if_pos ⟨rfl, rfl⟩]) (by rw [sI_v, if_neg (by omega)]; exact e16) (by rw [sI_v, if_neg (by omega)]; exact e17)
      refine ⟨T1, ?_, z2, z3, by rw [rn_s (by omega) c.1 c.2]; exact z4, z5, z6⟩
      unfold m_X11_lookAt_b193
      rw [if_pos c, if_neg (by decide)]
      unfold m_X11_lookAt_b208
      rw [e15, nI_1, bT_v]
      exact z1
    · refine ⟨sI T 10 15 (nI q), ?_, h.sI (by omega), by rw [sI_v, if_neg (by omega)]; exact e14, ?_, by rw [sI_v, if_neg (by omega)]; exact e16, by rw [sI_v, if_neg (by omega)]; exact e17⟩
      · unfold m_X11_lookAt_b193
        rw [if_neg c, if_pos rfl]
        unfold m_X11_lookAt_b208
        have e0 : nI q + 0 = nI q := ad_n q 0
        rw [e15, e0, bT_v]
        obtain ⟨n, rfl⟩ : ∃ q, n = q + 1 := ⟨n - 1, by omega⟩
        show m_X11_lookAt_h136 _ _ _ = _
        unfold m_X11_lookAt_h136
        rw [if_pos rfl]
      · rw [sI_v, if_pos ⟨rfl, rfl⟩, rn_e (fun z => c z.2)]
        exact congrArg nI (by omega)
theorem b295_v {T : TT} {k : Nat} (e : T.2.1 10 16 = nI k) : m_X11_lookAt_b295 T = some (sI T 10 16 (nI k)) := by
  unfold m_X11_lookAt_b295
  rw [e, bT_v]
theorem b215_n {T : TT} {l k : Nat} (hl : 0 < l) (hl2 : l ≤ 64) (e15 : T.2.1 10 15 = nI l) (e16 : T.2.1 10 16 = nI k) (hk : k ≤ 4) (hk2 : k ≠ 2) : m_X11_lookAt_b215 T = some (sI T 10 16 (nI k)) := by
  have h2 : ¬ nI k = 2 := fun z => hk2 ((nI_eq (b := 2) (by omega) (by decide)).mp z)
  have key : ∀ n : Nat, m_X11_lookAt_l218 (n + 1) T 0 = some (sI T 10 16 (nI k)) := fun n => by
    show m_X11_lookAt_h218 _ _ _ = _
    unfold m_X11_lookAt_h218
    have hl0 : ¬ nI l ≤ 0 := nI_nle hl (by omega)
    rw [e15, if_neg hl0, if_neg (by decide), e16, if_neg h2]
    unfold m_X11_lookAt_b274
    rw [e16, if_neg h2, b295_v e16]
  unfold m_X11_lookAt_b215
  exact key 999999
theorem b215_2 {T : TT} {b : Nat → Nat} {tl st en : Nat} (h : TM T b tl) (ht : tl ≤ 64) (hs : st < en) (he : en ≤ tl) (hd : ∀ j, st ≤ j → j < en → 48 ≤ b j ∧ b j ≤ 57) (e14 : T.2.1 10 14 = nI st) (e15 : T.2.1 10 15 = nI (en - st)) (e16 : T.2.1 10 16 = nI 2) (e17 : T.2.1 10 17 = 0) : ∃ T', m_X11_lookAt_b215 T = some T' ∧ T'.2.1 10 14 = nI st ∧ T'.2.1 10 15 = nI (en - st) ∧ T'.2.1 10 16 = nI (if en - st ≤ 2 then 2 else 4) ∧ T'.2.1 10 17 = nI (vl b st en) := by
  have fin : ∀ S : TT, S.2.1 10 14 = nI st → S.2.1 10 15 = nI (en - st) → S.2.1 10 16 = nI 2 → S.2.1 10 17 = nI (vl b st en) → ∃ T', m_X11_lookAt_b274 S = some T' ∧ T'.2.1 10 14 = nI st ∧ T'.2.1 10 15 = nI (en - st) ∧ T'.2.1 10 16 = nI (if en - st ≤ 2 then 2 else 4) ∧ T'.2.1 10 17 = nI (vl b st en) := fun S s14 s15 s16 s17 => by
    unfold m_X11_lookAt_b274
    rw [s16, if_pos (by decide), s15]
    by_cases c : en - st ≤ 2
    · have c' : nI (en - st) ≤ 2 := nI_le (b := 2) c (by decide)
      rw [if_pos c', if_pos c, b295_v s16]
      exact ⟨_, rfl, by rw [sI_v, if_neg (by omega)]; exact s14, by rw [sI_v, if_neg (by omega)]; exact s15, by rw [sI_v, if_pos ⟨rfl, rfl⟩], by rw [sI_v, if_neg (by omega)]; exact s17⟩
    · have c' : ¬ nI (en - st) ≤ 2 := nI_ge (a := 2) (by omega) (by omega)
      rw [if_neg c', if_neg c, bT_v]
      exact ⟨_, rfl, by rw [sI_v, if_neg (by omega)]; exact s14, by rw [sI_v, if_neg (by omega)]; exact s15, by rw [sI_v, if_pos ⟨rfl, rfl⟩]; rfl, by rw [sI_v, if_neg (by omega)]; exact s17⟩
  have key : ∀ n : Nat, ∃ T', m_X11_lookAt_l218 (n + 3) T 0 = some T' ∧ T'.2.1 10 14 = nI st ∧ T'.2.1 10 15 = nI (en - st) ∧ T'.2.1 10 16 = nI (if en - st ≤ 2 then 2 else 4) ∧ T'.2.1 10 17 = nI (vl b st en) := fun n => by
    have a0 := (h.2 st (by omega)).2
    have d0 : (10 : Int32) * 0 + nI (b st) - 48 = nI (10 * 0 + (b st - 48)) := dig (v := 0) (hd st (by omega) hs).1
    have es : nI st + 0 = nI st := ad_n st 0
    have hl0 : ¬ nI (en - st) ≤ 0 := nI_nle (by omega) (by omega)
    have u1 : m_X11_lookAt_l218 (n + 3) T 0 = m_X11_lookAt_l218 (n + 2) (sI T 10 17 (nI (10 * 0 + (b st - 48)))) 1 := by
      show m_X11_lookAt_h218 (m_X11_lookAt_l218 (n + 2)) T 0 = _
      unfold m_X11_lookAt_h218
      rw [e15, if_neg hl0, if_neg (by decide), e16, if_pos (by decide), e14, es, if_pos (inb_n (by omega) (by decide)), cl_n (by omega), a0, e17, d0, bT_v, bT_v]
      rfl
    rw [u1]
    generalize hS : sI T 10 17 (nI (10 * 0 + (b st - 48))) = S
    have s14 : S.2.1 10 14 = nI st := by rw [← hS, sI_v, if_neg (by omega)]; exact e14
    have s15 : S.2.1 10 15 = nI (en - st) := by rw [← hS, sI_v, if_neg (by omega)]; exact e15
    have s16 : S.2.1 10 16 = nI 2 := by rw [← hS, sI_v, if_neg (by omega)]; exact e16
    have s17 : S.2.1 10 17 = nI (10 * 0 + (b st - 48)) := by rw [← hS, sI_v, if_pos ⟨rfl, rfl⟩]
    have s1 : S.1 = T.1 := by rw [← hS]; rfl
    show ∃ T', m_X11_lookAt_h218 (m_X11_lookAt_l218 (n + 1)) S 1 = some T' ∧ _
    unfold m_X11_lookAt_h218
    rw [s15]
    by_cases c : en = st + 1
    · have c' : nI (en - st) ≤ 1 := nI_le (b := 1) (by omega) (by decide)
      rw [if_pos c']
      refine fin S s14 s15 s16 ?_
      unfold vl
      rw [s17, if_pos c]
      exact congrArg nI (by omega)
    · have c' : ¬ nI (en - st) ≤ 1 := nI_ge (a := 1) (by omega) (by omega)
      have a1 : S.1 10 8 (st + 1) = nI (b (st + 1)) := by rw [s1]; exact (h.2 (st + 1) (by omega)).2
      rw [if_neg c', if_neg (by decide), s16, if_pos (by decide), s14, nI_1, if_pos (inb_n (by omega) (by decide)), cl_n (by omega), a1, s17, dig (hd (st + 1) (by omega) (by omega)).1, bT_v, bT_v]
      generalize hR : sI S 10 17 (nI (10 * (10 * 0 + (b st - 48)) + (b (st + 1) - 48))) = R
      have r14 : R.2.1 10 14 = nI st := by rw [← hR, sI_v, if_neg (by omega)]; exact s14
      have r15 : R.2.1 10 15 = nI (en - st) := by rw [← hR, sI_v, if_neg (by omega)]; exact s15
      have r16 : R.2.1 10 16 = nI 2 := by rw [← hR, sI_v, if_neg (by omega)]; exact s16
      have r17 : R.2.1 10 17 = nI (vl b st en) := by
        rw [← hR, sI_v, if_pos ⟨rfl, rfl⟩]
        unfold vl
        rw [if_neg c]
        exact congrArg nI (by omega)
      show ∃ T', m_X11_lookAt_h218 (m_X11_lookAt_l218 n) R 2 = some T' ∧ _
      unfold m_X11_lookAt_h218
      rw [r15]
      by_cases c2 : nI (en - st) ≤ 2
      · rw [if_pos c2]
        exact fin R r14 r15 r16 r17
      · rw [if_neg c2, if_pos (by decide)]
        exact fin R r14 r15 r16 r17
  unfold m_X11_lookAt_b215
  exact key 999997
theorem look_v {T : TT} {b : Nat → Nat} {tl p : Nat} (h : TM T b tl) (ht : tl ≤ 64) (hp : p ≤ tl) : ∃ T', m_X11_lookAt T (nI p) = some T' ∧ MT T' b tl p := by
  obtain ⟨st, e⟩ : ∃ st, rn b tl 32 32 p = st := ⟨_, rfl⟩
  obtain ⟨q1, q2, -⟩ := rnb_le (b := b) (tl := tl) (lo := 32) (hi := 32) (tl - p) p (by omega)
  rw [e] at q1 q2
  obtain ⟨T1, z1, z2, z3⟩ := look_5 (b := b) ht (tl - p) p FU (sI T 10 14 (nI p)) (by omega) (FU_lt (by omega)) (h.sI (by omega)) (by rw [sI_v, if_pos ⟨rfl, rfl⟩])
  rw [e] at z3
  unfold m_X11_lookAt
  rw [bT_v, z1]
  unfold m_X11_lookAt_b43
  rw [bT_v, bT_v, bT_v]
  generalize hT7 : sI (sI (sI T1 10 15 0) 10 16 0) 10 17 0 = T7
  have x14 : T7.2.1 10 14 = nI st := by rw [← hT7, sI_v, if_neg (by omega), sI_v, if_neg (by omega), sI_v, if_neg (by omega)]; exact z3
  have x15 : T7.2.1 10 15 = 0 := by rw [← hT7, sI_v, if_neg (by omega), sI_v, if_neg (by omega), sI_v, if_pos ⟨rfl, rfl⟩]
  have x16 : T7.2.1 10 16 = 0 := by rw [← hT7, sI_v, if_neg (by omega), sI_v, if_pos ⟨rfl, rfl⟩]
  have x17 : T7.2.1 10 17 = 0 := by rw [← hT7, sI_v, if_pos ⟨rfl, rfl⟩]
  have hX : TM T7 b tl := by rw [← hT7]; exact ((z2.sI (by omega)).sI (by omega)).sI (by omega)
  rw [x14, hX.1]
  by_cases h0 : tl ≤ st
  · have e0 : st = tl := by omega
    rw [if_pos (by rw [e0])]
    refine ⟨_, rfl, ?_⟩
    unfold MT
    rw [tok_0 e h0]
    exact ⟨x14, by rw [x15, Nat.sub_self]; rfl, by rw [x16]; rfl, fun q => absurd (show (0 : Nat) = 2 from q) (by decide)⟩
  · have hlt : st < tl := by omega
    obtain ⟨hbs, a⟩ := hX.2 st hlt
    have hne : ¬ nI st = nI tl := fun z => absurd ((nI_eq (by omega) (by omega)).mp z) (by omega)
    rw [if_neg hne, if_pos (inb_n (by omega) (by decide)), cl_n (by omega), a, bT_v, smal_v hbs, Option.bind_some]
    have hb : ∀ k : Nat, ∃ S : TT, TM S b tl ∧ S.2.1 10 14 = nI st ∧ S.2.1 10 15 = nI 1 ∧ S.2.1 10 16 = nI k ∧ S.2.1 10 17 = 0 ∧ m_X11_lookAt_b114 T7 (nI k) = (if (3 : Int32) ≤ nI k then (m_X11_lookAt_b135 S (0 : Int32)) else (m_X11_lookAt_b135 S (1 : Int32))) := fun k => by
      refine ⟨sI (sI T7 10 16 (nI k)) 10 15 1, (hX.sI (by omega)).sI (by omega), by rw [sI_v, if_neg (by omega), sI_v, if_neg (by omega)]; exact x14, by rw [sI_v, if_pos ⟨rfl, rfl⟩]; rfl, by rw [sI_v, if_neg (by omega), sI_v, if_pos ⟨rfl, rfl⟩], by rw [sI_v, if_neg (by omega), sI_v, if_neg (by omega)]; exact x17, ?_⟩
      unfold m_X11_lookAt_b114
      rw [bT_v, bT_v, show (sI (sI T7 10 16 (nI k)) 10 15 1).2.1 10 16 = nI k by rw [sI_v, if_neg (by omega), sI_v, if_pos ⟨rfl, rfl⟩]]
    by_cases h1 : 97 ≤ b st ∧ b st ≤ 122
    · rw [if_pos h1, if_neg (by decide)]
      obtain ⟨S, s0, s14, s15, s16, s17, sb⟩ := hb 1
      obtain ⟨T2, w1, w2, w3, w4, w5, w6⟩ := look_136 (b := b) (st := st) (kd := 1) ht (Or.inl ⟨rfl, rfl, rfl⟩) (tl - (st + 1)) 1 FU S (by omega) (FU_lt (by omega)) s0 s14 s15 s16 s17
      have r4 : st < rn b tl 97 122 st := rn_lt hlt h1.1 h1.2
      obtain ⟨r1, r2, r3⟩ := rnb_le (b := b) (tl := tl) (lo := 97) (hi := 122) (tl - st) st (by omega)
      rw [← rn_s hlt h1.1 h1.2] at w4
      have hf : m_X11_lookAt_b114 T7 1 = some (sI T2 10 16 (nI 1)) := by
        rw [show m_X11_lookAt_b114 T7 1 = _ from sb, if_neg (by decide)]
        unfold m_X11_lookAt_b135
        rw [w1]
        exact b215_n (by omega) (by omega) w4 w5 (by decide) (by decide)
      refine ⟨_, hf, ?_⟩
      unfold MT
      rw [tok_1 e hlt h1]
      exact ⟨by rw [sI_v, if_neg (by omega)]; exact w3, by rw [sI_v, if_neg (by omega)]; exact w4, by rw [sI_v, if_pos ⟨rfl, rfl⟩], fun q => absurd (show (1 : Nat) = 2 from q) (by decide)⟩
    · rw [if_neg h1, if_pos rfl, figu_v hbs, Option.bind_some]
      by_cases h2 : 48 ≤ b st ∧ b st ≤ 57
      · rw [if_pos h2, if_neg (by decide)]
        obtain ⟨S, s0, s14, s15, s16, s17, sb⟩ := hb 2
        obtain ⟨T2, w1, w2, w3, w4, w5, w6⟩ := look_136 (b := b) (st := st) (kd := 2) ht (Or.inr ⟨rfl, rfl, rfl⟩) (tl - (st + 1)) 1 FU S (by omega) (FU_lt (by omega)) s0 s14 s15 s16 s17
        have r4 : st < rn b tl 48 57 st := rn_lt hlt h2.1 h2.2
        obtain ⟨r1, r2, r3⟩ := rnb_le (b := b) (tl := tl) (lo := 48) (hi := 57) (tl - st) st (by omega)
        rw [← rn_s hlt h2.1 h2.2] at w4
        obtain ⟨T3, f1, f2, f3, f4, f5⟩ := b215_2 w2 ht r4 r2 r3 w3 w4 w5 w6
        have hf : m_X11_lookAt_b114 T7 2 = some T3 := by
          rw [show m_X11_lookAt_b114 T7 2 = _ from sb, if_neg (by decide)]
          unfold m_X11_lookAt_b135
          rw [w1]
          exact f1
        refine ⟨_, hf, ?_⟩
        unfold MT
        rw [tok_2 e hlt h1 h2]
        exact ⟨f2, f3, f4, fun _ => f5⟩
      · rw [if_neg h2, if_pos rfl]
        have hg : ∀ k : Nat, k = 3 ∨ k = 4 → ∃ T', m_X11_lookAt_b114 T7 (nI k) = some T' ∧ T'.2.1 10 14 = nI st ∧ T'.2.1 10 15 = nI 1 ∧ T'.2.1 10 16 = nI k := fun k hk => by
          obtain ⟨S, s0, s14, s15, s16, s17, sb⟩ := hb k
          refine ⟨sI S 10 16 (nI k), ?_, by rw [sI_v, if_neg (by omega)]; exact s14, by rw [sI_v, if_neg (by omega)]; exact s15, by rw [sI_v, if_pos ⟨rfl, rfl⟩]⟩
          have h3 : (3 : Int32) ≤ nI k := nI_le (a := 3) (by omega) (by omega)
          rw [sb, if_pos h3]
          unfold m_X11_lookAt_b135
          show m_X11_lookAt_h136 (m_X11_lookAt_l136 999999) S 0 = _
          unfold m_X11_lookAt_h136
          rw [if_pos rfl]
          exact b215_n (by omega) (by omega) s15 s16 (by omega) (by omega)
        unfold MT
        rw [tok_3 e hlt h1 h2]
        have e1 : st + 1 - st = 1 := by omega
        by_cases h3 : b st = 59
        · have h3' : nI (b st) = 59 := by rw [h3]; rfl
          obtain ⟨T', f1, f2, f3, f4⟩ := hg 3 (Or.inl rfl)
          rw [if_pos h3']
          refine ⟨T', f1, f2, by show _ = nI (st + 1 - st); rw [e1]; exact f3, ?_, fun q => absurd (show (if b st = 59 then 3 else 4) = 2 from q) (by rw [if_pos h3]; decide)⟩
          show _ = nI (if b st = 59 then 3 else 4)
          rw [if_pos h3]
          exact f4
        · have h3' : ¬ nI (b st) = 59 := fun q => h3 ((nI_eq (b := 59) (by omega) (by decide)).mp q)
          obtain ⟨T', f1, f2, f3, f4⟩ := hg 4 (Or.inr rfl)
          rw [if_neg h3']
          refine ⟨T', f1, f2, by show _ = nI (st + 1 - st); rw [e1]; exact f3, ?_, fun q => absurd (show (if b st = 59 then 3 else 4) = 2 from q) (by rw [if_neg h3]; decide)⟩
          show _ = nI (if b st = 59 then 3 else 4)
          rw [if_neg h3]
          exact f4
theorem go_v {T : TT} {b : Nat → Nat} {tl p : Nat} (h : TM T b tl) (ht : tl ≤ 64) (hp : p ≤ tl) (hM : MT T b tl p) : ∃ T', m_X11_goBehind T = some T' ∧ MT T' b tl (tok b tl p).2.1 := by
  obtain ⟨k1, k2, k3, -⟩ := tok_le (b := b) hp
  obtain ⟨T', z1, z2⟩ := look_v h ht (p := (tok b tl p).2.1) k3
  refine ⟨T', ?_, z2⟩
  unfold m_X11_goBehind
  rw [hM.1, hM.2.1, ad_n, show (tok b tl p).1 + ((tok b tl p).2.1 - (tok b tl p).1) = (tok b tl p).2.1 by omega, z1]
  rfl
