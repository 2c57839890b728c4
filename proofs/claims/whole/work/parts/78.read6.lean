theorem rd_fault {n : Nat} {T T' S' : TT} {r : Int32} (hn : n < 64) (h : Inv n T) (e1 : m_X10_read T = some (r, T')) (f1 : ∀ f, T'.1 0 f = T.1 0 f) (f2 : ∀ f, T'.2.1 0 f = T.2.1 0 f) (e2 : m_X11_read T' = some (r, S')) (e3 : S'.1 10 1 = T'.1 10 1) : Op n (m_X10_read T) (fun T => m_X11_read T) := by
  have hF := fr_X10_read e1
  have hG := fr_X11_read e2
  refine Op.of e1 e2 (h.keep hn ⟨fun a b q => ?_, fun a b q => ?_, fun a b _ => ?_⟩)
  · unfold SCA at q
    have x1 : S'.1 a b = T'.1 a b := by
      by_cases c : a = 10 ∧ b = 1
      · rw [c.1, c.2]; exact e3
      · exact hG.1 a b (by omega)
    rw [x1]
    by_cases c : a = 0
    · rw [c]; exact f1 b
    · exact hF.1 a b (by omega)
  · unfold SCI at q
    rw [hG.2.1 a b (by omega)]
    by_cases c : a = 0
    · rw [c]; exact f2 b
    · exact hF.2.1 a b (by omega)
  · rw [hG.2.2 a b (fun z => z)]
    exact hF.2.2 a b (fun z => z)
theorem rd_good {n tl : Nat} {T T' S' : TT} {r : Int32} {sz dy : Nat} {kv gv : Nat → Nat} {mv : Nat → Int32} (hn : n < 64) (h : Inv n T) (htl : tl ≤ n) (e1 : m_X10_read T = some (r, T')) (e2 : m_X11_read T' = some (r, S')) (hs : sz ≤ 6) (hd : dy ≤ 99 * tl) (hC : C9 T' 0 sz kv gv mv dy) (hM : M9 S' 1 sz kv gv mv dy) : Op n (m_X10_read T) (fun T => m_X11_read T) := by
  have hF := fr_X10_read e1
  have hG := fr_X11_read e2
  have oA : ∀ a b, a ≠ 0 → a ≠ 1 → ¬ (a = 10 ∧ (b = 1 ∨ b = 9 ∨ b = 10)) → S'.1 a b = T.1 a b := fun a b q1 q2 q3 => by rw [hG.1 a b (by omega)]; exact hF.1 a b (by omega)
  have oI : ∀ a b, a ≠ 0 → a ≠ 1 → ¬ (a = 5 ∧ b ≠ 1) → ¬ (a = 10 ∧ b ≠ 13) → S'.2.1 a b = T.2.1 a b := fun a b q1 q2 q3 q4 => by rw [hG.2.1 a b (by omega)]; exact hF.2.1 a b (by omega)
  have oL : ∀ a b, S'.2.2.1 a b = T.2.2.1 a b := fun a b => by rw [hG.2.2 a b (fun z => z)]; exact hF.2.2 a b (fun z => z)
  have a0 : ∀ f, S'.1 0 f = T'.1 0 f := fun f => hG.1 0 f (by omega)
  have i0 : ∀ f, S'.2.1 0 f = T'.2.1 0 f := fun f => hG.2.1 0 f (by omega)
  refine Op.of e1 e2 ⟨hn, ⟨sz, 0, 0, 0, dy, ⟨hs, by omega, by omega, by omega, by omega⟩, ⟨by rw [i0]; exact hC.1.1, by rw [i0]; exact hC.1.2.1, by rw [i0]; exact hC.2.1, by rw [i0]; exact hC.2.2.1, by rw [i0]; exact hC.2.2.2⟩, ⟨hM.1.1, hM.1.2.1, hM.2.1, hM.2.2.1, hM.2.2.2⟩, fun i hi => ?_, ⟨fun j hj => absurd hj (by omega), fun m hm => absurd hm (by omega)⟩, ⟨fun j hj => absurd hj (by omega), fun m hm => absurd hm (by omega)⟩, fun u hu => absurd hu (by omega)⟩, h.img (fun f => oA 2 f (by omega) (by omega) (by omega)) (fun f => oA 3 f (by omega) (by omega) (by omega)) (fun k => oI 2 k (by omega) (by omega) (by omega) (by omega)) (fun k => oI 3 k (by omega) (by omega) (by omega) (by omega)) (oA 4 2 (by omega) (by omega) (by omega)) (oA 10 2 (by omega) (by omega) (by omega)) (oA 10 3 (by omega) (by omega) (by omega)), h.tx (oA 5 1 (by omega) (by omega) (by omega)) (oA 10 8 (by omega) (by omega) (by omega)) (oI 5 1 (by omega) (by omega) (by omega) (by omega)) (oI 10 13 (by omega) (by omega) (by omega) (by omega)), fun j hj => by rw [oA 4 4 (by omega) (by omega) (by omega), oA 10 4 (by omega) (by omega) (by omega)]; exact h.2.2.2.2.1 j hj, by rw [oL, oL]; exact h.2.2.2.2.2.1, by rw [oL, oL]; exact h.2.2.2.2.2.2⟩
  obtain ⟨c1, c2, c3, c4, c5⟩ := hC.1.2.2 i hi
  obtain ⟨d1, d2, d3⟩ := hM.1.2.2 i hi
  exact ⟨⟨kv i, c4, by rw [a0]; exact c1, d1⟩, ⟨gv i, c5, by rw [a0]; exact c2, d2⟩, by rw [a0, d3]; exact c3⟩
theorem op_read {n : Nat} {T : TT} (hn : n < 64) (h : Inv n T) : Op n (m_X10_read T) (fun T => m_X11_read T) := by
  obtain ⟨tl, t1, t2, t3, t4⟩ := h.2.2.2.1
  have ht : tl ≤ 64 := by omega
  obtain ⟨b, hb⟩ : ∃ b : Nat → Nat, b = fun j => (T.1 5 1 j).toNatClampNeg := ⟨_, rfl⟩
  have hbj : ∀ j, j < tl → b j < 128 ∧ T.1 5 1 j = nI (b j) ∧ T.1 10 8 j = nI (b j) := fun j hj => by
    obtain ⟨c, c1, c2, c3⟩ := t4 j hj
    have e : b j = c := by
      rw [hb]
      show (T.1 5 1 j).toNatClampNeg = c
      rw [c2, cl_n (by omega)]
    rw [e]
    exact ⟨c1, c2, c3⟩
  obtain ⟨T1, r1, r2, r3, r4, r5, r6, r7, r8, r9⟩ := reset_v T 1
  generalize hT2 : sI (sI T1 5 8 0) 5 3 0 = T2
  have hX2 : TX T2 b tl := by
    rw [← hT2]
    refine (TX.sI ?_ (by omega)).sI (by omega)
    exact ⟨by rw [r4 5 1 (by decide)]; exact t2, fun j hj => by rw [r2]; exact ⟨(hbj j hj).1, (hbj j hj).2.1⟩⟩
  have x8 : T2.2.1 5 8 = nI 0 := by rw [← hT2, sI_v, if_neg (by omega), sI_v, if_pos ⟨rfl, rfl⟩]; rfl
  have x3 : T2.2.1 5 3 = 0 := by rw [← hT2, sI_v, if_pos ⟨rfl, rfl⟩]
  have x0 : ∀ f, T2.2.1 0 f = T.2.1 0 f := fun f => by rw [← hT2, sI_v, if_neg (by omega), sI_v, if_neg (by omega)]; exact r4 0 f (by decide)
  have xA : ∀ a f, T2.1 a f = T.1 a f := fun a f => by rw [← hT2]; show T1.1 a f = _; rw [r2]
  have xX : ∀ f, T2.2.1 10 f = T.2.1 10 f := fun f => by rw [← hT2, sI_v, if_neg (by omega), sI_v, if_neg (by omega)]; exact r4 10 f (by decide)
  have xC : C9 T2 1 0 (fun _ => 0) (fun _ => 0) (fun _ => 0) 0 := by
    have y : ∀ f, T2.2.1 1 f = T1.2.1 1 f := fun f => by rw [← hT2, sI_v, if_neg (by omega), sI_v, if_neg (by omega)]
    exact ⟨⟨by rw [y]; exact r5, by rw [y]; exact r6, fun i hi => absurd hi (by omega)⟩, by rw [y]; exact r7, by rw [y]; exact r8, by rw [y]; exact r9⟩
  obtain ⟨T3, z1, z2⟩ := adv_v hX2 ht (Nat.zero_le tl) x8
  have zF := fr_X9_advance z1
  have hX3 : TX T3 b tl := hX2.fr (zF.1 5 1 (fun z => z)) (zF.2.1 5 1 (by omega))
  have y3 : T3.2.1 5 3 = 0 := by rw [zF.2.1 5 3 (by omega)]; exact x3
  obtain ⟨a1, a2, a3, a4, a5, a6⟩ := tok_le (b := b) (Nat.zero_le tl)
  obtain ⟨w1, w2⟩ := isW_t hX3 ht (w := 0) (by decide) (Nat.zero_le tl) z2
  have hTM : ∀ S : TT, S.1 10 8 = T.1 10 8 → S.2.1 10 13 = T.2.1 10 13 → TM S b tl := fun S q1 q2 => ⟨by rw [q2]; exact t3, fun j hj => by rw [q1]; exact ⟨(hbj j hj).1, (hbj j hj).2.2⟩⟩
  have hb0 : ∀ (S : TT) (f : Nat), S.2.1 5 3 = 0 → S.2.1 5 2 = nI f → m_X10_read_b22 S 0 = some (-10 - nI f, S) := fun S f q1 q2 => by
    unfold m_X10_read_b22
    show m_X10_read_h23 (m_X10_read_l23 999999) S 0 = _
    unfold m_X10_read_h23
    rw [if_pos (by decide)]
    exact b115_f q1 q2
  by_cases hw : WP b tl 0 0
  · obtain ⟨T4, v1, v2, v3, v4⟩ := ts_v hX3 ht a3 z2.2.1
    have vF := fr_X9_takesStop v1
    have u3 : T4.2.1 5 3 = 0 := by rw [v4 3 (by decide)]; exact y3
    have u0 : ∀ f, T4.2.1 0 f = T.2.1 0 f := fun f => by rw [vF.2.1 0 f (by omega), zF.2.1 0 f (by omega)]; exact x0 f
    have uA : ∀ a f, T4.1 a f = T.1 a f := fun a f => by rw [vF.1 a f (fun z => z), zF.1 a f (fun z => z)]; exact xA a f
    have uX : ∀ f, T4.2.1 10 f = T.2.1 10 f := fun f => by rw [vF.2.1 10 f (by omega), zF.2.1 10 f (by omega)]; exact xX f
    have uC : C9 T4 1 0 (fun _ => 0) (fun _ => 0) (fun _ => 0) 0 := xC.fr (fun f => by rw [uA, xA]) (fun f => by rw [vF.2.1 1 f (by omega), zF.2.1 1 f (by omega)])
    obtain ⟨b1, b2, b3, b4, b5, b6⟩ := tok_le (b := b) a3
    have hmod : ∀ S : TT, TM S b tl → ∃ S1 S2, m_X11_lookAt S 0 = some S1 ∧ m_X11_spells S1 4 114 97 110 107 0 0 = some 1 ∧ m_X11_goBehind S1 = some S2 ∧ TM S2 b tl ∧ MT S2 b tl (tok b tl 0).2.1 ∧ S2.1 = S.1 := fun S hS => by
      obtain ⟨S1, p1, p2⟩ := look_v hS ht (Nat.zero_le tl)
      have pF := fr_X11_lookAt p1
      have hS1 : TM S1 b tl := hS.fr (pF.1 10 8 (fun z => z)) (pF.2.1 10 13 (by omega))
      obtain ⟨S2, p3, p4⟩ := go_v hS1 ht (Nat.zero_le tl) p2
      have qF := fr_X11_goBehind p3
      exact ⟨S1, S2, p1, (sp_t hS1 ht (w := 0) (by decide) (Nat.zero_le tl) p2).1 hw, p3, hS1.fr (qF.1 10 8 (fun z => z)) (qF.2.1 10 13 (by omega)), p4, funext fun a => funext fun f => by rw [qF.1 a f (fun z => z), pF.1 a f (fun z => z)]⟩
    by_cases c3 : (tok b tl (tok b tl 0).2.1).2.2.1 = 3
    · rw [if_pos c3] at v1
      have hc : m_X10_read T = m_X10_read_l23 FU T4 (nI 1) := by
        unfold m_X10_read m_X9_takesRank
        rw [r1, Option.bind_some, bT_v, if_pos (Or.inl rfl), bT_v, hT2, z1, Option.bind_some, w1 hw, Option.bind_some, if_neg (by decide), v1, Option.bind_some, if_neg i1n0, Option.bind_some, if_neg i1n0]
        rfl
      have hpos : 1 ≤ (tok b tl (tok b tl 0).2.1).2.1 := by
        have := b5 (by omega)
        omega
      obtain ⟨r, T', e1, e2⟩ := rd_l (b := b) ht 65 (tl - (tok b tl (tok b tl 0).2.1).2.1) (tok b tl (tok b tl 0).2.1).2.1 1 FU T4 0 (fun _ => 0) (fun _ => 0) (fun _ => 0) 0 (by omega) b3 (by omega) (FU_lt (by omega)) (by omega) (by omega) hpos (by omega) v3 v2.2.1 uC
      have e1 := hc.trans e1
      have hF := fr_X10_read e1
      have fA : ∀ f, T'.1 10 f = T.1 10 f := fun f => hF.1 10 f (by omega)
      have fI : ∀ f, T'.2.1 10 f = T.2.1 10 f := fun f => hF.2.1 10 f (by omega)
      obtain ⟨S1, S2, p1, p2, p3, p4, p5, p6⟩ := hmod T' (hTM T' (fA 8) (fI 13))
      obtain ⟨S3, p7, p8⟩ := go_v p4 ht a3 p5
      have qF := fr_X11_goBehind p7
      have hbg := begin_v S3 10 9 71 (by decide) (by decide)
      generalize hS4 : sF S3 10 9 (zf (S3.1 10 9) 71) = S4 at hbg
      have s9 : ∀ i, i < 71 → S4.1 10 9 i = 0 := fun i hi => by
        rw [← hS4, sF_at]
        exact if_pos hi
      have so : ∀ f, f ≠ 9 → S4.1 10 f = S3.1 10 f := fun f hf => by rw [← hS4, sF_v, if_neg (fun z => hf z.2)]
      have s2 : S4.2 = S3.2 := by rw [← hS4]; rfl
      have hTM4 : TM S4 b tl := p4.fr (by rw [so 8 (by decide), qF.1 10 8 (fun z => z)]) (by rw [s2, qF.2.1 10 13 (by omega)])
      have hMT4 : MT S4 b tl (tok b tl (tok b tl 0).2.1).2.1 := p8.fr (fun k _ _ => by rw [s2])
      have hM94 : M9 S4 9 0 (fun _ => 0) (fun _ => 0) (fun _ => 0) 0 := ⟨⟨s9 0 (by decide), s9 16 (by decide), fun i hi => absurd hi (by omega)⟩, s9 1 (by decide), s9 2 (by decide), s9 3 (by decide)⟩
      have hm : m_X11_read T' = m_X11_read_l64 FU S4 (nI 1) := by
        unfold m_X11_read
        have c16 : nI (tok b tl (tok b tl 0).2.1).2.2.1 = 3 := by rw [c3]; rfl
        rw [p1, Option.bind_some, p2, Option.bind_some, if_neg (by decide), p3, Option.bind_some, p5.2.2.1, if_pos c16, p7, Option.bind_some, hbg, Option.bind_some]
        rfl
      have h1 : S4.1 10 1 = T'.1 10 1 := by rw [so 1 (by decide), qF.1 10 1 (fun z => z), p6]
      rcases e2 with ⟨sz', kv', gv', mv', dy', g1, g2, g3, g4⟩ | ⟨g1, g2, g3⟩
      · obtain ⟨S', k1, k2⟩ := g4 S4 FU (FU_lt (by omega)) hTM4 hMT4 hM94
        exact rd_good hn h t1 e1 (hm.trans k1) g1 g2 g3 k2
      · obtain ⟨S', k1, k2⟩ := g3 S4 FU (FU_lt (by omega)) hTM4 hMT4 hM94
        exact rd_fault hn h e1 (fun f => (g1 f).trans (uA 0 f)) (fun f => (g2 f).trans (u0 f)) (hm.trans k1) (k2.trans h1)
    · rw [if_neg c3] at v1
      have e1 : m_X10_read T = some (-10 - nI (tok b tl (tok b tl 0).2.1).1, T4) := by
        unfold m_X10_read m_X9_takesRank
        rw [r1, Option.bind_some, bT_v, if_pos (Or.inl rfl), bT_v, hT2, z1, Option.bind_some, w1 hw, Option.bind_some, if_neg (by decide), v1, Option.bind_some, if_pos rfl, Option.bind_some, if_pos rfl]
        exact hb0 T4 _ u3 v2.1
      obtain ⟨S1, S2, p1, p2, p3, p4, p5, p6⟩ := hmod T4 (hTM T4 (uA 10 8) (uX 13))
      refine rd_fault hn h e1 (uA 0) u0 (S' := S2) ?_ (by rw [p6])
      unfold m_X11_read
      have c16 : ¬ nI (tok b tl (tok b tl 0).2.1).2.2.1 = 3 := fun z => c3 ((nI_eq (b := 3) (by omega) (by decide)).mp z)
      rw [p1, Option.bind_some, p2, Option.bind_some, if_neg (by decide), p3, Option.bind_some, p5.2.2.1, if_neg c16, p5.1]
  · have e1 : m_X10_read T = some (-10 - nI (tok b tl 0).1, T3) := by
      unfold m_X10_read m_X9_takesRank
      rw [r1, Option.bind_some, bT_v, if_pos (Or.inl rfl), bT_v, hT2, z1, Option.bind_some, w2 hw, Option.bind_some, if_pos rfl, Option.bind_some, if_pos rfl]
      exact hb0 T3 _ y3 z2.1
    have uA : ∀ a f, T3.1 a f = T.1 a f := fun a f => by rw [zF.1 a f (fun z => z)]; exact xA a f
    have u0 : ∀ f, T3.2.1 0 f = T.2.1 0 f := fun f => by rw [zF.2.1 0 f (by omega)]; exact x0 f
    have uX : ∀ f, T3.2.1 10 f = T.2.1 10 f := fun f => by rw [zF.2.1 10 f (by omega)]; exact xX f
    have hS : TM T3 b tl := hTM T3 (uA 10 8) (uX 13)
    obtain ⟨S1, p1, p2⟩ := look_v hS ht (Nat.zero_le tl)
    have pF := fr_X11_lookAt p1
    have hS1 : TM S1 b tl := hS.fr (pF.1 10 8 (fun z => z)) (pF.2.1 10 13 (by omega))
    refine rd_fault hn h e1 (uA 0) u0 (S' := S1) ?_ (pF.1 10 1 (fun z => z))
    unfold m_X11_read
    rw [show m_X11_lookAt T3 0 = _ from p1, Option.bind_some, show m_X11_spells S1 4 114 97 110 107 0 0 = some 0 from (sp_t hS1 ht (w := 0) (by decide) (Nat.zero_le tl) p2).2 hw, Option.bind_some, if_pos rfl, p2.1]
