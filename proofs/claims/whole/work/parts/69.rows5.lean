theorem mi_l {i k dy a n b M : Nat} (hi : i < 6) (hk : k < 6) (ha : a < 100) (hdy : dy < 100000) (h0 : 0 < n) (hn : n ≤ 7) (hb : b < 3 ^ n) (hbM : mD k dy a (dg n b) n = M) (hle : ∀ x, mD k dy a (dg n x) n ≤ M) (hlt : ∀ x, x < b → mD k dy a (dg n x) n < M) : ∀ (q x f : Nat) (T : TT) (x3 : Int32), x + q = 3 ^ n → q < f → T.1 10 1 (17 + i) = nI k → T.1 10 1 16 = nI dy → T.1 10 1 (4 + i) = nI a → ((x ≤ b ∧ (x3 = -1 ∨ ∃ B, B < M ∧ x3 = nI B)) ∨ (b < x ∧ x3 = nI M ∧ T.2.1 10 8 = nI b)) → ∃ T3, m_X11_mostIn_l5 f T (nI i) (nI n) x3 (nI x) = some (nI M, T3) ∧ Fg T T3 ∧ T3.2.1 10 8 = nI b := by
  have hp := p3_le hn
  have hMl : M ≤ 199 * n := by rw [← hbM]; exact mD_le hk ha (fun j => dg_lt n b j) n
  intro q
  induction q with
  | zero =>
    intro x f T x3 hx hf e1 e2 e3 hI
    obtain ⟨f, rfl⟩ : ∃ q, f = q + 1 := ⟨f - 1, by omega⟩
    have hx : x = 3 ^ n := by omega
    rcases hI with ⟨hI, -⟩ | ⟨-, hI, h8⟩
    · omega
    · refine ⟨T, ?_, Fr.rf, h8⟩
      show m_X11_mostIn_h5 _ _ _ _ _ _ = _
      unfold m_X11_mostIn_h5
      rw [pt_v (by omega), Option.bind_some, if_pos (nI_le (by omega) (by omega)), hI]
  | succ q ih =>
    intro x f T x3 hx hf e1 e2 e3 hI
    obtain ⟨f, rfl⟩ : ∃ q, f = q + 1 := ⟨f - 1, by omega⟩
    obtain ⟨T', y1, y2, y3⟩ := ml_v (fr := 0) (tl := n) hi hk ha hdy hn (show x < 3 ^ n by omega) h0 (Nat.le_refl n) e1 e2 e3
    have es : mD k dy a (dg n x) n - mD k dy a (dg n x) 0 = mD k dy a (dg n x) n := Nat.sub_zero _
    rw [es] at y1
    have hS := hle x
    have hSb := hlt x
    have hSe : x = b → mD k dy a (dg n x) n = M := fun e => by rw [e]; exact hbM
    generalize mD k dy a (dg n x) n = S at y1 hS hSb hSe
    have y1 : m_X11_milesBy T (nI i) (nI n) (nI x) 0 (nI n) = some (nI S, T') := y1
    have ea := y2.a 10 1
    show ∃ T3, m_X11_mostIn_h5 _ _ _ _ _ _ = _ ∧ _
    unfold m_X11_mostIn_h5
    rw [pt_v (by omega), Option.bind_some, if_neg (nI_ge (by omega) (by omega)), y1, Option.bind_some]
    show ∃ T3, (if nI S ≤ x3 then m_X11_mostIn_b42 (m_X11_mostIn_l5 f) T' (nI i) (nI n) x3 (nI x) (nI S) (T'.2.1 10 8) else m_X11_mostIn_b42 (m_X11_mostIn_l5 f) T' (nI i) (nI n) x3 (nI x) (nI S) (nI x)) = _ ∧ _
    by_cases hc : nI S ≤ x3
    · rw [if_pos hc]
      unfold m_X11_mostIn_b42 m_X11_mostIn_b57
      rw [bT_v, if_pos hc, bT_v, nI_1]
      obtain ⟨T3, z1, z2, z3⟩ := ih (x + 1) f (sI T' 10 8 (T'.2.1 10 8)) x3 (by omega) (by omega) (by rw [sI_1, ea]; exact e1) (by rw [sI_1, ea]; exact e2) (by rw [sI_1, ea]; exact e3) (by
        rcases hI with ⟨h1, h2⟩ | ⟨h1, h2, h3⟩
        · refine Or.inl ⟨?_, h2⟩
          by_cases hxb : x = b
          · exfalso
            have hSM := hSe hxb
            rcases h2 with h2 | ⟨B, h2, h3⟩
            · have h5 := m1_lt (R := S) (by omega)
              rw [h2, i32le] at hc
              rw [i32lt] at h5
              omega
            · rw [h3] at hc
              exact nI_ge (by omega) (by omega) hc
          · omega
        · exact Or.inr ⟨by omega, h2, by rw [sI_v, if_pos ⟨rfl, rfl⟩, y3]; exact h3⟩)
      exact ⟨T3, z1, Fr.trans (y2.wI rfl ⟨rfl, by omega⟩) z2, z3⟩
    · rw [if_neg hc]
      unfold m_X11_mostIn_b42 m_X11_mostIn_b57
      rw [bT_v, if_neg hc, bT_v, nI_1]
      obtain ⟨T3, z1, z2, z3⟩ := ih (x + 1) f (sI T' 10 8 (nI x)) (nI S) (by omega) (by omega) (by rw [sI_1, ea]; exact e1) (by rw [sI_1, ea]; exact e2) (by rw [sI_1, ea]; exact e3) (by
        rcases hI with ⟨h1, h2⟩ | ⟨h1, h2, h3⟩
        · by_cases hxb : x = b
          · exact Or.inr ⟨by omega, by rw [hSe hxb], by rw [sI_v, if_pos ⟨rfl, rfl⟩, hxb]⟩
          · exact Or.inl ⟨by omega, Or.inr ⟨S, hSb (by omega), rfl⟩⟩
        · exact absurd (by rw [h2]; exact nI_le hS (by omega)) hc)
      exact ⟨T3, z1, Fr.trans (y2.wI rfl ⟨rfl, by omega⟩) z2, z3⟩
theorem mi_v {i k dy a n : Nat} (hi : i < 6) (hk : k < 6) (ha : a < 100) (hdy : dy < 100000) (h0 : 0 < n) (hn : n ≤ 7) {T : TT} (e1 : T.1 10 1 (17 + i) = nI k) (e2 : T.1 10 1 16 = nI dy) (e3 : T.1 10 1 (4 + i) = nI a) : ∃ T3, m_X11_mostIn T (nI i) (nI n) = some (nI (Af k dy n 0 a), T3) ∧ Fg T T3 ∧ T3.2.1 10 8 = nI (cd (dB k dy n a) n) := by
  obtain ⟨c1, c2, c3, c4⟩ := code_B (k := k) (dy := dy) (a := a) n
  have hp := p3_le hn
  exact mi_l hi hk ha hdy h0 hn c1 c2 c3 c4 (3 ^ n) 0 FU T (-1) (by omega) (FU_lt (by omega)) e1 e2 e3 (Or.inl ⟨Nat.zero_le _, Or.inl rfl⟩)
theorem op_most {n : Nat} {T : TT} (hn : n < 64) (h : Inv n T) (x y z : Int32) : Op n (m_X10_most T x y z) (fun T => m_X11_most T x y z) := by
  obtain ⟨sz, nc, tc, uc, dy, hR⟩ := h.t0
  have hsz := hR.1.1
  have hbad : ∀ (e1 : m_X10_most T x y z = some (-10, rfs T 0)) (e2 : m_X11_most (rfs T 0) x y z = some (-10, rfm (rfs T 0) 0)), Op n (m_X10_most T x y z) (fun T => m_X11_most T x y z) := fun e1 e2 => Op.of e1 e2 (h.refuse hn (by decide))
  have h0 : (rfs T 0).1 10 1 0 = nI sz := by rw [rfs_told]; exact hR.2.2.1.1
  rcases ixd x sz hsz with hb | ⟨i, hi, rfl⟩
  · refine hbad ?_ ?_
    · unfold m_X10_most
      rw [has_bad hR.2.1.1 hb]
      rfl
    · unfold m_X11_most
      rw [dr_bad h0 hsz hb]
      rfl
  rcases rng y 1 7 (by decide) (by decide) with hb | ⟨N, hN0, hN, rfl⟩
  · refine hbad ?_ ?_
    · unfold m_X10_most
      rw [has_ok hR.2.1.1 hsz hi, Option.bind_some, if_neg (by decide), show m_X10_within y 1 7 = some 0 from w_bad hb]
      rfl
    · unfold m_X11_most
      rw [dr_ok h0 hsz hi, Option.bind_some, if_neg (by decide), in_bad (lo := nI 1) (hi := nI 7) (by decide) (by decide) hb]
      rfl
  have wN : m_X10_within (nI N) 1 7 = some 1 := w_ok hN0 hN (by decide)
  have nN : m_X11_in (nI N).toInt64 1 7 = some 1 := in_ok (lo := nI 1) (hi := nI 7) (by decide) (by decide) (nI_rng hN0 hN (by decide))
  by_cases hz : ¬ (-1 : Int32) ≤ z
  · refine hbad ?_ ?_
    · unfold m_X10_most
      rw [has_ok hR.2.1.1 hsz hi, Option.bind_some, if_neg (by decide), wN, Option.bind_some, if_neg (by decide), if_neg hz]
      rfl
    · unfold m_X11_most
      rw [dr_ok h0 hsz hi, Option.bind_some, if_neg (by decide), nN, Option.bind_some, if_neg (by decide), if_neg hz]
      rfl
  have hz : (-1 : Int32) ≤ z := Decidable.not_not.mp hz
  obtain ⟨⟨k, hk, k1, k2⟩, ⟨g, hg, g1, g2⟩, m1⟩ := hR.2.2.2.1 i hi
  have hdy : dy < 100000 := by have := hR.1.2.2.2.2; have := h.1; omega
  have hdy2 := hR.2.2.1.2.1
  obtain ⟨T1, r1, r2, rC, rB, rA⟩ := reckon_v hR.2.1.1 hsz hi hR.2.1.2.1 hdy hk hg k1 g1 hN
  have ea : T1.1 10 1 = T.1 10 1 := r2.1 10 1 (by simp [SCA])
  have fin : ∀ {T' : TT} {r : Int32} (hS : Sc T T'), m_X10_most T (nI i) (nI N) z = some (r, T') → (∀ T3, Fg T' T3 → m_X11_mostIn T' (nI i) (nI N) = some (nI (Af k dy N 0 g), T3) → T3.2.1 10 8 = nI (cd (dB k dy N g) N) → m_X11_most T' (nI i) (nI N) z = some (r, T3)) → Op n (m_X10_most T (nI i) (nI N) z) (fun T => m_X11_most T (nI i) (nI N) z) := fun {T' r} hS q1 q2 => by
    have ea : T'.1 10 1 = T.1 10 1 := hS.1 10 1 (by simp [SCA])
    obtain ⟨T3, z1, z2, z3⟩ := mi_v (show i < 6 by omega) hk hg hdy hN0 hN (T := T') (by rw [ea]; exact k2) (by rw [ea]; exact hdy2) (by rw [ea]; exact g2)
    exact Op.of q1 (q2 T3 z2 z1 z3) (h.keep hn (hS.trans z2.sc))
  have hh : ∀ T' : TT, Sc T T' → T'.1 10 1 0 = nI sz := fun T' hS => by rw [hS.1 10 1 (by simp [SCA])]; exact hR.2.2.1.1
  by_cases hm : z = -1
  · subst hm
    refine fin r2 (r := nI (Af k dy N 0 g)) ?_ (fun T3 hF q1 q2 => ?_)
    · unfold m_X10_most
      rw [has_ok hR.2.1.1 hsz hi, Option.bind_some, if_neg (by decide), wN, Option.bind_some, if_neg (by decide), if_pos hz, if_pos (m1_lt (by omega)), r1, Option.bind_some, if_pos rfl]
      have q : m_X5_mostMiles T1 = some (nI (Af k dy N 0 g)) := by
        unfold m_X5_mostMiles
        rw [if_pos (show inb 0 8 from inb_n (n := 0) (by decide) (by decide)), rC.2.1, if_pos (inb_n (by omega) (by decide)), cl_n (by omega), c0n, rA.at (Nat.zero_le N) hg ⟨0, rfl, rfl⟩, Nat.sub_zero]
      rw [q]
      rfl
    · unfold m_X11_most
      rw [dr_ok (hh T1 r2) hsz hi, Option.bind_some, if_neg (by decide), nN, Option.bind_some, if_neg (by decide), if_pos hz, q1, Option.bind_some, if_pos rfl]
  rcases pk_ix z (n := N) (by omega) with hz1 | hz1 | ⟨K, hK, rfl⟩
  · exfalso
    apply hm
    rw [i32le] at hz
    rw [i32lt] at hz1
    have e1 : (-1 : Int32).toInt = -1 := by decide
    have e0 : (0 : Int32).toInt = 0 := by decide
    apply Int32.toInt_inj.mp
    omega
  · have hnl : ¬ z < nI N := by
      rw [i32le] at hz1
      rw [i32lt]
      omega
    refine fin (T' := T) Fr.rf (r := -5) ?_ (fun T3 hF q1 q2 => ?_)
    · unfold m_X10_most
      rw [has_ok hR.2.1.1 hsz hi, Option.bind_some, if_neg (by decide), wN, Option.bind_some, if_neg (by decide), if_pos hz, if_neg hnl]
    · unfold m_X11_most
      rw [dr_ok (hh T Fr.rf) hsz hi, Option.bind_some, if_neg (by decide), nN, Option.bind_some, if_neg (by decide), if_pos hz, q1, Option.bind_some, if_neg hm, if_neg hnl]
  · have hlt : nI K < nI N := nI_lt hK (by omega)
    have hq0 := p3_pos (N - 1 - K)
    have hq1 := p3_le (m := N - 1 - K) (by omega)
    have hp := p3_le hN
    have hcl := (code_B (k := k) (dy := dy) (a := g) N).1
    refine fin r2 (r := nI (dB k dy N g K)) ?_ (fun T3 hF q1 q2 => ?_)
    · unfold m_X10_most
      rw [has_ok hR.2.1.1 hsz hi, Option.bind_some, if_neg (by decide), wN, Option.bind_some, if_neg (by decide), if_pos hz, if_pos hlt, r1, Option.bind_some, if_neg hm, co_v hk hg hN hK hdy rC rA, Option.bind_some]
    · unfold m_X11_most
      rw [dr_ok (hh T1 r2) hsz hi, Option.bind_some, if_neg (by decide), nN, Option.bind_some, if_neg (by decide), if_pos hz, q1, Option.bind_some, if_neg hm, if_pos hlt, show nI N - 1 = nI (N - 1) from pk_sub (b := 1) (by omega), pk_sub (show K ≤ N - 1 by omega), pt_v (by omega), Option.bind_some, if_neg (nI_ne0 (by omega) (by omega)), q2, pk_div (by omega) hq0 (by omega), show nI (cd (dB k dy N g) N / 3 ^ (N - 1 - K)) - nI (cd (dB k dy N g) N / 3 ^ (N - 1 - K)) / 3 * 3 = nI (dg N (cd (dB k dy N g) N) K) from pk_rem (d := 3) (Nat.lt_of_le_of_lt (Nat.div_le_self _ _) (by omega)) (by decide) (by decide), cd_dg (dB_lt k dy N g) N K hK]
/-! soonest -/
def sn (k dy a X : Nat) : Nat → Nat → Int32
  | 0, _ => -1
  | q + 1, t => if X ≤ Af k dy t 0 a then nI t else sn k dy a X q (t + 1)
theorem fd_g {k dy a X t : Nat} (hk : k < 6) (ha : a < 100) (hX0 : 0 < X) (hX : X < 1000) (ht : t ≤ 7) {T : TT} (hB : ∀ x, x < 100 → Sp (PP k dy t 0 a x) (T.1 8 (t + 1) x)) (rec2 : Int32 → Int32 → Option Int32) : ∀ (q g f : Nat), g + q = 100 → q < f → (∀ g', g' < g → T.1 8 (t + 1) g' < nI X) → m_X5_fewestDaysFor_l12 T rec2 f (nI X) (nI t) (nI g) = if X ≤ Af k dy t 0 a then some (nI t) else rec2 (nI X) (nI (t + 1)) := by
  intro q
  induction q with
  | zero =>
    intro g f hg hf hS
    obtain ⟨f, rfl⟩ : ∃ q, f = q + 1 := ⟨f - 1, by omega⟩
    have hg : g = 100 := by omega
    subst hg
    show m_X5_fewestDaysFor_h12 _ _ _ _ _ _ = _
    unfold m_X5_fewestDaysFor_h12
    rw [if_pos (by decide), bT_v, nI_1, if_neg]
    intro hXA
    obtain ⟨g, hP⟩ := PP_at k dy a t
    have hgl := (PP_le hk t 0 a g _ ha hP).2
    have h1 := hS g hgl
    rcases hB g hgl with ⟨-, e⟩ | ⟨B, e, hB1, hB2⟩
    · exact e _ hP
    · have h2 := hB2 _ hP
      have h3 := (PP_le hk t 0 a g B ha hB1).1
      rw [e] at h1
      exact nI_nlt (by omega) (by omega) h1
  | succ q ih =>
    intro g f hg hf hS
    obtain ⟨f, rfl⟩ : ∃ q, f = q + 1 := ⟨f - 1, by omega⟩
    have h100 : ¬ (100 : Int32) ≤ nI g := nI_ge (b := 100) (by omega) (by decide)
    show m_X5_fewestDaysFor_h12 _ _ _ _ _ _ = _
    unfold m_X5_fewestDaysFor_h12
    rw [if_neg h100, if_pos (inb_n (by omega) (by decide)), if_pos (inb_n (by omega) (by decide)), cl_n (by omega), cl_n (by omega)]
    by_cases hc : T.1 8 (t + 1) g < nI X
    · rw [if_pos hc, bT_v, nI_1]
      refine ih (g + 1) f (by omega) (by omega) (fun g' hg' => ?_)
      by_cases e : g' = g
      · subst e; exact hc
      · exact hS g' (by omega)
    · rw [if_neg hc, if_pos]
      rcases hB g (by omega) with ⟨e, -⟩ | ⟨B, e, hB1, hB2⟩
      · exact absurd (by rw [e]; exact m1_lt (by omega)) hc
      · have h2 := PP_up hB1
        have h3 := (PP_le hk t 0 a g B ha hB1).1
        rw [e] at hc
        have : ¬ B < X := fun hl => hc (nI_lt hl (by omega))
        omega
theorem fd_t {k dy a X : Nat} (hk : k < 6) (ha : a < 100) (hX0 : 0 < X) (hX : X < 1000) {T : TT} (hC : RC T k dy a 7) (hB : ∀ t', t' ≤ 7 → ∀ x, x < 100 → Sp (PP k dy t' 0 a x) (T.1 8 (t' + 1) x)) : ∀ (q t f : Nat), t + q = 8 → q < f → m_X5_fewestDaysFor_l2 T f (nI X) (nI t) = some (sn k dy a X q t) := by
  intro q
  induction q with
  | zero =>
    intro t f ht hf
    obtain ⟨f, rfl⟩ : ∃ q, f = q + 1 := ⟨f - 1, by omega⟩
    show m_X5_fewestDaysFor_h2 _ _ _ _ = _
    unfold m_X5_fewestDaysFor_h2
    rw [hC.2.2.1, if_pos (nI_lt (by omega) (by omega))]
    rfl
  | succ q ih =>
    intro t f ht hf
    obtain ⟨f, rfl⟩ : ∃ q, f = q + 1 := ⟨f - 1, by omega⟩
    show m_X5_fewestDaysFor_h2 _ _ _ _ = _
    unfold m_X5_fewestDaysFor_h2
    rw [hC.2.2.1, if_neg (nI_nlt (by omega) (by omega)), show (0 : Int32) = nI 0 from rfl, fd_g hk ha hX0 hX (by omega) (hB t (by omega)) _ 100 0 FU (by omega) (FU_lt (by omega)) (fun g' hg' => absurd hg' (by omega))]
    show _ = some (if X ≤ Af k dy t 0 a then nI t else sn k dy a X q (t + 1))
    by_cases hc : X ≤ Af k dy t 0 a
    · rw [if_pos hc, if_pos hc]
    · rw [if_neg hc, if_neg hc]
      exact ih (t + 1) f (by omega) (by omega)
theorem sn_m {i k dy a X : Nat} (hi : i < 6) (hk : k < 6) (ha : a < 100) (hdy : dy < 100000) (hX : X < 1000) : ∀ (q t f : Nat) (T : TT), t + q = 8 → 0 < t → q < f → T.1 10 1 (17 + i) = nI k → T.1 10 1 16 = nI dy → T.1 10 1 (4 + i) = nI a → ∃ T3, m_X11_soonest_l29 f T (nI i) (nI X) (nI t) = some (sn k dy a X q t, T3) ∧ Fg T T3 := by
  intro q
  induction q with
  | zero =>
    intro t f T ht h0 hf e1 e2 e3
    obtain ⟨f, rfl⟩ : ∃ q, f = q + 1 := ⟨f - 1, by omega⟩
    refine ⟨T, ?_, Fr.rf⟩
    have : t = 8 := by omega
    subst this
    show m_X11_soonest_h29 _ _ _ _ _ = _
    unfold m_X11_soonest_h29
    rw [if_pos (by decide)]
    rfl
  | succ q ih =>
    intro t f T ht h0 hf e1 e2 e3
    obtain ⟨f, rfl⟩ : ∃ q, f = q + 1 := ⟨f - 1, by omega⟩
    obtain ⟨T', y1, y2, -⟩ := mi_v hi hk ha hdy h0 (show t ≤ 7 by omega) e1 e2 e3
    have ea := y2.a 10 1
    have hl := Af_le (dy := dy) hk t 0 a ha
    have h8 : ¬ (8 : Int32) ≤ nI t := nI_ge (b := 8) (by omega) (by decide)
    show ∃ T3, m_X11_soonest_h29 _ _ _ _ _ = some (if X ≤ Af k dy t 0 a then nI t else sn k dy a X q (t + 1), T3) ∧ _
    unfold m_X11_soonest_h29
    rw [if_neg h8, y1, Option.bind_some]
    by_cases hc : X ≤ Af k dy t 0 a
    · refine ⟨T', ?_, y2⟩
      rw [if_pos hc, if_neg (nI_nlt hc (by omega))]
    · obtain ⟨T3, z1, z2⟩ := ih (t + 1) f T' (by omega) (by omega) (by omega) (by rw [ea]; exact e1) (by rw [ea]; exact e2) (by rw [ea]; exact e3)
      refine ⟨T3, ?_, y2.trans z2⟩
      rw [if_neg hc, if_pos (nI_lt (by omega) (by omega)), bT_v, nI_1]
      exact z1
theorem op_soonest {n : Nat} {T : TT} (hn : n < 64) (h : Inv n T) (x y : Int32) : Op n (m_X10_soonest T x y) (fun T => m_X11_soonest T x y) := by
  obtain ⟨sz, nc, tc, uc, dy, hR⟩ := h.t0
  have hsz := hR.1.1
  have hbad : ∀ (e1 : m_X10_soonest T x y = some (-2, rfs T 0)) (e2 : m_X11_soonest (rfs T 0) x y = some (-2, rfm (rfs T 0) 0)), Op n (m_X10_soonest T x y) (fun T => m_X11_soonest T x y) := fun e1 e2 => Op.of e1 e2 (h.refuse hn (by decide))
  have h0 : (rfs T 0).1 10 1 0 = nI sz := by rw [rfs_told]; exact hR.2.2.1.1
  rcases ixd x sz hsz with hb | ⟨i, hi, rfl⟩
  · refine hbad ?_ ?_
    · unfold m_X10_soonest
      rw [has_bad hR.2.1.1 hb]
      rfl
    · unfold m_X11_soonest
      rw [dr_bad h0 hsz hb]
      rfl
  rcases rng y 1 999 (by decide) (by decide) with hb | ⟨X, hX0, hX, rfl⟩
  · refine hbad ?_ ?_
    · unfold m_X10_soonest
      rw [has_ok hR.2.1.1 hsz hi, Option.bind_some, if_neg (by decide), show m_X10_within y 1 999 = some 0 from w_bad hb]
      rfl
    · unfold m_X11_soonest
      rw [dr_ok h0 hsz hi, Option.bind_some, if_neg (by decide), in_bad (lo := nI 1) (hi := nI 999) (by decide) (by decide) hb]
      rfl
  obtain ⟨⟨k, hk, k1, k2⟩, ⟨g, hg, g1, g2⟩, m1⟩ := hR.2.2.2.1 i hi
  have hdy : dy < 100000 := by have := hR.1.2.2.2.2; have := h.1; omega
  obtain ⟨T1, r1, r2, rC, rB, rA⟩ := reckon_v hR.2.1.1 hsz hi hR.2.1.2.1 hdy hk hg k1 g1 (Nat.le_refl 7)
  have ea : T1.1 10 1 = T.1 10 1 := r2.1 10 1 (by simp [SCA])
  obtain ⟨T3, z1, z2⟩ := sn_m (show i < 6 by omega) hk hg hdy (show X < 1000 by omega) 7 1 FU T1 (by decide) (by decide) (FU_lt (by decide)) (by rw [ea]; exact k2) (by rw [ea]; exact hR.2.2.1.2.1) (by rw [ea]; exact g2)
  refine Op.of (r := sn k dy g X 7 1) (T1 := T1) (T2 := T3) ?_ ?_ (h.keep hn (r2.trans z2.sc))
  · unfold m_X10_soonest
    rw [has_ok hR.2.1.1 hsz hi, Option.bind_some, if_neg (by decide), show m_X10_within (nI X) 1 999 = some 1 from w_ok hX0 hX (by decide), Option.bind_some, if_neg (by decide), show m_X5_reckon T 0 (nI i) 7 = some T1 from r1, Option.bind_some]
    have q : m_X5_fewestDaysFor T1 (nI X) = some (sn k dy g X 7 1) := fd_t hk hg hX0 (by omega) rC rB 7 1 FU (by decide) (FU_lt (by decide))
    rw [q]
    rfl
  · show m_X11_soonest _ _ _ = _
    unfold m_X11_soonest
    rw [dr_ok (by rw [ea]; exact hR.2.2.1.1) hsz hi, Option.bind_some, if_neg (by decide), in_ok (lo := nI 1) (hi := nI 999) (by decide) (by decide) (nI_rng hX0 hX (by decide)), Option.bind_some, if_neg (by decide)]
    exact z1
