/-! THE TEXT: its items, on the reference's side -/
theorem MT.fr {T T' : TT} {b : Nat → Nat} {tl p : Nat} (h : MT T b tl p) (h2 : ∀ k, 14 ≤ k → k ≤ 17 → T'.2.1 10 k = T.2.1 10 k) : MT T' b tl p := ⟨by rw [h2 14 (by decide) (by decide)]; exact h.1, by rw [h2 15 (by decide) (by decide)]; exact h.2.1, by rw [h2 16 (by decide) (by decide)]; exact h.2.2.1, fun q => by rw [h2 17 (by decide) (by decide)]; exact h.2.2.2 q⟩
theorem tk_no {T : TT} {b : Nat → Nat} {tl q lo hi : Nat} {x1 : Int32} (hq : q ≤ tl) (hM : MT T b tl q) (hlo : lo < 100) (hhi : hi < 100) (x : ¬ NB b tl q lo hi) : m_X11_takes T x1 (nI lo) (nI hi) = some (0, T) := by
  obtain ⟨k1, k2, k3, k4, k5, k6⟩ := tok_le (b := b) hq
  unfold m_X11_takes
  rw [hM.2.2.1]
  by_cases c : (tok b tl q).2.2.1 = 2
  · have c' : nI (tok b tl q).2.2.1 = 2 := by rw [c]; rfl
    have hb : nI (tok b tl q).2.2.2 < nI lo ∨ nI hi < nI (tok b tl q).2.2.2 := by
      by_cases c1 : (tok b tl q).2.2.2 < lo
      · exact Or.inl (nI_lt c1 (by omega))
      · exact Or.inr (nI_lt (by omega) (by omega))
    rw [if_pos c', hM.2.2.2 c, in_bad rfl rfl hb, Option.bind_some, if_pos rfl]
  · have c' : ¬ nI (tok b tl q).2.2.1 = 2 := fun z => c ((nI_eq (b := 2) (by omega) (by decide)).mp z)
    rw [if_neg c']
theorem tk_ok {T : TT} {b : Nat → Nat} {tl q lo hi i : Nat} (h : TM T b tl) (ht : tl ≤ 64) (hq : q ≤ tl) (hM : MT T b tl q) (hi2 : i < 2) (hlo : lo < 100) (hhi : hi < 100) (x : NB b tl q lo hi) : ∃ T', m_X11_takes T (nI i) (nI lo) (nI hi) = some (1, T') ∧ TM T' b tl ∧ MT T' b tl (tok b tl q).2.1 ∧ (∀ j, T'.1 10 10 j = if j = i then nI (tok b tl q).2.2.2 else T.1 10 10 j) ∧ T'.1 10 9 = T.1 10 9 := by
  obtain ⟨T', z1, z2⟩ := go_v (T := sA T 10 10 i (nI (tok b tl q).2.2.2)) (b := b) (tl := tl) (p := q) ⟨h.1, fun j hj => by rw [sA_v, if_neg (by omega)]; exact h.2 j hj⟩ ht hq hM
  have hF := fr_X11_goBehind z1
  have e8 : T'.1 10 8 = T.1 10 8 := by
    rw [hF.1 10 8 (fun z => z)]
    funext j
    rw [sA_v, if_neg (by omega)]
  refine ⟨T', ?_, h.fr e8 (by rw [hF.2.1 10 13 (by omega)]; rfl), z2, fun j => ?_, ?_⟩
  · unfold m_X11_takes
    have c' : nI (tok b tl q).2.2.1 = 2 := by rw [x.1]; rfl
    rw [hM.2.2.1, if_pos c', hM.2.2.2 x.1, in_ok rfl rfl (nI_rng x.2.1 x.2.2 (by omega)), Option.bind_some, if_neg (by decide), if_pos (inb_n hi2 (by decide)), cl_n (by omega), bT_v, z1]
    rfl
  · rw [hF.1 10 10 (fun z => z), sA_v]
    by_cases c : j = i
    · rw [if_pos ⟨rfl, rfl, c⟩, if_pos c]
    · rw [if_neg (fun z => c z.2.2), if_neg c]
  · rw [hF.1 10 9 (fun z => z)]
    funext j
    rw [sA_v, if_neg (by omega)]
/-- how the reference takes an item whose word ends at q -/
def IM (x : Option (Int32 × TT)) (b : Nat → Nat) (tl q lo1 hi1 hi2 : Nat) (P : TT → Prop) : Prop := ∃ (r : Int32) (S' : TT), x = some (r, S') ∧ TM S' b tl ∧ ((itm b tl q lo1 hi1 hi2).1 = 0 → (r = 0 ∨ (r = 1 ∧ ¬ S'.2.1 10 16 = 3)) ∧ S'.2.1 10 14 = nI (itm b tl q lo1 hi1 hi2).2.1) ∧ ((itm b tl q lo1 hi1 hi2).1 = 1 → r = 1 ∧ S'.2.1 10 16 = 3 ∧ (∃ q2, q2 ≤ tl ∧ MT S' b tl q2 ∧ (tok b tl q2).2.1 = (itm b tl q lo1 hi1 hi2).2.1) ∧ P S')
theorem tk2_v {S : TT} {b : Nat → Nat} {tl q lo1 hi1 hi2 : Nat} {P : TT → Prop} {fin : TT → Option (Int32 × TT)} (h : TM S b tl) (ht : tl ≤ 64) (hq : q ≤ tl) (hM : MT S b tl q) (hl1 : lo1 < 100) (hh1 : hi1 < 100) (hh2 : hi2 < 100)
    (hfin : ∀ S3, TM S3 b tl → S3.1 10 10 0 = nI (tok b tl q).2.2.2 → S3.1 10 10 1 = nI (tok b tl (tok b tl q).2.1).2.2.2 → S3.1 10 9 = S.1 10 9 → NB b tl q lo1 hi1 → NB b tl (tok b tl q).2.1 0 hi2 → ∃ S4, fin S3 = some (1, S4) ∧ TM S4 b tl ∧ (∀ k, 14 ≤ k → k ≤ 17 → S4.2.1 10 k = S3.2.1 10 k) ∧ ((itm b tl q lo1 hi1 hi2).2.2.1 = (tok b tl q).2.2.2 → (itm b tl q lo1 hi1 hi2).2.2.2 = (tok b tl (tok b tl q).2.1).2.2.2 → P S4)) :
    IM ((m_X11_takes S 0 (nI lo1) (nI hi1)).bind (fun z2 => if z2.1 = 0 then some (0, z2.2) else (m_X11_takes z2.2 1 0 (nI hi2)).bind (fun z3 => if z3.1 = 0 then some (0, z3.2) else fin z3.2))) b tl q lo1 hi1 hi2 P := by
  obtain ⟨a1, a2, a3, a4, a5, a6⟩ := tok_le (b := b) hq
  obtain ⟨b1, b2, b3, b4, b5, b6⟩ := tok_le (b := b) a3
  obtain ⟨c1, c2, c3, c4, c5, c6⟩ := tok_le (b := b) b3
  unfold IM
  by_cases x1 : NB b tl q lo1 hi1
  · obtain ⟨S1, z1, z2, z3, z4, z5⟩ := tk_ok (i := 0) h ht hq hM (by decide) hl1 hh1 x1
    rw [show m_X11_takes S 0 (nI lo1) (nI hi1) = _ from z1, Option.bind_some, if_neg i1n0]
    by_cases x2 : NB b tl (tok b tl q).2.1 0 hi2
    · obtain ⟨S2, w1, w2, w3, w4, w5⟩ := tk_ok (i := 1) z2 ht a3 z3 (by decide) (by decide) hh2 x2
      rw [show m_X11_takes S1 1 0 (nI hi2) = _ from w1, Option.bind_some, if_neg i1n0]
      obtain ⟨S4, f1, f2, f3, f4⟩ := hfin S2 w2 (by rw [w4, if_neg (by decide), z4, if_pos rfl]) (by rw [w4, if_pos rfl]) (by rw [w5, z5]) x1 x2
      have hM4 := w3.fr f3
      refine ⟨1, S4, f1, f2, ?_, ?_⟩
      · unfold itm
        rw [if_pos x1, if_pos x2]
        by_cases x3 : (tok b tl (tok b tl (tok b tl q).2.1).2.1).2.2.1 = 3
        · rw [if_pos x3]
          exact fun z => absurd z Nat.one_ne_zero
        · rw [if_neg x3]
          refine fun _ => ⟨Or.inr ⟨rfl, ?_⟩, hM4.1⟩
          rw [hM4.2.2.1]
          exact fun z => x3 ((nI_eq (b := 3) (by omega) (by decide)).mp z)
      · intro hone
        have x3 : (tok b tl (tok b tl (tok b tl q).2.1).2.1).2.2.1 = 3 := by
          unfold itm at hone
          rw [if_pos x1, if_pos x2] at hone
          by_cases x3 : (tok b tl (tok b tl (tok b tl q).2.1).2.1).2.2.1 = 3
          · exact x3
          · rw [if_neg x3] at hone
            exact absurd hone Nat.zero_ne_one
        have ei : itm b tl q lo1 hi1 hi2 = (1, (tok b tl (tok b tl (tok b tl q).2.1).2.1).2.1, (tok b tl q).2.2.2, (tok b tl (tok b tl q).2.1).2.2.2) := by
          unfold itm
          rw [if_pos x1, if_pos x2, if_pos x3]
        exact ⟨rfl, by rw [hM4.2.2.1, x3]; rfl, ⟨_, b3, hM4, by rw [ei]⟩, f4 (by rw [ei]) (by rw [ei])⟩
    · rw [show m_X11_takes S1 1 0 (nI hi2) = _ from tk_no (lo := 0) a3 z3 (by decide) hh2 x2, Option.bind_some, if_pos rfl]
      refine ⟨0, S1, rfl, z2, ?_, ?_⟩
      · unfold itm
        rw [if_pos x1, if_neg x2]
        exact fun _ => ⟨Or.inl rfl, z3.1⟩
      · unfold itm
        rw [if_pos x1, if_neg x2]
        exact fun z => absurd z Nat.zero_ne_one
  · rw [show m_X11_takes S 0 (nI lo1) (nI hi1) = _ from tk_no hq hM hl1 hh1 x1, Option.bind_some, if_pos rfl]
    refine ⟨0, S, rfl, h, ?_, ?_⟩
    · unfold itm
      rw [if_neg x1]
      exact fun _ => ⟨Or.inl rfl, hM.1⟩
    · unfold itm
      rw [if_neg x1]
      exact fun z => absurd z Nat.zero_ne_one
/-- the reference's rank that a text makes, with nothing noted -/
def M9 (T : TT) (af sz : Nat) (kv gv : Nat → Nat) (mv : Nat → Int32) (dy : Nat) : Prop := MS T af sz kv gv mv dy ∧ T.1 10 af 1 = 0 ∧ T.1 10 af 2 = 0 ∧ T.1 10 af 3 = 0
def adN (f : Nat → Nat) (sz v : Nat) : Nat → Nat := fun i => if i = sz then v else f i
def adI (f : Nat → Int32) (sz : Nat) : Nat → Int32 := fun i => if i = sz then 0 else f i
theorem M9.add {T : TT} {sz : Nat} {kv gv : Nat → Nat} {mv : Nat → Int32} {dy v1 v2 : Nat} (h : M9 T 9 sz kv gv mv dy) (hs : sz < 6) : ∃ T', m_X11_layDriver T 10 9 71 (nI v1) (nI v2) = some T' ∧ T'.2 = T.2 ∧ (∀ b, b ≠ 9 → T'.1 10 b = T.1 10 b) ∧ M9 T' 9 (sz + 1) (adN kv sz v1) (adN gv sz v2) (adI mv sz) dy := by
  have e := layD_v (T := T) (f := 9) (an := 71) (x := nI v1) (y := nI v2) h.1.1 hs (by decide) (by decide)
  have hF := fr_X11_layDriver e
  generalize hT' : sA (sA (sA (sA T 10 9 (17 + sz) (nI v1)) 10 9 (4 + sz) (nI v2)) 10 9 (10 + sz) 0) 10 9 0 (nI (sz + 1)) = T' at e hF
  have v : ∀ i, T'.1 10 9 i = if i = 0 then nI (sz + 1) else if i = 10 + sz then 0 else if i = 4 + sz then nI v2 else if i = 17 + sz then nI v1 else T.1 10 9 i := fun i => by
    rw [← hT', sA_v, sA_v, sA_v, sA_v]
    simp
  refine ⟨T', e, by rw [← hT']; rfl, fun b hb => hF.1 10 b (by omega), ⟨by rw [v, if_pos rfl], by rw [v, if_neg (by omega), if_neg (by omega), if_neg (by omega), if_neg (by omega)]; exact h.1.2.1, fun i hi => ?_⟩, ?_, ?_, ?_⟩
  · by_cases c : i = sz
    · subst c
      refine ⟨by rw [v, if_neg (by omega), if_neg (by omega), if_neg (by omega), if_pos rfl]; exact congrArg nI (if_pos rfl).symm, by rw [v, if_neg (by omega), if_neg (by omega), if_pos rfl]; exact congrArg nI (if_pos rfl).symm, by rw [v, if_neg (by omega), if_pos rfl]; exact (if_pos rfl).symm⟩
    · obtain ⟨q1, q2, q3⟩ := h.1.2.2 i (by omega)
      refine ⟨by rw [v, if_neg (by omega), if_neg (by omega), if_neg (by omega), if_neg (by omega), q1]; exact congrArg nI (if_neg c).symm, by rw [v, if_neg (by omega), if_neg (by omega), if_neg (by omega), if_neg (by omega), q2]; exact congrArg nI (if_neg c).symm, by rw [v, if_neg (by omega), if_neg (by omega), if_neg (by omega), if_neg (by omega), q3]; exact (if_neg c).symm⟩
  · rw [v, if_neg (by omega), if_neg (by omega), if_neg (by omega), if_neg (by omega)]; exact h.2.1
  · rw [v, if_neg (by omega), if_neg (by omega), if_neg (by omega), if_neg (by omega)]; exact h.2.2.1
  · rw [v, if_neg (by omega), if_neg (by omega), if_neg (by omega), if_neg (by omega)]; exact h.2.2.2
theorem pds_9 {sz M : Nat} (hs : sz ≤ 6) (kv ch : Nat → Nat) (x3 : Int32) (hch : Ch sz (-1) x3 ch) (hM : M < 1000) : ∀ (m d n : Nat) (T : TT) (gv : Nat → Nat) (mv : Nat → Int32) (dy : Nat), d + m = M → m < n → dy + m ≤ 9999 → (∀ i, i < sz → kv i < 6 ∧ gv i < 100) → M9 T 9 sz kv gv mv dy → T.1 10 10 0 = nI M → T.1 10 10 1 = x3 → ∃ T', m_X11_takesDays_l29 n T (nI d) = some (1, T') ∧ M9 T' 9 sz kv (dG kv ch m gv) (dM kv ch m gv mv dy) (dy + m) ∧ (∀ b, b ≠ 9 → T'.1 10 b = T.1 10 b) ∧ (∀ k, k ≠ 6 ∧ k ≠ 7 → T'.2.1 10 k = T.2.1 10 k) := by
  intro m
  induction m with
  | zero =>
    intro d n T gv mv dy hd hn hy hb hC e0 e1
    obtain ⟨n, rfl⟩ : ∃ q, n = q + 1 := ⟨n - 1, by omega⟩
    refine ⟨T, ?_, hC, fun _ _ => rfl, fun _ _ => rfl⟩
    show m_X11_takesDays_h29 _ _ _ = _
    unfold m_X11_takesDays_h29
    rw [e0, if_pos (nI_le (by omega) (by omega))]
  | succ m ih =>
    intro d n T gv mv dy hd hn hy hb hC e0 e1
    obtain ⟨n, rfl⟩ : ∃ q, n = q + 1 := ⟨n - 1, by omega⟩
    obtain ⟨T1, q1, q2, q3⟩ := pd_m1 (af := 9) (an := 71) (by decide) (by decide) hs (by omega) hch hb hC.1
    have hF := fr_X11_passDay q1
    obtain ⟨T2, z1, z2, z3, z4⟩ := ih (d + 1) n T1 (dGr kv ch gv) (fun i => mv i + dRu kv ch gv dy i) (dy + 1) (by omega) (by omega) (by omega) (fun i hi => ⟨(hb i hi).1, dGr_lt (hb i hi).1 (hch i hi).1 (hb i hi).2⟩) ⟨q2, by rw [q3 1 (by omega)]; exact hC.2.1, by rw [q3 2 (by omega)]; exact hC.2.2.1, by rw [q3 3 (by omega)]; exact hC.2.2.2⟩ (by rw [hF.1 10 10 (by omega)]; exact e0) (by rw [hF.1 10 10 (by omega)]; exact e1)
    refine ⟨T2, ?_, by rw [show dy + (m + 1) = dy + 1 + m by omega]; exact z2, fun b hb => by rw [z3 b hb, hF.1 10 b (by omega)], fun k hk => by rw [z4 k hk, hF.2.1 10 k (by omega)]⟩
    show m_X11_takesDays_h29 _ _ _ = _
    unfold m_X11_takesDays_h29
    have h9 : ¬ (9999 : Int32) ≤ nI dy := nI_ge (b := 9999) (by omega) (by decide)
    rw [e0, if_neg (nI_ge (by omega) (by omega)), hC.1.2.1, if_neg h9, e1, q1, Option.bind_some, bT_v, nI_1]
    exact z1
/-- an item of the reference, by its word -/
theorem im_d {S : TT} {b : Nat → Nat} {tl p sz dy : Nat} {kv gv : Nat → Nat} {mv : Nat → Int32} (h : TM S b tl) (ht : tl ≤ 64) (hp : p ≤ tl) (hM : MT S b tl p) (h9 : M9 S 9 sz kv gv mv dy) (hs : sz < 6) (hw : WP b tl p 1) : IM (m_X11_takesItem S) b tl (tok b tl p).2.1 0 5 99 (fun S' => M9 S' 9 (sz + 1) (adN kv sz (itm b tl (tok b tl p).2.1 0 5 99).2.2.1) (adN gv sz (itm b tl (tok b tl p).2.1 0 5 99).2.2.2) (adI mv sz) dy) := by
  obtain ⟨k1, k2, k3, k4, k5, k6⟩ := tok_le (b := b) hp
  obtain ⟨S1, z1, z2⟩ := go_v h ht hp hM
  have hF := fr_X11_goBehind z1
  have h1 : TM S1 b tl := h.fr (hF.1 10 8 (fun z => z)) (hF.2.1 10 13 (by omega))
  have hi := tk2_v (lo1 := 0) (hi1 := 5) (hi2 := 99) (P := fun S' => M9 S' 9 (sz + 1) (adN kv sz (itm b tl (tok b tl p).2.1 0 5 99).2.2.1) (adN gv sz (itm b tl (tok b tl p).2.1 0 5 99).2.2.2) (adI mv sz) dy) (fin := fun z => (m_X11_layDriver z 10 9 71 (z.1 10 10 0) (z.1 10 10 1)).bind (fun z4 => some ((1 : Int32), z4))) h1 ht k3 z2 (by decide) (by decide) (by decide) (fun S3 m1 m2 m3 m4 n1 n2 => by
    have h93 : M9 S3 9 sz kv gv mv dy := by
      have e : S3.1 10 9 = S.1 10 9 := by rw [m4, hF.1 10 9 (fun z => z)]
      unfold M9 MS
      rw [e]
      exact h9
    obtain ⟨S4, f1, f2, f3, f4⟩ := h93.add (v1 := (tok b tl (tok b tl p).2.1).2.2.2) (v2 := (tok b tl (tok b tl (tok b tl p).2.1).2.1).2.2.2) hs
    refine ⟨S4, ?_, m1.fr (f3 8 (by decide)) (by rw [f2]), fun k _ _ => by rw [f2], fun y1 y2 => by rw [y1, y2]; exact f4⟩
    show (m_X11_layDriver S3 10 9 71 (S3.1 10 10 0) (S3.1 10 10 1)).bind _ = _
    rw [m2, m3, f1]
    rfl)
  obtain ⟨r, S', y1, y2, y3, y4⟩ := hi
  refine ⟨r, S', ?_, y2, y3, y4⟩
  have hr : r = 0 ∨ r = 1 := by
    have hcase : (itm b tl (tok b tl p).2.1 0 5 99).1 = 0 ∨ (itm b tl (tok b tl p).2.1 0 5 99).1 = 1 := by
      unfold itm
      by_cases x1 : NB b tl (tok b tl p).2.1 0 5
      · rw [if_pos x1]
        by_cases x2 : NB b tl (tok b tl (tok b tl p).2.1).2.1 0 99
        · rw [if_pos x2]
          by_cases x3 : (tok b tl (tok b tl (tok b tl (tok b tl p).2.1).2.1).2.1).2.2.1 = 3
          · rw [if_pos x3]; exact Or.inr rfl
          · rw [if_neg x3]; exact Or.inl rfl
        · rw [if_neg x2]; exact Or.inl rfl
      · rw [if_neg x1]; exact Or.inl rfl
    rcases hcase with c | c
    · exact (y3 c).1.imp id (fun q => q.1)
    · exact Or.inr (y4 c).1
  unfold m_X11_takesItem
  rw [show m_X11_spells S 6 100 114 105 118 101 114 = some 1 from (sp_t h ht (w := 1) (by decide) hp hM).1 hw, Option.bind_some, if_neg (by decide)]
  have h6 : ¬ nI sz = 6 := fun z => absurd ((nI_eq (b := 6) (by omega) (by decide)).mp z) (by omega)
  have hd : m_X11_takesDriver S = some (r, S') := by
    unfold m_X11_takesDriver
    rw [h9.1.1, if_neg h6, z1, Option.bind_some]
    exact y1
  rw [hd, Option.bind_some, if_pos hr]
theorem im_y {S : TT} {b : Nat → Nat} {tl p sz dy : Nat} {kv gv : Nat → Nat} {mv : Nat → Int32} (h : TM S b tl) (ht : tl ≤ 64) (hp : p ≤ tl) (hM : MT S b tl p) (h9 : M9 S 9 sz kv gv mv dy) (hs : sz ≤ 6) (hd : dy ≤ 9000) (hb : ∀ i, i < sz → kv i < 6 ∧ gv i < 100) (hw1 : ¬ WP b tl p 1) (hw : WP b tl p 2) : IM (m_X11_takesItem S) b tl (tok b tl p).2.1 1 99 2 (fun S' => M9 S' 9 sz kv (dG kv (fun _ => (itm b tl (tok b tl p).2.1 1 99 2).2.2.2) (itm b tl (tok b tl p).2.1 1 99 2).2.2.1 gv) (dM kv (fun _ => (itm b tl (tok b tl p).2.1 1 99 2).2.2.2) (itm b tl (tok b tl p).2.1 1 99 2).2.2.1 gv mv dy) (dy + (itm b tl (tok b tl p).2.1 1 99 2).2.2.1)) := by
  obtain ⟨k1, k2, k3, k4, k5, k6⟩ := tok_le (b := b) hp
  obtain ⟨S1, z1, z2⟩ := go_v h ht hp hM
  have hF := fr_X11_goBehind z1
  have h1 : TM S1 b tl := h.fr (hF.1 10 8 (fun z => z)) (hF.2.1 10 13 (by omega))
  have hi := tk2_v (lo1 := 1) (hi1 := 99) (hi2 := 2) (P := fun S' => M9 S' 9 sz kv (dG kv (fun _ => (itm b tl (tok b tl p).2.1 1 99 2).2.2.2) (itm b tl (tok b tl p).2.1 1 99 2).2.2.1 gv) (dM kv (fun _ => (itm b tl (tok b tl p).2.1 1 99 2).2.2.2) (itm b tl (tok b tl p).2.1 1 99 2).2.2.1 gv mv dy) (dy + (itm b tl (tok b tl p).2.1 1 99 2).2.2.1)) (fin := fun z => m_X11_takesDays_l29 FU z 0) h1 ht k3 z2 (by decide) (by decide) (by decide) (fun S3 m1 m2 m3 m4 n1 n2 => by
    have h93 : M9 S3 9 sz kv gv mv dy := by
      have e : S3.1 10 9 = S.1 10 9 := by rw [m4, hF.1 10 9 (fun z => z)]
      unfold M9 MS
      rw [e]
      exact h9
    have g1 := n1.2.2
    have g2 := n2.2.2
    obtain ⟨S4, f1, f2, f3, f4⟩ := pds_9 (M := (tok b tl (tok b tl p).2.1).2.2.2) hs kv (fun _ => (tok b tl (tok b tl (tok b tl p).2.1).2.1).2.2.2) (nI (tok b tl (tok b tl (tok b tl p).2.1).2.1).2.2.2) (fun i hi => ⟨Nat.lt_succ_of_le g2, if_pos rfl⟩) (by omega) (tok b tl (tok b tl p).2.1).2.2.2 0 FU S3 gv mv dy (by omega) (FU_lt (by omega)) (by omega) hb h93 m2 m3
    exact ⟨S4, f1, m1.fr (f3 8 (by decide)) (f4 13 (by decide)), fun k q1 q2 => f4 k (by omega), fun y1 y2 => by rw [y1, y2]; exact f2⟩)
  obtain ⟨r, S', y1, y2, y3, y4⟩ := hi
  have hr : r = 0 ∨ r = 1 := by
    have hcase : (itm b tl (tok b tl p).2.1 1 99 2).1 = 0 ∨ (itm b tl (tok b tl p).2.1 1 99 2).1 = 1 := by
      unfold itm
      by_cases x1 : NB b tl (tok b tl p).2.1 1 99
      · rw [if_pos x1]
        by_cases x2 : NB b tl (tok b tl (tok b tl p).2.1).2.1 0 2
        · rw [if_pos x2]
          by_cases x3 : (tok b tl (tok b tl (tok b tl (tok b tl p).2.1).2.1).2.1).2.2.1 = 3
          · rw [if_pos x3]; exact Or.inr rfl
          · rw [if_neg x3]; exact Or.inl rfl
        · rw [if_neg x2]; exact Or.inl rfl
      · rw [if_neg x1]; exact Or.inl rfl
    rcases hcase with c | c
    · exact (y3 c).1.imp id (fun q => q.1)
    · exact Or.inr (y4 c).1
  refine ⟨r, S', ?_, y2, y3, y4⟩
  unfold m_X11_takesItem
  rw [show m_X11_spells S 6 100 114 105 118 101 114 = some 0 from (sp_t h ht (w := 1) (by decide) hp hM).2 hw1, Option.bind_some, if_pos rfl, show m_X11_spells S 4 100 97 121 115 0 0 = some 1 from (sp_t h ht (w := 2) (by decide) hp hM).1 hw, Option.bind_some, if_neg (by decide)]
  have hdd : m_X11_takesDays S = some (r, S') := by
    unfold m_X11_takesDays
    rw [z1, Option.bind_some]
    exact y1
  rw [hdd, Option.bind_some]
  rcases hr with c | c
  · subst c
    rw [if_pos rfl]
  · subst c
    rw [if_neg i1n0]
