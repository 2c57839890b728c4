/-! ROWS OF CHOICES -/
def gn (k dy t c g : Nat) : Nat := if c = 0 then rF k ((dy + t) / 20 % 4) g else 0
def Af (k dy : Nat) : Nat → Nat → Nat → Nat
  | 0, _, _ => 0
  | r + 1, t, g => mxF (fun c => gn k dy t c g + Af k dy r (t + 1) (lF k c g)) 3
def PP (k dy : Nat) : Nat → Nat → Nat → Nat → Nat → Prop
  | 0, _, a, g, m => g = a ∧ m = 0
  | q + 1, t0, a, g, m => ∃ c m', c < 3 ∧ PP k dy q (t0 + 1) (lF k c a) g m' ∧ m = gn k dy t0 c a + m'
theorem gn_le {k dy t c g : Nat} (hk : k < 6) (hg : g < 100) : gn k dy t c g ≤ 199 := by
  unfold gn
  by_cases h : c = 0
  · rw [if_pos h]
    have := rF_lt k hk ((dy + t) / 20 % 4) (Nat.mod_lt _ (by decide)) g hg
    omega
  · rw [if_neg h]
    exact Nat.zero_le _
theorem PP_le {k dy : Nat} (hk : k < 6) : ∀ (q t0 a g m : Nat), a < 100 → PP k dy q t0 a g m → m ≤ 199 * q ∧ g < 100
  | 0, _, a, g, m, ha, h => by
    obtain ⟨h1, h2⟩ := h
    omega
  | q + 1, t0, a, g, m, ha, h => by
    obtain ⟨c, m', hc, h1, h2⟩ := h
    obtain ⟨h3, h4⟩ := PP_le hk q (t0 + 1) _ g m' (lF_lt k hk c hc a ha) h1
    have := gn_le (k := k) (dy := dy) (t := t0) (c := c) hk ha
    omega
theorem PP_snoc {k dy c : Nat} (hc : c < 3) : ∀ (q t0 a g m : Nat), PP k dy q t0 a g m → PP k dy (q + 1) t0 a (lF k c g) (m + gn k dy (t0 + q) c g)
  | 0, t0, a, g, m, h => by
    obtain ⟨rfl, rfl⟩ := h
    exact ⟨c, 0, hc, ⟨rfl, rfl⟩, by rw [Nat.zero_add, Nat.add_zero, Nat.add_zero]⟩
  | q + 1, t0, a, g, m, h => by
    obtain ⟨c', m', hc', h1, h2⟩ := h
    refine ⟨c', m' + gn k dy (t0 + 1 + q) c g, hc', PP_snoc hc q (t0 + 1) _ g m' h1, ?_⟩
    rw [h2, show t0 + 1 + q = t0 + (q + 1) by omega, Nat.add_assoc]
theorem PP_un {k dy : Nat} : ∀ (q t0 a g m : Nat), PP k dy (q + 1) t0 a g m → ∃ g' m' c, c < 3 ∧ PP k dy q t0 a g' m' ∧ g = lF k c g' ∧ m = m' + gn k dy (t0 + q) c g'
  | 0, t0, a, g, m, h => by
    obtain ⟨c, m', hc, ⟨h1, h2⟩, h3⟩ := h
    exact ⟨a, 0, c, hc, ⟨rfl, rfl⟩, h1, by rw [h3, h2, Nat.add_zero, Nat.zero_add, Nat.add_zero]⟩
  | q + 1, t0, a, g, m, h => by
    obtain ⟨c, m', hc, h1, h2⟩ := h
    obtain ⟨g', m'', c', hc', h3, h4, h5⟩ := PP_un q (t0 + 1) _ g m' h1
    refine ⟨g', gn k dy t0 c a + m'', c', hc', ⟨c, m'', hc, h3, rfl⟩, h4, ?_⟩
    rw [h2, h5, show t0 + 1 + q = t0 + (q + 1) by omega, Nat.add_assoc]
/-- the most of what may be; none: -1 -/
def Sp (p : Nat → Prop) (b : Int32) : Prop := (b = -1 ∧ ∀ m, ¬ p m) ∨ ∃ B, b = nI B ∧ p B ∧ ∀ m, p m → m ≤ B
theorem Sp.congr {p q : Nat → Prop} {b : Int32} (h : Sp p b) (e : ∀ m, p m ↔ q m) : Sp q b := by
  rcases h with ⟨h1, h2⟩ | ⟨B, h1, h2, h3⟩
  · exact Or.inl ⟨h1, fun m hm => h2 m ((e m).mpr hm)⟩
  · exact Or.inr ⟨B, h1, (e B).mp h2, fun m hm => h3 m ((e m).mpr hm)⟩
theorem m1_lt {R : Nat} (h : R < 2 ^ 31) : (-1 : Int32) < nI R := by
  rw [i32lt, nI_toInt h, show (-1 : Int32).toInt = -1 by decide]
  omega
theorem m1_ne {R : Nat} (h : R < 2 ^ 31) : ¬ nI R = -1 := fun e => by
  have := congrArg Int32.toInt e
  rw [nI_toInt h, show (-1 : Int32).toInt = -1 by decide] at this
  omega
theorem Sp.join {p r : Nat → Prop} {b : Int32} {R : Nat} (h : Sp p b) (hp : ∀ m, p m → m < 5000) (hR : r R) (hm : ∀ m, r m → m ≤ R) (hR2 : R < 5000) : Sp (fun m => p m ∨ r m) (if b < nI R then nI R else b) := by
  rcases h with ⟨h1, h2⟩ | ⟨B, h1, h2, h3⟩
  · rw [h1, if_pos (m1_lt (by omega))]
    exact Or.inr ⟨R, rfl, Or.inr hR, fun m hq => hq.elim (fun q => absurd q (h2 m)) (hm m)⟩
  · have hB := hp B h2
    rw [h1]
    by_cases hlt : B < R
    · rw [if_pos (nI_lt hlt (by omega))]
      exact Or.inr ⟨R, rfl, Or.inr hR, fun m hq => hq.elim (fun q => by have := h3 m q; omega) (hm m)⟩
    · rw [if_neg (nI_nlt (by omega) (by omega))]
      exact Or.inr ⟨B, rfl, Or.inl h2, fun m hq => hq.elim (h3 m) (fun q => by have := hm m q; omega)⟩
/-- what the class has reckoned of a row: kind k, first day dy, first grief a, length n -/
def RC (T : TT) (k dy a n : Nat) : Prop := T.2.1 6 3 = nI dy ∧ T.2.1 6 4 = nI a ∧ T.2.1 6 5 = nI n ∧ kn (T.2.2.2 6).1 (T.2.2.2 6).2 = k
theorem RC.of {T T' : TT} {k dy a n : Nat} (h : RC T k dy a n) (e : T'.2 = T.2) : RC T' k dy a n := by
  unfold RC
  rw [e]
  exact h
def Qp (k dy a t gc cc g'' m : Nat) : Prop := ∃ g' m' c, (g' < gc ∨ (g' = gc ∧ c < cc)) ∧ c < 3 ∧ PP k dy t 0 a g' m' ∧ g'' = lF k c g' ∧ m = m' + gn k dy t c g'
theorem Qp_le {k dy a t gc cc g'' m : Nat} (hk : k < 6) (ha : a < 100) (ht : t ≤ 7) (h : Qp k dy a t gc cc g'' m) : m < 5000 := by
  obtain ⟨g', m', c, h1, hc, h2, h3, h4⟩ := h
  obtain ⟨h5, h6⟩ := PP_le hk t 0 a g' m' ha h2
  have := gn_le (k := k) (dy := dy) (t := t) (c := c) hk h6
  omega
theorem spread_l {k dy a n t gc B : Nat} (hk : k < 6) (ha : a < 100) (hn : n ≤ 7) (ht : t < n) (hdy : dy < 100000) (hg : gc < 100) (hB : PP k dy t 0 a gc B) (hB2 : ∀ m, PP k dy t 0 a gc m → m ≤ B) : ∀ (q c f : Nat) (T : TT), c + q = 3 → q < f → RC T k dy a n → T.1 8 (t + 1) gc = nI B → (∀ g'', g'' < 100 → Sp (Qp k dy a t gc c g'') (T.1 8 (t + 2) g'')) → ∃ T', m_X5_spread_l2 f T (nI t) (nI gc) (nI c) = some T' ∧ T'.2 = T.2 ∧ (∀ x y, ¬ (x = 8 ∧ y = t + 2) → T'.1 x y = T.1 x y) ∧ ∀ g'', g'' < 100 → Sp (Qp k dy a t gc 3 g'') (T'.1 8 (t + 2) g'') := by
  have hBl := (PP_le hk t 0 a gc B ha hB).1
  intro q
  induction q with
  | zero =>
    intro c f T hc hf hC h8 hS
    obtain ⟨f, rfl⟩ : ∃ q, f = q + 1 := ⟨f - 1, by omega⟩
    have hc : c = 3 := by omega
    subst hc
    refine ⟨T, ?_, rfl, fun _ _ _ => rfl, hS⟩
    show m_X5_spread_h2 _ _ _ _ _ = _
    unfold m_X5_spread_h2
    rw [if_pos (by decide)]
  | succ q ih =>
    intro c f T hc hf hC h8 hS
    obtain ⟨f, rfl⟩ : ∃ q, f = q + 1 := ⟨f - 1, by omega⟩
    have hl := lF_lt k hk c (by omega) gc hg
    have hgn := gn_le (k := k) (dy := dy) (t := t) (c := c) hk hg
    generalize hT1 : sA T 8 (t + 2) (lF k c gc) (if T.1 8 (t + 2) (lF k c gc) < nI (B + gn k dy t c gc) then nI (B + gn k dy t c gc) else T.1 8 (t + 2) (lF k c gc)) = T1
    have e2 : T1.2 = T.2 := by rw [← hT1]; rfl
    have eo : ∀ x y, ¬ (x = 8 ∧ y = t + 2) → T1.1 x y = T.1 x y := fun x y hxy => by
      funext i
      rw [← hT1, sA_v, if_neg (fun z => hxy ⟨z.1, z.2.1⟩)]
    have hS1 : ∀ g'', g'' < 100 → Sp (Qp k dy a t gc (c + 1) g'') (T1.1 8 (t + 2) g'') := fun g'' hg'' => by
      rw [← hT1, sA_v]
      by_cases hto : g'' = lF k c gc
      · subst hto
        rw [if_pos ⟨rfl, rfl, rfl⟩]
        refine (Sp.join (r := fun m => ∃ m', PP k dy t 0 a gc m' ∧ m = m' + gn k dy t c gc) (hS _ hl) (fun m hm => Qp_le hk ha (by omega) hm) ⟨B, hB, rfl⟩ (fun m hm => ?_) (by omega)).congr (fun m => ?_)
        · obtain ⟨m', h1, h2⟩ := hm
          have := hB2 m' h1
          omega
        · constructor
          · rintro (⟨g', m', c', h1, h2, h3, h4, h5⟩ | ⟨m', h1, h2⟩)
            · exact ⟨g', m', c', by omega, h2, h3, h4, h5⟩
            · exact ⟨gc, m', c, by omega, by omega, h1, rfl, h2⟩
          · rintro ⟨g', m', c', h1, h2, h3, h4, h5⟩
            by_cases hh : g' = gc ∧ c' = c
            · obtain ⟨rfl, rfl⟩ := hh
              exact Or.inr ⟨m', h3, h5⟩
            · exact Or.inl ⟨g', m', c', by omega, h2, h3, h4, h5⟩
      · rw [if_neg (fun z => hto z.2.2)]
        refine (hS g'' hg'').congr (fun m => ⟨?_, ?_⟩)
        · rintro ⟨g', m', c', h1, h2, h3, h4, h5⟩
          exact ⟨g', m', c', by omega, h2, h3, h4, h5⟩
        · rintro ⟨g', m', c', h1, h2, h3, h4, h5⟩
          refine ⟨g', m', c', ?_, h2, h3, h4, h5⟩
          by_cases hh : g' = gc ∧ c' = c
          · obtain ⟨rfl, rfl⟩ := hh
            exact absurd h4 hto
          · omega
    obtain ⟨T', z1, z2, z3, z4⟩ := ih (c + 1) f T1 (by omega) (by omega) (hC.of e2) (by rw [eo 8 (t + 1) (by omega)]; exact h8) hS1
    refine ⟨T', ?_, by rw [z2, e2], fun x y hxy => by rw [z3 x y hxy, eo x y hxy], z4⟩
    have h3 : ¬ (3 : Int32) ≤ nI c := nI_ge (b := 3) (by omega) (by decide)
    have hb : ∀ s0 : Int32, s0 = nI (gn k dy t c gc) → m_X5_spread_b43 (m_X5_spread_l2 f) T (nI t) (nI gc) (nI c) (nI (lF k c gc)) s0 = some T' := fun s0 hs => by
      unfold m_X5_spread_b43
      rw [nI_1, if_pos (inb_n (by omega) (by decide)), if_pos (inb_n (by omega) (by decide)), if_pos (inb_n (by omega) (by decide)), if_pos (inb_n (by omega) (by decide)), if_pos (inb_n (by omega) (by decide)), if_pos (inb_n (by omega) (by decide)), bT_v, bT_v, cl_n (by omega), cl_n (by omega), cl_n (by omega), cl_n (by omega), h8, hs, ad_n, nI_1]
      rw [show t + 1 + 1 = t + 2 from rfl, hT1]
      exact z1
    show m_X5_spread_h2 _ _ _ _ _ = _
    unfold m_X5_spread_h2
    rw [if_neg h3, left_v hC.2.2.2 hk (by omega) hg, Option.bind_some]
    by_cases c0 : c = 0
    · subst c0
      rw [if_pos (by decide), hC.1, ad_n, sea_v (by omega), Option.bind_some, runs_v hC.2.2.2 hk (Nat.mod_lt _ (by decide)) hg, Option.bind_some]
      exact hb _ (by unfold gn; rw [if_pos rfl])
    · rw [if_neg (nI_ne0 (by omega) (by omega))]
      exact hb 0 (by unfold gn; rw [if_neg c0]; rfl)
