/-! the reference's pairs -/
def Wf (K G : Nat → Int32) (i d : Nat) : Int32 := if K i = K d then (if G d < G i then G d else G i) else (if G d < G i then G d else G i) + 1
theorem pw_v {T : TT} {i d : Nat} (hi : i < 6) (hd : d < 6) : m_X2_pairWorth T 0 (nI i) (nI d) = some (Wf (T.1 0 2) (T.1 0 3) i d) := by
  have ii : inb (nI i) 6 := inb_n hi (by decide)
  have id : inb (nI d) 6 := inb_n hd (by decide)
  unfold m_X2_pairWorth Wf
  rw [if_pos ii, if_pos id, bT_v, if_pos ii, if_pos id, cl_n (by omega), cl_n (by omega)]
  by_cases h : T.1 0 2 i = T.1 0 2 d
  · rw [if_pos h, if_pos h]
  · rw [if_neg h, if_neg h]
theorem wo_v {T : TT} {i d : Nat} {K G : Nat → Int32} (hi : i < 6) (hd : d < 6) (k1 : T.1 10 1 (17 + i) = K i) (k2 : T.1 10 1 (17 + d) = K d) (g1 : T.1 10 1 (4 + i) = G i) (g2 : T.1 10 1 (4 + d) = G d) : m_X11_worthOf T (nI i) (nI d) = some (Wf K G i d) := by
  have e1 : (4 : Int32) + nI i = nI (4 + i) := ad_n 4 i
  have e2 : (4 : Int32) + nI d = nI (4 + d) := ad_n 4 d
  have ii : inb (nI (4 + i)) 175 := inb_n (by omega) (by decide)
  have id : inb (nI (4 + d)) 175 := inb_n (by omega) (by decide)
  have c1 : T.1 10 1 (Int32.toNatClampNeg (nI (4 + i))) = G i := by rw [cl_n (by omega), g1]
  have c2 : T.1 10 1 (Int32.toNatClampNeg (nI (4 + d))) = G d := by rw [cl_n (by omega), g2]
  have hb : ∀ s0 : Int32, s0 = (if G d < G i then G d else G i) → m_X11_worthOf_b38 T (nI i) (nI d) s0 = some (Wf K G i d) := fun s0 hs => by
    unfold m_X11_worthOf_b38 Wf
    rw [kind_m hi, Option.bind_some, kind_m hd, Option.bind_some, k1, k2, hs]
    by_cases h : K i = K d
    · rw [if_pos h, if_pos h]
    · rw [if_neg h, if_neg h]
  unfold m_X11_worthOf
  rw [e1, e2, if_pos ii, if_pos id, c1, c2]
  by_cases h : G d ≤ G i
  · rw [if_pos h, if_pos id]
    refine hb _ ?_
    by_cases h2 : G d < G i
    · rw [if_pos h2]
    · rw [if_neg h2]
      rw [i32le] at h
      rw [i32lt] at h2
      exact Int32.toInt_inj.mp (by omega)
  · rw [if_neg h, if_pos ii]
    refine hb _ ?_
    rw [if_neg]
    rw [i32le] at h
    rw [i32lt]
    omega
theorem wo_congr {T T' : TT} (h : T'.1 10 1 = T.1 10 1) (x y : Int32) : m_X11_worthOf T' x y = m_X11_worthOf T x y := by
  unfold m_X11_worthOf m_X11_worthOf_b38 m_X11_kindOf
  rw [h]
theorem many_v {T : TT} {sz : Nat} (h : T.1 10 1 0 = nI sz) : m_X11_many T = some (nI sz) := by
  unfold m_X11_many
  rw [h]
def ans (o : Option (Int32 × (Nat → Int32))) : Int32 := match o with
  | none => -1
  | some p => p.1
def MP (T : TT) (sz : Nat) (W : Nat → Nat → Int32) : Prop := T.1 10 1 0 = nI sz ∧ ∀ i d, i < sz → d < sz → m_X11_worthOf T (nI i) (nI d) = some (W i d)
abbrev Fq (T T' : TT) : Prop := Fr (fun a b => a = 10 ∧ (b = 5 ∨ b = 6)) (fun _ _ => False) (fun _ _ => False) T T'
abbrev Fq5 (T T' : TT) : Prop := Fr (fun a b => a = 10 ∧ b = 5) (fun _ _ => False) (fun _ _ => False) T T'
theorem Fq5.q {T T' : TT} (h : Fq5 T T') : Fq T T' := h.mono (fun a b q => ⟨q.1, Or.inl q.2⟩) (fun _ _ q => q) (fun _ _ q => q)
theorem Fq.sc {T T' : TT} (h : Fq T T') : Sc T T' := h.mono (fun a b q => by simp [SCA]; omega) (fun _ _ q => q.elim) (fun _ _ q => q)
theorem MP.of {T T' : TT} {sz : Nat} {W : Nat → Nat → Int32} (h : MP T sz W) (hF : Fq T T') : MP T' sz W := by
  have e := hF.1 10 1 (by omega)
  exact ⟨by rw [e]; exact h.1, fun i d hi hd => by rw [wo_congr e]; exact h.2 i d hi hd⟩
theorem pb_l {sz : Nat} (hs : sz ≤ 6) {W : Nat → Nat → Int32} : ∀ (r i f : Nat) (T : TT) (φ : Nat → Int32) (w : Int32) (x : Nat), i + r = sz → r < f → x < 7 ^ r → MP T sz W → (∀ j, j < sz → T.1 10 5 j = φ j) → ∃ T', m_X11_pairsBy_l37 f T (nI x) (nI (7 ^ r)) w (nI i) = some (ans (mr sz W r i φ w x), T') ∧ (∀ p, mr sz W r i φ w x = some p → ∀ j, j < sz → T'.1 10 5 j = p.2 j) ∧ Fq5 T T' := by
  intro r
  induction r with
  | zero =>
    intro i f T φ w x hi hf hx hM hφ
    obtain ⟨f, rfl⟩ : ∃ q, f = q + 1 := ⟨f - 1, by omega⟩
    refine ⟨T, ?_, fun p hp j hj => ?_, Fr.rf⟩
    · show m_X11_pairsBy_h37 _ _ _ _ _ _ = _
      unfold m_X11_pairsBy_h37
      rw [many_v hM.1, Option.bind_some, if_pos (nI_le (by omega) (by omega))]
      rfl
    · have hp : some (w, φ) = some p := hp
      cases hp
      exact hφ j hj
  | succ r ih =>
    intro i f T φ w x hi hf hx hM hφ
    obtain ⟨f, rfl⟩ : ∃ q, f = q + 1 := ⟨f - 1, by omega⟩
    have hp0 := p7_pos r
    have hp1 := p7_le (m := r) (by omega)
    have hp2 : 7 ^ (r + 1) = 7 ^ r * 7 := Nat.pow_succ 7 r
    have hd7 : x / 7 ^ r < 7 := Nat.div_lt_of_lt_mul (by omega)
    have hy := Nat.mod_lt x hp0
    have ii : inb (nI i) 6 := inb_n (by omega) (by decide)
    have e7 : nI (7 ^ (r + 1)) / 7 = nI (7 ^ r) := (pk_div (a := 7 ^ (r + 1)) (d := 7) (by omega) (by decide) (by decide)).trans (congrArg nI (by omega))
    have emr : mr sz W (r + 1) i φ w x = if φ i = -1 then (if x / 7 ^ r = 6 then mr sz W r (i + 1) φ w (x % 7 ^ r) else if i < x / 7 ^ r ∧ x / 7 ^ r < sz ∧ φ (x / 7 ^ r) = -1 then mr sz W r (i + 1) (pr φ i (x / 7 ^ r)) (w + W i (x / 7 ^ r)) (x % 7 ^ r) else none) else (if x / 7 ^ r = 0 then mr sz W r (i + 1) φ w (x % 7 ^ r) else none) := rfl
    rw [emr]
    show ∃ T', m_X11_pairsBy_h37 _ _ _ _ _ _ = _ ∧ _
    unfold m_X11_pairsBy_h37
    rw [many_v hM.1, Option.bind_some, if_neg (nI_ge (by omega) (by omega)), bT_v, e7, if_neg (nI_ne0 (by omega) (by omega)), bT_v, if_neg (nI_ne0 (by omega) (by omega)), bT_v, pk_rem (by omega) hp0 (by omega), pk_div (by omega) hp0 (by omega), if_pos ii, cl_n (by omega), hφ i (by omega)]
    generalize x / 7 ^ r = d at hd7 ⊢
    generalize x % 7 ^ r = y at hy ⊢
    have none_ : ∀ T' : TT, T' = T → (∀ p : Int32 × (Nat → Int32), (none : Option (Int32 × (Nat → Int32))) = some p → ∀ j, j < sz → T'.1 10 5 j = p.2 j) ∧ Fq5 T T' := fun T' e => by
      subst e
      exact ⟨fun p hp => (by cases hp), Fr.rf⟩
    by_cases hc : φ i = -1
    · rw [if_pos hc, if_pos hc]
      unfold m_X11_pairsBy_b80
      rw [if_pos rfl]
      by_cases h6 : d = 6
      · subst h6
        rw [if_pos rfl, if_pos (by decide)]
        unfold m_X11_pairsBy_b134 m_X11_pairsBy_b139 m_X11_pairsBy_b191
        rw [if_neg (by decide), if_pos rfl, if_pos (by decide), bT_v, nI_1]
        exact ih (i + 1) f T φ w y (by omega) (by omega) hy hM hφ
      · have h6' : ¬ nI d = (6 : Int32) := fun e => h6 ((nI_eq (a := d) (b := 6) (by omega) (by decide)).mp e)
        rw [if_neg h6, if_neg h6']
        by_cases h1 : i < d
        · rw [if_neg (nI_ge h1 (by omega)), many_v hM.1, Option.bind_some]
          by_cases h2 : d < sz
          · have id : inb (nI d) 6 := inb_n (by omega) (by decide)
            rw [if_neg (nI_ge h2 (by omega)), if_pos id, show T.1 10 5 (Int32.toNatClampNeg (nI d)) = φ d by rw [cl_n (by omega)]; exact hφ d h2]
            by_cases h3 : φ d = -1
            · have hF : Fq5 T (sA (sA T 10 5 i (nI d)) 10 5 d (nI i)) := (Fr.rf.wA rfl ⟨rfl, rfl⟩).wA rfl ⟨rfl, rfl⟩
              have hM' := hM.of hF.q
              obtain ⟨T', z1, z2, z3⟩ := ih (i + 1) f _ (pr φ i d) (w + W i d) y (by omega) (by omega) hy hM' (fun j hj => by
                rw [sA_v, sA_v]
                unfold pr
                by_cases h1 : j = d
                · rw [if_pos ⟨rfl, rfl, h1⟩, if_pos h1]
                · rw [if_neg (fun z => h1 z.2.2), if_neg h1]
                  by_cases h2 : j = i
                  · rw [if_pos ⟨rfl, rfl, h2⟩, if_pos h2]
                  · rw [if_neg (fun z => h2 z.2.2), if_neg h2]
                    exact hφ j hj)
              rw [if_pos h3, if_pos ⟨h1, h2, h3⟩]
              unfold m_X11_pairsBy_b134 m_X11_pairsBy_b139 m_X11_pairsBy_b191
              rw [if_neg (by decide), if_pos rfl, if_neg h6', if_pos ii, bT_v, show sA T 10 5 (Int32.toNatClampNeg (nI i)) (nI d) = sA T 10 5 i (nI d) by rw [cl_n (by omega)], if_pos id, bT_v, show sA (sA T 10 5 i (nI d)) 10 5 (Int32.toNatClampNeg (nI d)) (nI i) = sA (sA T 10 5 i (nI d)) 10 5 d (nI i) by rw [cl_n (by omega)], hM'.2 i d (by omega) h2, Option.bind_some, bT_v, bT_v, nI_1]
              exact ⟨T', z1, z2, hF.trans z3⟩
            · rw [if_neg h3, if_neg (fun z => h3 z.2.2)]
              unfold m_X11_pairsBy_b138 m_X11_pairsBy_b139
              rw [if_pos rfl]
              exact ⟨T, rfl, none_ T rfl⟩
          · rw [if_pos (nI_le (by omega) (by omega)), if_neg (fun z => h2 z.2.1)]
            unfold m_X11_pairsBy_b138 m_X11_pairsBy_b139
            rw [if_pos rfl]
            exact ⟨T, rfl, none_ T rfl⟩
        · rw [if_pos (nI_le (by omega) (by omega)), if_neg (fun z => h1 z.1)]
          unfold m_X11_pairsBy_b138 m_X11_pairsBy_b139
          rw [if_pos rfl]
          exact ⟨T, rfl, none_ T rfl⟩
    · rw [if_neg hc, if_neg hc]
      unfold m_X11_pairsBy_b80
      rw [if_neg (by decide)]
      by_cases h0 : d = 0
      · subst h0
        rw [if_pos rfl, if_pos (by decide)]
        unfold m_X11_pairsBy_b139 m_X11_pairsBy_b191
        rw [if_neg (by decide), if_neg (by decide), bT_v, nI_1]
        exact ih (i + 1) f T φ w y (by omega) (by omega) hy hM hφ
      · rw [if_neg h0, if_neg (nI_ne0 (by omega) (by omega))]
        unfold m_X11_pairsBy_b139
        rw [if_pos rfl]
        exact ⟨T, rfl, none_ T rfl⟩
theorem pb_i {sz x : Nat} (hs : sz ≤ 6) {W : Nat → Nat → Int32} (hx : x < 7 ^ sz) : ∀ (q j f : Nat) (T : TT), j + q = sz → q < f → MP T sz W → (∀ j', j' < j → T.1 10 5 j' = -1) → ∃ T', m_X11_pairsBy_l11 f T (nI x) (nI (7 ^ sz)) 0 (nI j) = some (ans (mr sz W sz 0 (fun _ => -1) 0 x), T') ∧ (∀ p, mr sz W sz 0 (fun _ => -1) 0 x = some p → ∀ j, j < sz → T'.1 10 5 j = p.2 j) ∧ Fq5 T T' := by
  intro q
  induction q with
  | zero =>
    intro j f T hj hf hM h1
    obtain ⟨f, rfl⟩ : ∃ q, f = q + 1 := ⟨f - 1, by omega⟩
    obtain ⟨T', z1, z2, z3⟩ := pb_l hs (W := W) sz 0 FU T (fun _ => -1) 0 x (by omega) (FU_lt (by omega)) hx hM (fun j' hj' => h1 j' (by omega))
    refine ⟨T', ?_, z2, z3⟩
    show m_X11_pairsBy_h11 _ _ _ _ _ _ = _
    unfold m_X11_pairsBy_h11
    rw [many_v hM.1, Option.bind_some, if_pos (nI_le (by omega) (by omega))]
    exact z1
  | succ q ih =>
    intro j f T hj hf hM h1
    obtain ⟨f, rfl⟩ : ∃ q, f = q + 1 := ⟨f - 1, by omega⟩
    have hF : Fq5 T (sA T 10 5 j (-1)) := Fr.rf.wA rfl ⟨rfl, rfl⟩
    obtain ⟨T', z1, z2, z3⟩ := ih (j + 1) f (sA T 10 5 j (-1)) (by omega) (by omega) (hM.of hF.q) (fun j' hj' => by
      rw [sA_v]
      by_cases e : j' = j
      · rw [if_pos ⟨rfl, rfl, e⟩]
      · rw [if_neg (fun z => e z.2.2)]; exact h1 j' (by omega))
    refine ⟨T', ?_, z2, hF.trans z3⟩
    show m_X11_pairsBy_h11 _ _ _ _ _ _ = _
    unfold m_X11_pairsBy_h11
    rw [many_v hM.1, Option.bind_some, if_neg (nI_ge (by omega) (by omega)), if_pos (inb_n (by omega) (by decide)), bT_v, bT_v, cl_n (by omega), nI_1]
    exact z1
theorem pb_v {sz x : Nat} (hs : sz ≤ 6) {W : Nat → Nat → Int32} (hx : x < 7 ^ sz) {T : TT} (hM : MP T sz W) : ∃ T', m_X11_pairsBy T (nI x) (nI (7 ^ sz)) = some (ans (mr sz W sz 0 (fun _ => -1) 0 x), T') ∧ (∀ p, mr sz W sz 0 (fun _ => -1) 0 x = some p → ∀ j, j < sz → T'.1 10 5 j = p.2 j) ∧ Fq5 T T' :=
  pb_i hs hx sz 0 FU T (by omega) (FU_lt (by omega)) hM (fun j' hj' => absurd hj' (by omega))
theorem tl_k {sz : Nat} (hs : sz ≤ 6) {W : Nat → Nat → Int32} (x1 x2 x3 x4 x5 : Int32) (h53 : ¬ x5 ≤ x3) (rec55 : TT → Int32 → Int32 → Int32 → Int32 → Option (Int32 × TT)) : ∀ (q k f : Nat) (T : TT), k + q = sz → q < f → MP T sz W → (∀ j, j < k → T.1 10 6 j = T.1 10 5 j) → ∃ T', m_X11_tell_l73 rec55 f T x1 x2 x3 x4 x5 (nI k) = rec55 T' x1 x2 x5 (x4 + 1) ∧ (∀ j, j < sz → T'.1 10 6 j = T.1 10 5 j) ∧ Fq T T' := by
  intro q
  induction q with
  | zero =>
    intro k f T hk hf hM h1
    obtain ⟨f, rfl⟩ : ∃ q, f = q + 1 := ⟨f - 1, by omega⟩
    refine ⟨T, ?_, fun j hj => h1 j (by omega), Fr.rf⟩
    show m_X11_tell_h73 _ _ _ _ _ _ _ _ _ = _
    unfold m_X11_tell_h73 m_X11_tell_b108 m_X11_tell_b120
    rw [many_v hM.1, Option.bind_some, if_pos (nI_le (by omega) (by omega)), if_neg h53, bT_v]
  | succ q ih =>
    intro k f T hk hf hM h1
    obtain ⟨f, rfl⟩ : ∃ q, f = q + 1 := ⟨f - 1, by omega⟩
    have hF : Fq T (sA T 10 6 k (T.1 10 5 k)) := Fr.rf.wA rfl ⟨rfl, Or.inr rfl⟩
    have e5 : ∀ j, (sA T 10 6 k (T.1 10 5 k)).1 10 5 j = T.1 10 5 j := fun j => by rw [sA_v, if_neg (by omega)]
    obtain ⟨T', z1, z2, z3⟩ := ih (k + 1) f (sA T 10 6 k (T.1 10 5 k)) (by omega) (by omega) (hM.of hF) (fun j hj => by
      rw [e5, sA_v]
      by_cases e : j = k
      · rw [if_pos ⟨rfl, rfl, e⟩, e]
      · rw [if_neg (fun z => e z.2.2)]; exact h1 j (by omega))
    refine ⟨T', ?_, fun j hj => (z2 j hj).trans (e5 j), hF.trans z3⟩
    have ik : inb (nI k) 6 := inb_n (by omega) (by decide)
    show m_X11_tell_h73 _ _ _ _ _ _ _ _ _ = _
    unfold m_X11_tell_h73
    rw [many_v hM.1, Option.bind_some, if_neg (nI_ge (by omega) (by omega)), if_neg h53, if_pos ik, if_pos ik, bT_v, bT_v, cl_n (by omega), nI_1]
    exact z1
theorem tl_n {sz : Nat} (hs : sz ≤ 6) {W : Nat → Nat → Int32} {T : TT} (hM : MP T sz W) {x1 x2 x3 x4 x5 : Int32} (h53 : x5 ≤ x3) (rec55 : TT → Int32 → Int32 → Int32 → Int32 → Option (Int32 × TT)) : m_X11_tell_l73 rec55 FU T x1 x2 x3 x4 x5 0 = rec55 T x1 x2 x3 (x4 + 1) := by
  have e : FU = 999999 + 1 := rfl
  rw [e]
  show m_X11_tell_h73 _ _ _ _ _ _ _ _ _ = _
  unfold m_X11_tell_h73 m_X11_tell_b108 m_X11_tell_b120
  rw [many_v hM.1, Option.bind_some]
  by_cases h : nI sz ≤ 0
  · rw [if_pos h, if_pos h53, bT_v]
  · rw [if_neg h, if_pos h53, if_pos h53, bT_v]
theorem lf_ge {o : Option (Int32 × (Nat → Int32))} {s : Int32 × (Nat → Int32)} (h : (-1 : Int32) ≤ s.1) : (-1 : Int32) ≤ (lf o s).1 := by
  cases o with
  | none => exact h
  | some p =>
    show (-1 : Int32) ≤ (le1 p.1 p.2 s).1
    unfold le1
    by_cases hc : p.1 ≤ s.1
    · rw [if_pos hc]; exact h
    · rw [if_neg hc]
      show (-1 : Int32) ≤ p.1
      rw [i32le] at hc h ⊢
      omega
theorem tl_l {sz : Nat} (hs : sz ≤ 6) {W : Nat → Nat → Int32} (x1 : Int32) (s0 : Int32 × (Nat → Int32)) : ∀ (q x f : Nat) (T : TT), x + q = 7 ^ sz → q < f → MP T sz W → (-1 : Int32) ≤ (fo (fun c s => lf (mr sz W sz 0 (fun _ => -1) 0 c) s) x s0).1 → ((fo (fun c s => lf (mr sz W sz 0 (fun _ => -1) 0 c) s) x s0).1 ≠ -1 → ∀ j, j < sz → T.1 10 6 j = (fo (fun c s => lf (mr sz W sz 0 (fun _ => -1) 0 c) s) x s0).2 j) → ∃ T', m_X11_tell_l55 f T x1 (nI (7 ^ sz)) (fo (fun c s => lf (mr sz W sz 0 (fun _ => -1) 0 c) s) x s0).1 (nI x) = (if x1 = -1 then some ((fo (fun c s => lf (mr sz W sz 0 (fun _ => -1) 0 c) s) (7 ^ sz) s0).1, T') else if inb x1 6 then some (T'.1 10 6 (Int32.toNatClampNeg x1), T') else none) ∧ ((fo (fun c s => lf (mr sz W sz 0 (fun _ => -1) 0 c) s) (7 ^ sz) s0).1 ≠ -1 → ∀ j, j < sz → T'.1 10 6 j = (fo (fun c s => lf (mr sz W sz 0 (fun _ => -1) 0 c) s) (7 ^ sz) s0).2 j) ∧ Fq T T' := by
  have hp := p7_le hs
  intro q
  induction q with
  | zero =>
    intro x f T hx hf hM h1 h2
    obtain ⟨f, rfl⟩ : ∃ q, f = q + 1 := ⟨f - 1, by omega⟩
    have hx : x = 7 ^ sz := by omega
    subst hx
    refine ⟨T, ?_, h2, Fr.rf⟩
    show m_X11_tell_h55 _ _ _ _ _ _ = _
    unfold m_X11_tell_h55
    rw [if_pos (nI_le (Nat.le_refl _) (by omega))]
  | succ q ih =>
    intro x f T hx hf hM h1 h2
    obtain ⟨f, rfl⟩ : ∃ q, f = q + 1 := ⟨f - 1, by omega⟩
    obtain ⟨T1, y1, y2, y3⟩ := pb_v hs (show x < 7 ^ sz by omega) hM
    have hM1 := hM.of y3.q
    have e6 : ∀ j, T1.1 10 6 j = T.1 10 6 j := fun j => by rw [y3.1 10 6 (by omega)]
    have es : fo (fun c s => lf (mr sz W sz 0 (fun _ => -1) 0 c) s) (x + 1) s0 = lf (mr sz W sz 0 (fun _ => -1) 0 x) (fo (fun c s => lf (mr sz W sz 0 (fun _ => -1) 0 c) s) x s0) := rfl
    have ih' := ih (x + 1) f
    rw [es] at ih'
    generalize fo (fun c s => lf (mr sz W sz 0 (fun _ => -1) 0 c) s) x s0 = s at h1 h2 ih' ⊢
    generalize fo (fun c s => lf (mr sz W sz 0 (fun _ => -1) 0 c) s) (7 ^ sz) s0 = sN at ih' ⊢
    generalize mr sz W sz 0 (fun _ => -1) 0 x = o at y1 y2 ih'
    have hge := lf_ge (o := o) h1
    show ∃ T', m_X11_tell_h55 _ _ _ _ _ _ = _ ∧ _
    unfold m_X11_tell_h55
    rw [if_neg (nI_ge (by omega) (by omega)), y1, Option.bind_some]
    show ∃ T', m_X11_tell_l73 (m_X11_tell_l55 f) FU T1 x1 (nI (7 ^ sz)) s.1 (nI x) (ans o) 0 = _ ∧ _
    by_cases hc : ans o ≤ s.1
    · have el : lf o s = s := by
        cases o with
        | none => rfl
        | some p => exact if_pos hc
      rw [el] at ih' hge
      obtain ⟨T', z1, z2, z3⟩ := ih' T1 (by omega) (by omega) hM1 hge (fun hne j hj => (e6 j).trans (h2 hne j hj))
      refine ⟨T', ?_, z2, Fr.trans y3.q z3⟩
      rw [tl_n hs hM1 hc, nI_1]
      exact z1
    · cases o with
      | none => exact absurd h1 hc
      | some p =>
        have el : lf (some p) s = (p.1, p.2) := if_neg hc
        rw [el] at ih' hge
        obtain ⟨T2, w1, w2, w3⟩ := tl_k hs (W := W) x1 (nI (7 ^ sz)) s.1 (nI x) (ans (some p)) hc (m_X11_tell_l55 f) sz 0 FU T1 (by omega) (FU_lt (by omega)) hM1 (fun j hj => absurd hj (by omega))
        obtain ⟨T', z1, z2, z3⟩ := ih' T2 (by omega) (by omega) (hM1.of w3) hge (fun hne j hj => (w2 j hj).trans (y2 p rfl j hj))
        refine ⟨T', ?_, z2, Fr.trans y3.q (Fr.trans w3 z3)⟩
        refine Eq.trans w1 ?_
        rw [nI_1]
        exact z1
theorem tl_c {sz : Nat} (hs : sz ≤ 6) {W : Nat → Nat → Int32} (x1 : Int32) {T : TT} (hM : MP T sz W) : ∀ (q k f : Nat), k + q = sz → q < f → m_X11_tell_l32 f T x1 (nI (7 ^ k)) (-1) (nI k) = m_X11_tell_l55 FU T x1 (nI (7 ^ sz)) (-1) 0 := by
  intro q
  induction q with
  | zero =>
    intro k f hk hf
    obtain ⟨f, rfl⟩ : ∃ q, f = q + 1 := ⟨f - 1, by omega⟩
    have hk : k = sz := by omega
    subst hk
    show m_X11_tell_h32 _ _ _ _ _ _ = _
    unfold m_X11_tell_h32
    rw [many_v hM.1, Option.bind_some, if_pos (nI_le (Nat.le_refl _) (by omega))]
  | succ q ih =>
    intro k f hk hf
    obtain ⟨f, rfl⟩ : ∃ q, f = q + 1 := ⟨f - 1, by omega⟩
    show m_X11_tell_h32 _ _ _ _ _ _ = _
    unfold m_X11_tell_h32
    rw [many_v hM.1, Option.bind_some, if_neg (nI_ge (by omega) (by omega)), bT_v, bT_v, nI_1, show nI (7 ^ k) * 7 = nI (7 ^ (k + 1)) from mu_n (7 ^ k) 7]
    exact ih (k + 1) f (by omega) (by omega)
theorem op_tell {n : Nat} {T : TT} (hn : n < 64) (h : Inv n T) (x : Int32) : Op n (m_X10_tell T x) (fun T => m_X11_tell T x) := by
  obtain ⟨sz, nc, tc, uc, dy, hR⟩ := h.t0
  have hsz := hR.1.1
  have good : (x = -1 ∨ ∃ i, i < sz ∧ x = nI i) → Op n (m_X10_tell T x) (fun T => m_X11_tell T x) := fun hx => by
    obtain ⟨T1, y1, y2, y3⟩ := rp_v (T := T) hsz (W := Wf (T.1 0 2) (T.1 0 3)) hR.2.1.1 (fun i d hi hd => pw_v (by omega) (by omega))
    have ea : T1.1 10 1 = T.1 10 1 := y3.1 10 1 (by omega)
    have hM : MP T1 sz (Wf (T.1 0 2) (T.1 0 3)) := ⟨by rw [ea]; exact hR.2.2.1.1, fun i d hi hd => by
      obtain ⟨⟨k, hk, k1, k2⟩, ⟨g, hg, g1, g2⟩, -⟩ := hR.2.2.2.1 i hi
      obtain ⟨⟨k', hk', k1', k2'⟩, ⟨g', hg', g1', g2'⟩, -⟩ := hR.2.2.2.1 d hd
      exact wo_v (by omega) (by omega) (by rw [ea, k1, k2]) (by rw [ea, k1', k2']) (by rw [ea, g1, g2]) (by rw [ea, g1', g2'])⟩
    have hp := p7_le hsz
    obtain ⟨T3, z1, z2, z3⟩ := tl_l hsz x (-1, fun _ => 0) (7 ^ sz) 0 FU T1 (by omega) (FU_lt (by omega)) hM (show (-1 : Int32) ≤ -1 by decide) (fun hne => absurd rfl hne)
    rw [fo_tr] at z1 z2
    have hge : (tr sz (Wf (T.1 0 2) (T.1 0 3)) sz 0 (fun _ => -1) 0 (-1, fun _ => 0)).1 ≠ -1 := fun e => by
      have := tr_ge sz (Wf (T.1 0 2) (T.1 0 3)) sz 0 (fun _ => -1) 0 (-1, fun _ => 0)
      rw [e] at this
      revert this
      decide
    have hF : Sc T T1 := y3.mono (fun a b q => by simp [SCA, q]) (fun a b q => by simp [SCI, q]) (fun _ _ q => q)
    have q2 : ∀ r, (if x = -1 then some ((tr sz (Wf (T.1 0 2) (T.1 0 3)) sz 0 (fun _ => -1) 0 (-1, fun _ => 0)).1, T3) else if inb x 6 then some (T3.1 10 6 (Int32.toNatClampNeg x), T3) else none) = some (r, T3) → m_X11_tell T1 x = some (r, T3) := fun r hr => by
      unfold m_X11_tell
      rw [many_v hM.1, Option.bind_some, in_ok (lo := -1) (hi := nI sz - 1) (by decide) rfl, Option.bind_some, if_neg (by decide), ← hr, ← z1]
      · exact tl_c hsz x hM sz 0 FU (by omega) (FU_lt (by omega))
      · rcases hx with rfl | ⟨i, hi, rfl⟩
        · rintro (hq | hq)
          · revert hq; decide
          · rw [i32lt] at hq
            have e2 : (nI sz - 1).toInt = (sz : Int) - 1 := pk_sub_toInt (a := sz) (b := 1) (by omega) (by decide)
            have e1 : (-1 : Int32).toInt = -1 := by decide
            omega
        · have e2 : nI sz - 1 = nI (sz - 1) := pk_sub (a := sz) (b := 1) (by omega)
          rintro (hq | hq)
          · have := m1_lt (R := i) (by omega)
            rw [i32lt] at hq this
            omega
          · rw [e2] at hq
            exact nI_nlt (by omega) (by omega) hq
    rcases hx with rfl | ⟨i, hi, rfl⟩
    · refine Op.of (r := (tr sz (Wf (T.1 0 2) (T.1 0 3)) sz 0 (fun _ => -1) 0 (-1, fun _ => 0)).1) (T1 := T1) (T2 := T3) ?_ (q2 _ (if_pos rfl)) (h.keep hn (hF.trans z3.sc))
      unfold m_X10_tell m_X10_tell_b26
      rw [if_pos rfl, y1, Option.bind_some, if_pos rfl, y2.2.1]
    · have hne : ¬ nI i = (-1 : Int32) := m1_ne (by omega)
      have ii : inb (nI i) 6 := inb_n (by omega) (by decide)
      refine Op.of (r := (tr sz (Wf (T.1 0 2) (T.1 0 3)) sz 0 (fun _ => -1) 0 (-1, fun _ => 0)).2 i) (T1 := T1) (T2 := T3) ?_ (q2 _ ?_) (h.keep hn (hF.trans z3.sc))
      · unfold m_X10_tell m_X10_tell_b26
        rw [if_neg hne, has_ok hR.2.1.1 hsz hi, Option.bind_some, if_neg (by decide), y1, Option.bind_some, if_neg hne, if_pos ii, cl_n (by omega), y2.2.2.1 hge i hi]
      · rw [if_neg hne, if_pos ii, cl_n (by omega), z2 hge i hi]
  by_cases hm : x = -1
  · exact good (Or.inl hm)
  rcases ixd x sz hsz with hb | ⟨i, hi, rfl⟩
  · refine Op.of (r := -10) (T1 := rfs T 0) (T2 := rfm (rfs T 0) 0) ?_ ?_ (h.refuse hn (by decide))
    · unfold m_X10_tell
      rw [if_neg hm, has_bad hR.2.1.1 hb]
      rfl
    · show m_X11_tell _ _ = _
      unfold m_X11_tell
      rw [many_v (show (rfs T 0).1 10 1 0 = nI sz by rw [rfs_told]; exact hR.2.2.1.1), Option.bind_some, in_bad (lo := -1) (hi := nI sz - 1) (by decide) rfl]
      · rfl
      · rcases hb with hb | hb
        · left
          rw [i32lt] at hb ⊢
          have e1 : (-1 : Int32).toInt = -1 := by decide
          have e0 : (0 : Int32).toInt = 0 := by decide
          have : x.toInt ≠ -1 := fun e => hm (Int32.toInt_inj.mp (by omega))
          omega
        · right
          rw [i32le] at hb
          rw [i32lt]
          have e1 := nI_toInt (n := sz) (by omega)
          have e2 : (nI sz - 1).toInt = (sz : Int) - 1 := pk_sub_toInt (a := sz) (b := 1) (by omega) (by decide)
          omega
  · exact good (Or.inr ⟨i, hi, rfl⟩)
