/-! PAIRS -/
def fo (f : Nat → Int32 × (Nat → Int32) → Int32 × (Nat → Int32)) : Nat → Int32 × (Nat → Int32) → Int32 × (Nat → Int32)
  | 0, s => s
  | n + 1, s => f n (fo f n s)
theorem fo_add (f : Nat → Int32 × (Nat → Int32) → Int32 × (Nat → Int32)) (a : Nat) (s : Int32 × (Nat → Int32)) : ∀ b, fo f (a + b) s = fo (fun c => f (a + c)) b (fo f a s)
  | 0 => rfl
  | b + 1 => by
    show f (a + b) (fo f (a + b) s) = f (a + b) (fo (fun c => f (a + c)) b (fo f a s))
    rw [fo_add f a s b]
theorem fo_congr {f g : Nat → Int32 × (Nat → Int32) → Int32 × (Nat → Int32)} {s : Int32 × (Nat → Int32)} : ∀ n, (∀ c, c < n → ∀ s, f c s = g c s) → fo f n s = fo g n s
  | 0, _ => rfl
  | n + 1, h => by
    show f n (fo f n s) = g n (fo g n s)
    rw [fo_congr n (fun c hc => h c (by omega)), h n (by omega)]
theorem fo_id {f : Nat → Int32 × (Nat → Int32) → Int32 × (Nat → Int32)} {s : Int32 × (Nat → Int32)} : ∀ n, (∀ c, c < n → ∀ s, f c s = s) → fo f n s = s
  | 0, _ => rfl
  | n + 1, h => by
    show f n (fo f n s) = s
    rw [fo_id n (fun c hc => h c (by omega)), h n (by omega)]
theorem fo_ext {f : Nat → Int32 × (Nat → Int32) → Int32 × (Nat → Int32)} {s : Int32 × (Nat → Int32)} {a b : Nat} (hab : a ≤ b) (h : ∀ c, a ≤ c → ∀ s, f c s = s) : fo f b s = fo f a s := by
  obtain ⟨q, rfl⟩ : ∃ q, b = a + q := ⟨b - a, by omega⟩
  rw [fo_add]
  exact fo_id q (fun c _ s => h (a + c) (by omega) s)
theorem fo_mul (f : Nat → Int32 × (Nat → Int32) → Int32 × (Nat → Int32)) (N : Nat) (s : Int32 × (Nat → Int32)) : ∀ m, fo f (N * m) s = fo (fun d s => fo (fun c => f (N * d + c)) N s) m s
  | 0 => rfl
  | m + 1 => by
    rw [Nat.mul_succ, fo_add, fo_mul f N s m]
    rfl
theorem fo_s7 (f : Nat → Int32 × (Nat → Int32) → Int32 × (Nat → Int32)) (s : Int32 × (Nat → Int32)) : fo f 7 s = f 6 (fo f 6 s) := rfl
/-- a way at its end; by a code, if there is one -/
def le1 (w : Int32) (φ : Nat → Int32) (s : Int32 × (Nat → Int32)) : Int32 × (Nat → Int32) := if w ≤ s.1 then s else (w, φ)
def pr (φ : Nat → Int32) (i d : Nat) : Nat → Int32 := fun j => if j = d then nI i else if j = i then nI d else φ j
def tr (sz : Nat) (W : Nat → Nat → Int32) : Nat → Nat → (Nat → Int32) → Int32 → Int32 × (Nat → Int32) → Int32 × (Nat → Int32)
  | 0, _, φ, w, s => le1 w φ s
  | r + 1, i, φ, w, s => if φ i = -1 then tr sz W r (i + 1) φ w (fo (fun d s => if i < d ∧ d < sz ∧ φ d = -1 then tr sz W r (i + 1) (pr φ i d) (w + W i d) s else s) 6 s) else tr sz W r (i + 1) φ w s
def mr (sz : Nat) (W : Nat → Nat → Int32) : Nat → Nat → (Nat → Int32) → Int32 → Nat → Option (Int32 × (Nat → Int32))
  | 0, _, φ, w, _ => some (w, φ)
  | r + 1, i, φ, w, x => if φ i = -1 then (if x / 7 ^ r = 6 then mr sz W r (i + 1) φ w (x % 7 ^ r) else if i < x / 7 ^ r ∧ x / 7 ^ r < sz ∧ φ (x / 7 ^ r) = -1 then mr sz W r (i + 1) (pr φ i (x / 7 ^ r)) (w + W i (x / 7 ^ r)) (x % 7 ^ r) else none) else (if x / 7 ^ r = 0 then mr sz W r (i + 1) φ w (x % 7 ^ r) else none)
def lf (o : Option (Int32 × (Nat → Int32))) (s : Int32 × (Nat → Int32)) : Int32 × (Nat → Int32) := match o with
  | none => s
  | some p => le1 p.1 p.2 s
theorem p7_pos : ∀ m : Nat, 0 < 7 ^ m
  | 0 => by decide
  | m + 1 => by have := p7_pos m; rw [Nat.pow_succ]; omega
theorem p7_le {m : Nat} (h : m ≤ 6) : 7 ^ m ≤ 117649 := Nat.pow_le_pow_right (n := 7) (by decide) h
theorem blk {N d c : Nat} (h : c < N) : (N * d + c) / N = d ∧ (N * d + c) % N = c := by
  have hN : 0 < N := by omega
  constructor
  · rw [Nat.mul_add_div hN, Nat.div_eq_of_lt h, Nat.add_zero]
  · rw [Nat.mul_add_mod, Nat.mod_eq_of_lt h]
theorem fo_tr (sz : Nat) (W : Nat → Nat → Int32) : ∀ (r i : Nat) (φ : Nat → Int32) (w : Int32) (s : Int32 × (Nat → Int32)), fo (fun c s => lf (mr sz W r i φ w c) s) (7 ^ r) s = tr sz W r i φ w s
  | 0, i, φ, w, s => rfl
  | r + 1, i, φ, w, s => by
    rw [Nat.pow_succ, fo_mul]
    by_cases h : φ i = -1
    · have hF : ∀ d s, fo (fun c s => lf (mr sz W (r + 1) i φ w (7 ^ r * d + c)) s) (7 ^ r) s = if d = 6 then tr sz W r (i + 1) φ w s else if i < d ∧ d < sz ∧ φ d = -1 then tr sz W r (i + 1) (pr φ i d) (w + W i d) s else s := fun d s => by
        by_cases h6 : d = 6
        · rw [if_pos h6, ← fo_tr sz W r (i + 1) φ w s]
          refine fo_congr _ (fun c hc s => ?_)
          obtain ⟨e1, e2⟩ := blk (d := d) hc
          show lf (if φ i = -1 then _ else _) s = _
          rw [if_pos h, e1, if_pos h6, e2]
        · by_cases hv : i < d ∧ d < sz ∧ φ d = -1
          · rw [if_neg h6, if_pos hv, ← fo_tr sz W r (i + 1) (pr φ i d) (w + W i d) s]
            refine fo_congr _ (fun c hc s => ?_)
            obtain ⟨e1, e2⟩ := blk (d := d) hc
            show lf (if φ i = -1 then _ else _) s = _
            rw [if_pos h, e1, if_neg h6, if_pos hv, e2]
          · rw [if_neg h6, if_neg hv]
            refine fo_id _ (fun c hc s => ?_)
            obtain ⟨e1, e2⟩ := blk (d := d) hc
            show lf (if φ i = -1 then _ else _) s = _
            rw [if_pos h, e1, if_neg h6, if_neg hv]
            rfl
      show fo _ 7 s = if φ i = -1 then _ else _
      rw [if_pos h, fo_congr 7 (fun d _ s => hF d s), fo_s7, if_pos rfl]
      refine congrArg _ (fo_congr 6 (fun d hd s => ?_))
      rw [if_neg (show ¬ d = 6 by omega)]
    · have hF : ∀ d s, fo (fun c s => lf (mr sz W (r + 1) i φ w (7 ^ r * d + c)) s) (7 ^ r) s = if d = 0 then tr sz W r (i + 1) φ w s else s := fun d s => by
        by_cases h6 : d = 0
        · rw [if_pos h6, ← fo_tr sz W r (i + 1) φ w s]
          refine fo_congr _ (fun c hc s => ?_)
          obtain ⟨e1, e2⟩ := blk (d := d) hc
          show lf (if φ i = -1 then _ else _) s = _
          rw [if_neg h, e1, if_pos h6, e2]
        · rw [if_neg h6]
          refine fo_id _ (fun c hc s => ?_)
          obtain ⟨e1, e2⟩ := blk (d := d) hc
          show lf (if φ i = -1 then _ else _) s = _
          rw [if_neg h, e1, if_neg h6]
          rfl
      show fo _ 7 s = if φ i = -1 then _ else _
      rw [if_neg h, fo_congr 7 (fun d _ s => hF d s), fo_ext (a := 1) (by decide) (fun c hc s => if_neg (by omega))]
      show (if 0 = 0 then tr sz W r (i + 1) φ w s else s) = _
      rw [if_pos rfl]
theorem le1_ge (w : Int32) (φ : Nat → Int32) (s : Int32 × (Nat → Int32)) : w ≤ (le1 w φ s).1 := by
  unfold le1
  by_cases h : w ≤ s.1
  · rw [if_pos h]; exact h
  · rw [if_neg h]; exact Int32.le_refl w
theorem tr_ge (sz : Nat) (W : Nat → Nat → Int32) : ∀ (r i : Nat) (φ : Nat → Int32) (w : Int32) (s : Int32 × (Nat → Int32)), w ≤ (tr sz W r i φ w s).1
  | 0, i, φ, w, s => le1_ge w φ s
  | r + 1, i, φ, w, s => by
    show w ≤ (if φ i = -1 then _ else _ : Int32 × (Nat → Int32)).1
    by_cases h : φ i = -1
    · rw [if_pos h]; exact tr_ge sz W r (i + 1) φ w _
    · rw [if_neg h]; exact tr_ge sz W r (i + 1) φ w _
/-! the class -/
def CP (T : TT) (sz : Nat) (W : Nat → Nat → Int32) (φ : Nat → Int32) (s : Int32 × (Nat → Int32)) : Prop := (∀ j, j < sz → T.1 7 2 j = φ j) ∧ T.2.1 7 1 = s.1 ∧ (s.1 ≠ -1 → ∀ j, j < sz → T.1 7 1 j = s.2 j) ∧ T.2.1 0 7 = nI sz ∧ ∀ i d, i < sz → d < sz → m_X2_pairWorth T 0 (nI i) (nI d) = some (W i d)
theorem pw_congr {T T' : TT} (h : ∀ f, T'.1 0 f = T.1 0 f) (x y : Int32) : m_X2_pairWorth T' 0 x y = m_X2_pairWorth T 0 x y := by
  unfold m_X2_pairWorth
  rw [h 3, h 2]
abbrev Fp (T T' : TT) : Prop := Fr (fun a _ => a = 7) (fun a _ => a = 7) (fun _ _ => False) T T'
theorem CP.of {T T' : TT} {sz : Nat} {W : Nat → Nat → Int32} {φ φ' : Nat → Int32} {s s' : Int32 × (Nat → Int32)} (h : CP T sz W φ s) (hF : Fp T T') (h1 : ∀ j, j < sz → T'.1 7 2 j = φ' j) (h2 : T'.2.1 7 1 = s'.1) (h3 : s'.1 ≠ -1 → ∀ j, j < sz → T'.1 7 1 j = s'.2 j) : CP T' sz W φ' s' :=
  ⟨h1, h2, h3, by rw [hF.2.1 0 7 (by omega)]; exact h.2.2.2.1, fun i d hi hd => by rw [pw_congr (fun f => hF.1 0 f (by omega))]; exact h.2.2.2.2 i d hi hd⟩
theorem kb_v {T : TT} {sz : Nat} {W : Nat → Nat → Int32} {φ : Nat → Int32} {s : Int32 × (Nat → Int32)} (hs : sz ≤ 6) (w : Int32) (h : CP T sz W φ s) : ∃ T', m_X2_keepIfBetter T w = some T' ∧ CP T' sz W φ (le1 w φ s) ∧ Fp T T' := by
  unfold m_X2_keepIfBetter le1
  rw [h.2.1]
  by_cases hc : w ≤ s.1
  · rw [if_pos hc, if_pos hc]
    exact ⟨T, rfl, h, Fr.rf⟩
  · rw [if_neg hc, if_neg hc, bT_v, if_pos (by decide), bT_v]
    have hF : Fp T (cpA (sI T 7 1 w) 7 2 (Int32.toNatClampNeg 0) 7 1 (Int32.toNatClampNeg 0) (Int32.toNatClampNeg 6)) := (Fr.rf.wI rfl (by rfl)).wC rfl (by rfl)
    refine ⟨_, rfl, h.of hF (fun j hj => ?_) ?_ (fun _ j hj => ?_), hF⟩
    · rw [cpA_v, if_neg (by omega)]
      exact h.1 j hj
    · rw [cpA_2, sI_v, if_pos ⟨rfl, rfl⟩]
    · rw [cpA_v, if_pos ⟨rfl, rfl⟩, c0n, c6n, cpy0 (by omega)]
      exact h.1 j hj
theorem tf_o {sz r i : Nat} (hs : sz ≤ 6) (hi : i < sz) {W : Nat → Nat → Int32} {φ : Nat → Int32} (hφ : φ i = -1) (w : Int32) (s : Int32 × (Nat → Int32)) (self : TT → Nat → Int32 → Int32 → Option TT) (ih : ∀ (T : TT) (φ : Nat → Int32) (w : Int32) (s : Int32 × (Nat → Int32)), CP T sz W φ s → ∃ T', self T 0 (nI (i + 1)) w = some T' ∧ CP T' sz W φ (tr sz W r (i + 1) φ w s) ∧ Fp T T') : ∀ (q o f : Nat) (T : TT), o + q = sz → q < f → i < o → CP T sz W φ (fo (fun d s => if i < d ∧ d < sz ∧ φ d = -1 then tr sz W r (i + 1) (pr φ i d) (w + W i d) s else s) o s) → ∃ T', m_X2_tryFrom_l45 self 0 f T (nI i) w (nI o) = (self T' 0 (nI (i + 1)) w).bind (fun z => some z) ∧ CP T' sz W φ (fo (fun d s => if i < d ∧ d < sz ∧ φ d = -1 then tr sz W r (i + 1) (pr φ i d) (w + W i d) s else s) sz s) ∧ Fp T T' := by
  intro q
  induction q with
  | zero =>
    intro o f T ho hf hio hC
    obtain ⟨f, rfl⟩ : ∃ q, f = q + 1 := ⟨f - 1, by omega⟩
    have ho : o = sz := by omega
    subst ho
    refine ⟨T, ?_, hC, Fr.rf⟩
    show m_X2_tryFrom_h45 _ _ _ _ _ _ _ = _
    unfold m_X2_tryFrom_h45 m_X2_tryFrom_b126
    rw [hC.2.2.2.1, if_pos (nI_le (Nat.le_refl _) (by omega)), nI_1]
  | succ q iq =>
    intro o f T ho hf hio hC
    obtain ⟨f, rfl⟩ : ∃ q, f = q + 1 := ⟨f - 1, by omega⟩
    have h6 : ¬ (6 : Int32) ≤ nI o := nI_ge (b := 6) (by omega) (by decide)
    have io : inb (nI o) 6 := inb_n (by omega) (by decide)
    have ii : inb (nI i) 6 := inb_n (by omega) (by decide)
    show ∃ T', m_X2_tryFrom_h45 _ _ _ _ _ _ _ = _ ∧ _
    unfold m_X2_tryFrom_h45 m_X2_tryFrom_b120
    rw [hC.2.2.2.1, if_neg (nI_ge (by omega) (by omega)), if_neg h6, if_pos io, show T.1 7 2 (Int32.toNatClampNeg (nI o)) = φ o by rw [cl_n (by omega)]; exact hC.1 o (by omega)]
    by_cases hc : φ o = -1
    · have hF7 : Fp T (sA (sA T 7 2 i (nI o)) 7 2 o (nI i)) := (Fr.rf.wA rfl (by rfl)).wA rfl (by rfl)
      have hC7 : CP (sA (sA T 7 2 i (nI o)) 7 2 o (nI i)) sz W (pr φ i o) (fo (fun d s => if i < d ∧ d < sz ∧ φ d = -1 then tr sz W r (i + 1) (pr φ i d) (w + W i d) s else s) o s) := hC.of hF7 (fun j hj => by
        rw [sA_v, sA_v]
        unfold pr
        by_cases h1 : j = o
        · rw [if_pos ⟨rfl, rfl, h1⟩, if_pos h1]
        · rw [if_neg (fun z => h1 z.2.2), if_neg h1]
          by_cases h2 : j = i
          · rw [if_pos ⟨rfl, rfl, h2⟩, if_pos h2]
          · rw [if_neg (fun z => h2 z.2.2), if_neg h2]
            exact hC.1 j hj) hC.2.1 (fun hne j hj => by
        rw [sA_v, if_neg (by omega), sA_v, if_neg (by omega)]
        exact hC.2.2.1 hne j hj)
      obtain ⟨T9, y1, y2, y3⟩ := ih _ (pr φ i o) (w + W i o) _ hC7
      have hF11 : Fp T9 (sA (sA T9 7 2 i (-1)) 7 2 o (-1)) := (Fr.rf.wA rfl (by rfl)).wA rfl (by rfl)
      have hC11 : CP (sA (sA T9 7 2 i (-1)) 7 2 o (-1)) sz W φ (fo (fun d s => if i < d ∧ d < sz ∧ φ d = -1 then tr sz W r (i + 1) (pr φ i d) (w + W i d) s else s) (o + 1) s) := by
        have ef : fo (fun d s => if i < d ∧ d < sz ∧ φ d = -1 then tr sz W r (i + 1) (pr φ i d) (w + W i d) s else s) (o + 1) s = tr sz W r (i + 1) (pr φ i o) (w + W i o) (fo (fun d s => if i < d ∧ d < sz ∧ φ d = -1 then tr sz W r (i + 1) (pr φ i d) (w + W i d) s else s) o s) := if_pos ⟨hio, by omega, hc⟩
        rw [ef]
        refine y2.of hF11 (fun j hj => ?_) y2.2.1 (fun hne j hj => ?_)
        · rw [sA_v, sA_v]
          by_cases h1 : j = o
          · rw [if_pos ⟨rfl, rfl, h1⟩, h1, hc]
          · rw [if_neg (fun z => h1 z.2.2)]
            by_cases h2 : j = i
            · rw [if_pos ⟨rfl, rfl, h2⟩, h2, hφ]
            · rw [if_neg (fun z => h2 z.2.2), y2.1 j hj]
              unfold pr
              rw [if_neg h1, if_neg h2]
        · rw [sA_v, if_neg (by omega), sA_v, if_neg (by omega)]
          exact y2.2.2.1 hne j hj
      obtain ⟨T', z1, z2, z3⟩ := iq (o + 1) f _ (by omega) (by omega) (by omega) hC11
      refine ⟨T', ?_, z2, Fr.trans hF7 (Fr.trans y3 (Fr.trans hF11 z3))⟩
      rw [if_pos hc, if_pos ii, bT_v, show sA T 7 2 (Int32.toNatClampNeg (nI i)) (nI o) = sA T 7 2 i (nI o) by rw [cl_n (by omega)], if_pos io, bT_v, show sA (sA T 7 2 i (nI o)) 7 2 (Int32.toNatClampNeg (nI o)) (nI i) = sA (sA T 7 2 i (nI o)) 7 2 o (nI i) by rw [cl_n (by omega)], hC7.2.2.2.2 i o hi (by omega), Option.bind_some, nI_1, y1, Option.bind_some, if_pos ii, bT_v, if_pos io, bT_v, bT_v, nI_1, cl_n (by omega), cl_n (by omega)]
      exact z1
    · have hC1 : CP T sz W φ (fo (fun d s => if i < d ∧ d < sz ∧ φ d = -1 then tr sz W r (i + 1) (pr φ i d) (w + W i d) s else s) (o + 1) s) := by
        have ef : fo (fun d s => if i < d ∧ d < sz ∧ φ d = -1 then tr sz W r (i + 1) (pr φ i d) (w + W i d) s else s) (o + 1) s = fo (fun d s => if i < d ∧ d < sz ∧ φ d = -1 then tr sz W r (i + 1) (pr φ i d) (w + W i d) s else s) o s := if_neg (fun z => hc z.2.2)
        rw [ef]
        exact hC
      obtain ⟨T', z1, z2, z3⟩ := iq (o + 1) f T (by omega) (by omega) (by omega) hC1
      refine ⟨T', ?_, z2, z3⟩
      rw [if_neg hc, bT_v, nI_1]
      exact z1
theorem tf_v {sz : Nat} (hs : sz ≤ 6) {W : Nat → Nat → Int32} : ∀ (r i f : Nat) (T : TT) (φ : Nat → Int32) (w : Int32) (s : Int32 × (Nat → Int32)), i + r = sz → r < f → CP T sz W φ s → ∃ T', m_X2_tryFrom f T 0 (nI i) w = some T' ∧ CP T' sz W φ (tr sz W r i φ w s) ∧ Fp T T' := by
  intro r
  induction r with
  | zero =>
    intro i f T φ w s hi hf hC
    obtain ⟨f, rfl⟩ : ∃ q, f = q + 1 := ⟨f - 1, by omega⟩
    obtain ⟨T', y1, y2, y3⟩ := kb_v hs w hC
    refine ⟨T', ?_, y2, y3⟩
    show m_X2_tryFrom_e _ _ _ _ _ = _
    unfold m_X2_tryFrom_e m_X2_tryFrom_b14
    rw [hC.2.2.2.1, if_pos (nI_le (by omega) (by omega)), y1, Option.bind_some]
  | succ r ih =>
    intro i f T φ w s hi hf hC
    obtain ⟨f, rfl⟩ : ∃ q, f = q + 1 := ⟨f - 1, by omega⟩
    have ii : inb (nI i) 6 := inb_n (by omega) (by decide)
    have h6 : nI i < (6 : Int32) := nI_lt (b := 6) (by omega) (by decide)
    have ih' : ∀ (T : TT) (φ : Nat → Int32) (w : Int32) (s : Int32 × (Nat → Int32)), CP T sz W φ s → ∃ T', m_X2_tryFrom f T 0 (nI (i + 1)) w = some T' ∧ CP T' sz W φ (tr sz W r (i + 1) φ w s) ∧ Fp T T' := fun T φ w s h => ih (i + 1) f T φ w s (by omega) (by omega) h
    show ∃ T', m_X2_tryFrom_e _ _ _ _ _ = _ ∧ CP T' sz W φ (if φ i = -1 then _ else _) ∧ _
    unfold m_X2_tryFrom_e
    rw [hC.2.2.2.1, if_neg (nI_ge (by omega) (by omega)), if_pos h6, if_pos ii, cl_n (by omega), hC.1 i (by omega)]
    by_cases hc : φ i = -1
    · rw [if_pos hc, if_pos hc, bT_v, nI_1]
      have hC0 : CP T sz W φ (fo (fun d s => if i < d ∧ d < sz ∧ φ d = -1 then tr sz W r (i + 1) (pr φ i d) (w + W i d) s else s) (i + 1) s) := by
        rw [fo_id (i + 1) (fun c hc s => if_neg (by omega))]
        exact hC
      obtain ⟨T1, y1, y2, y3⟩ := tf_o hs (show i < sz by omega) hc w s (m_X2_tryFrom f) ih' r (i + 1) FU T (by omega) (FU_lt (by omega)) (by omega) hC0
      rw [← fo_ext (b := 6) hs (fun c hc s => if_neg (by omega))] at y2
      obtain ⟨T2, z1, z2, z3⟩ := ih' T1 φ w _ y2
      refine ⟨T2, ?_, z2, y3.trans z3⟩
      rw [y1, z1, Option.bind_some]
    · rw [if_neg hc, if_neg hc, nI_1]
      obtain ⟨T2, z1, z2, z3⟩ := ih' T φ w s hC
      refine ⟨T2, ?_, z2, z3⟩
      rw [z1, Option.bind_some]
theorem rp_l {sz : Nat} (hs : sz ≤ 6) {W : Nat → Nat → Int32} : ∀ (q j f : Nat) (T : TT), j + q = 6 → q < f → (∀ j', j' < j → T.1 7 2 j' = -1) → T.2.1 7 1 = -1 → T.2.1 0 7 = nI sz → (∀ i d, i < sz → d < sz → m_X2_pairWorth T 0 (nI i) (nI d) = some (W i d)) → ∃ T', m_X2_reckon_l7 0 f T (nI j) = some T' ∧ CP T' sz W (fun _ => -1) (tr sz W sz 0 (fun _ => -1) 0 (-1, fun _ => 0)) ∧ Fp T T' := by
  intro q
  induction q with
  | zero =>
    intro j f T hj hf h1 h2 h3 h4
    obtain ⟨f, rfl⟩ : ∃ q, f = q + 1 := ⟨f - 1, by omega⟩
    have hj : j = 6 := by omega
    subst hj
    obtain ⟨T', y1, y2, y3⟩ := tf_v hs (W := W) sz 0 12 T (fun _ => -1) 0 (-1, fun _ => 0) (by omega) (by omega) ⟨fun j hj => h1 j (by omega), h2, fun h => absurd rfl h, h3, h4⟩
    refine ⟨T', ?_, y2, y3⟩
    show m_X2_reckon_h7 _ _ _ _ = _
    unfold m_X2_reckon_h7
    rw [if_pos (by decide), show m_X2_tryFrom 12 T 0 0 0 = some T' from y1, Option.bind_some]
  | succ q ih =>
    intro j f T hj hf h1 h2 h3 h4
    obtain ⟨f, rfl⟩ : ∃ q, f = q + 1 := ⟨f - 1, by omega⟩
    have h6 : ¬ (6 : Int32) ≤ nI j := nI_ge (b := 6) (by omega) (by decide)
    have hF : Fp T (sA T 7 2 j (-1)) := Fr.rf.wA rfl (by rfl)
    obtain ⟨T', y1, y2, y3⟩ := ih (j + 1) f (sA T 7 2 j (-1)) (by omega) (by omega) (fun j' hj' => by
      rw [sA_v]
      by_cases e : j' = j
      · rw [if_pos ⟨rfl, rfl, e⟩]
      · rw [if_neg (fun z => e z.2.2)]; exact h1 j' (by omega)) h2 h3 (fun i d hi hd => by rw [pw_congr (fun f => hF.1 0 f (by omega))]; exact h4 i d hi hd)
    refine ⟨T', ?_, y2, hF.trans y3⟩
    show m_X2_reckon_h7 _ _ _ _ = _
    unfold m_X2_reckon_h7
    rw [if_neg h6, if_pos (inb_n (by omega) (by decide)), bT_v, bT_v, cl_n (by omega), nI_1]
    exact y1
theorem rp_v {T : TT} {sz : Nat} (hs : sz ≤ 6) {W : Nat → Nat → Int32} (h3 : T.2.1 0 7 = nI sz) (h4 : ∀ i d, i < sz → d < sz → m_X2_pairWorth T 0 (nI i) (nI d) = some (W i d)) : ∃ T', m_X2_reckon T 0 = some T' ∧ CP T' sz W (fun _ => -1) (tr sz W sz 0 (fun _ => -1) 0 (-1, fun _ => 0)) ∧ Fp T T' := by
  have hF : Fp T (sI T 7 1 (-1)) := Fr.rf.wI rfl (by rfl)
  obtain ⟨T', y1, y2, y3⟩ := rp_l hs (W := W) 6 0 FU (sI T 7 1 (-1)) (by omega) (FU_lt (by omega)) (fun j' hj' => absurd hj' (by omega)) (by rw [sI_v, if_pos ⟨rfl, rfl⟩]) (by rw [sI_v, if_neg (by omega)]; exact h3) (fun i d hi hd => by rw [pw_congr (fun f => hF.1 0 f (by omega))]; exact h4 i d hi hd)
  refine ⟨T', ?_, y2, hF.trans y3⟩
  unfold m_X2_reckon
  rw [bT_v]
  exact y1
