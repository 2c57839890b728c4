theorem sgn_lt {s g c k : Nat} (hs : s < 4) (hg : g < 100) (hc : c < 3) (hk : k < 6) : sgn s g c k < 20000 := by
  have := rF_lt k hk s hs g hg
  have := lF_lt k hk c hc g hg
  unfold sgn
  omega
theorem sgn_eq {s g c k k' : Nat} (hs : s < 4) (hg : g < 100) (hc : c < 3) (hk : k < 6) (hk' : k' < 6) : sgn s g c k = sgn s g c k' ↔ rF k s g = rF k' s g ∧ lF k c g = lF k' c g := by
  have := lF_lt k hk c hc g hg
  have := lF_lt k' hk' c hc g hg
  unfold sgn
  constructor
  · intro h
    constructor <;> omega
  · intro h
    omega
theorem al_v {a b s g c : Nat} (ha : a < 6) (hb : b < 6) (hs : s < 4) (hg : g < 100) (hc : c < 3) : m_X11_areAlike (nI a) (nI b) (nI g) (nI s) (nI c) = some (if sgn s g c b = sgn s g c a then 1 else 0) := by
  unfold m_X11_areAlike
  rw [rF_m a ha s hs g hg, Option.bind_some, rF_m b hb s hs g hg, Option.bind_some]
  have r1 := rF_lt a ha s hs g hg
  have r2 := rF_lt b hb s hs g hg
  have l1 := lF_lt a ha c hc g hg
  have l2 := lF_lt b hb c hc g hg
  by_cases h1 : rF a s g = rF b s g
  · rw [if_pos (congrArg nI h1), lF_m a ha c hc g hg, Option.bind_some, lF_m b hb c hc g hg, Option.bind_some]
    by_cases h2 : lF a c g = lF b c g
    · rw [if_pos (congrArg nI h2), if_pos ((sgn_eq hs hg hc hb ha).mpr ⟨h1.symm, h2.symm⟩)]
    · rw [if_neg (fun e => h2 ((nI_eq (by omega) (by omega)).mp e)), if_neg (fun e => h2 ((sgn_eq hs hg hc hb ha).mp e).2.symm)]
  · rw [if_neg (fun e => h1 ((nI_eq (by omega) (by omega)).mp e)), if_neg (fun e => h1 ((sgn_eq hs hg hc hb ha).mp e).1.symm)]
/-! the class's -/
theorem fill_l (s g c : Nat) (hs : s < 4) (hg : g < 100) (hc : c < 3) (x : Int32) : ∀ (q k n : Nat) (T : TT), k + q = 6 → q < n → (∀ o, o < k → T.1 4 3 o = nI (sgn s g c o)) → ∃ T', m_X10_mostAlike_l3 n T x (nI s) (nI g) (nI c) (nI k) = m_X10_mostAlike_l60 FU T' x 0 0 ∧ (∀ o, o < 6 → T'.1 4 3 o = nI (sgn s g c o)) ∧ Sc T T' := by
  intro q
  induction q with
  | zero =>
    intro k n T hk hn hf
    obtain ⟨n, rfl⟩ : ∃ q, n = q + 1 := ⟨n - 1, by omega⟩
    have hk : k = 6 := by omega
    subst hk
    refine ⟨T, ?_, hf, Fr.rf⟩
    show m_X10_mostAlike_h3 _ _ _ _ _ _ _ = _
    unfold m_X10_mostAlike_h3
    rw [if_pos (by decide)]
  | succ q ih =>
    intro k n T hk hn hf
    obtain ⟨n, rfl⟩ : ∃ q, n = q + 1 := ⟨n - 1, by omega⟩
    have h6 : ¬ (6 : Int32) ≤ nI k := nI_ge (b := 6) (by omega) (by decide)
    have ks : kn (0, 8 + k).1 (0, 8 + k).2 = k := kn0 k
    have e : nI (rF k s g) * 100 + nI (lF k c g) = nI (sgn s g c k) := by
      rw [show nI (rF k s g) * 100 = nI (rF k s g * 100) from mu_n _ 100, ad_n]
      rfl
    obtain ⟨T', z1, z2, z3⟩ := ih (k + 1) n (sA T 4 3 k (nI (sgn s g c k))) (by omega) (by omega) (fun o ho => by
      rw [sA_v]
      by_cases hok : o = k
      · subst hok; rw [if_pos ⟨rfl, rfl, rfl⟩]
      · rw [if_neg (by omega)]; exact hf o (by omega))
    refine ⟨T', ?_, z2, Fr.trans (Fr.rf.wA rfl (by simp [SCA])) z3⟩
    show m_X10_mostAlike_h3 _ _ _ _ _ _ _ = _
    unfold m_X10_mostAlike_h3
    rw [if_neg h6, if_pos (inb_n (by omega) (by decide)), show v_runs (0, 8 + (nI k).toNatClampNeg) (nI s) (nI g) = some (nI (rF k s g)) by rw [cl_n (by omega)]; exact runs_v ks (by omega) hs hg, Option.bind_some, show v_left (0, 8 + (nI k).toNatClampNeg) (nI c) (nI g) = some (nI (lF k c g)) by rw [cl_n (by omega)]; exact left_v ks (by omega) hc hg, Option.bind_some, if_pos (inb_n (by omega) (by decide)), bT_v, bT_v, cl_n (by omega), nI_1, e]
    exact z1
theorem cnt_l (x : Int32) (s g c : Nat) (hs : s < 4) (hg : g < 100) (hc : c < 3) (T : TT) (hT : ∀ o, o < 6 → T.1 4 3 o = nI (sgn s g c o)) (rec60 : TT → Int32 → Int32 → Int32 → Option (Int32 × TT)) (k m : Nat) (hk : k < 6) (hm : m < 100) : ∀ (q j n : Nat), j + q = 6 → q < n → m_X10_mostAlike_l73 rec60 n T x (nI m) (nI k) (nI (cn x s g c k j)) (nI j) = rec60 T x (nI (max m (cn x s g c k 6))) (nI (k + 1)) := by
  intro q
  induction q with
  | zero =>
    intro j n hj hn
    obtain ⟨n, rfl⟩ : ∃ q, n = q + 1 := ⟨n - 1, by omega⟩
    have hj : j = 6 := by omega
    subst hj
    show m_X10_mostAlike_h73 _ _ _ _ _ _ _ _ = _
    unfold m_X10_mostAlike_h73
    have hc6 := cn_le x s g c k 6
    rw [if_pos (by decide), bT_v, bT_v, nI_1]
    by_cases hlt : m < cn x s g c k 6
    · rw [if_pos (nI_lt hlt (by omega)), Nat.max_eq_right (by omega)]
    · rw [if_neg (nI_nlt (by omega) (by omega)), Nat.max_eq_left (by omega)]
  | succ q ih =>
    intro j n hj hn
    obtain ⟨n, rfl⟩ : ∃ q, n = q + 1 := ⟨n - 1, by omega⟩
    show m_X10_mostAlike_h73 _ _ _ _ _ _ _ _ = _
    unfold m_X10_mostAlike_h73
    have h6 : ¬ (6 : Int32) ≤ nI j := nI_ge (b := 6) (by omega) (by decide)
    have hI := ih (j + 1) n (by omega) (by omega)
    rw [if_neg h6]
    have hs1 := sgn_lt hs hg hc (k := j) (by omega)
    have hs2 := sgn_lt hs hg hc hk
    by_cases hm0 : ((x >>> (nI j &&& 31)) &&& (1 : Int32)) = 0
    · rw [if_pos hm0]
      unfold m_X10_mostAlike_b109
      rw [bT_v, nI_1]
      have e : cn x s g c k (j + 1) = cn x s g c k j := if_neg (by rw [mem_f hm0]; simp)
      rw [← e]
      exact hI
    · rw [if_neg hm0, if_pos (inb_n (by omega) (by decide)), if_pos (inb_n (by omega) (by decide)), cl_n (by omega), cl_n (by omega), hT j (by omega), hT k hk]
      by_cases he : sgn s g c j = sgn s g c k
      · rw [if_pos (congrArg nI he), bT_v]
        unfold m_X10_mostAlike_b109
        rw [bT_v, nI_1, nI_1]
        have e : cn x s g c k (j + 1) = cn x s g c k j + 1 := if_pos ⟨mem_t hm0, he⟩
        rw [← e]
        exact hI
      · rw [if_neg (fun z => he ((nI_eq (by omega) (by omega)).mp z))]
        unfold m_X10_mostAlike_b109
        rw [bT_v, nI_1]
        have e : cn x s g c k (j + 1) = cn x s g c k j := if_neg (fun z => he z.2)
        rw [← e]
        exact hI
theorem top_l (x : Int32) (s g c : Nat) (hs : s < 4) (hg : g < 100) (hc : c < 3) (T : TT) (hT : ∀ o, o < 6 → T.1 4 3 o = nI (sgn s g c o)) : ∀ (q k n : Nat), k + q = 6 → q < n → m_X10_mostAlike_l60 n T x (nI (mxF (fun k => cn x s g c k 6) k)) (nI k) = some (nI (toF x s g c), T) := by
  intro q
  induction q with
  | zero =>
    intro k n hk hn
    obtain ⟨n, rfl⟩ : ∃ q, n = q + 1 := ⟨n - 1, by omega⟩
    have hk : k = 6 := by omega
    subst hk
    show m_X10_mostAlike_h60 _ _ _ _ _ = _
    unfold m_X10_mostAlike_h60
    rw [if_pos (by decide)]
    rfl
  | succ q ih =>
    intro k n hk hn
    obtain ⟨n, rfl⟩ : ∃ q, n = q + 1 := ⟨n - 1, by omega⟩
    show m_X10_mostAlike_h60 _ _ _ _ _ = _
    unfold m_X10_mostAlike_h60
    have h6 : ¬ (6 : Int32) ≤ nI k := nI_ge (b := 6) (by omega) (by decide)
    have hmx := mxF_le (f := fun k => cn x s g c k 6) (b := 6) (fun j => cn_le x s g c j 6) k
    rw [if_neg h6]
    refine (cnt_l x s g c hs hg hc T hT (m_X10_mostAlike_l60 n) k (mxF (fun k => cn x s g c k 6) k) (by omega) (by omega) 6 0 FU (by omega) (FU_lt (by omega))).trans ?_
    exact ih (k + 1) n (by omega) (by omega)
theorem most_v {x : Int32} {s g c : Nat} (hs : s < 4) (hg : g < 100) (hc : c < 3) (T : TT) : ∃ T', m_X10_mostAlike T x (nI s) (nI g) (nI c) = some (nI (toF x s g c), T') ∧ Sc T T' := by
  obtain ⟨T', z1, z2, z3⟩ := fill_l s g c hs hg hc x 6 0 FU T (by omega) (FU_lt (by omega)) (fun o ho => absurd ho (by omega))
  exact ⟨T', z1.trans (top_l x s g c hs hg hc T' z2 6 0 FU (by omega) (FU_lt (by omega))), z3⟩
/-- the first least -/
def lkC (v : Nat → Nat) : Nat → Int32 × Nat
  | 0 => (-1, 7)
  | m + 1 => if v (10 * (m / 3) + m % 3) < (lkC v m).2 then (nI (10 * (m / 3) + m % 3), v (10 * (m / 3) + m % 3)) else lkC v m
def lkM (v : Nat → Nat) : Nat → Int32 × Nat
  | 0 => (-1, 1000000)
  | m + 1 => if m % 10 < 3 then (if v m < (lkM v m).2 then (nI m, v m) else lkM v m) else lkM v m
theorem lkC_s (v : Nat → Nat) (m : Nat) : lkC v (m + 1) = if v (10 * (m / 3) + m % 3) < (lkC v m).2 then (nI (10 * (m / 3) + m % 3), v (10 * (m / 3) + m % 3)) else lkC v m := rfl
theorem lkM_s (v : Nat → Nat) (m : Nat) : lkM v (m + 1) = if m % 10 < 3 then (if v m < (lkM v m).2 then (nI m, v m) else lkM v m) else lkM v m := rfl
theorem lkC_le (v : Nat → Nat) : ∀ m, (lkC v m).2 ≤ 7
  | 0 => Nat.le_refl _
  | m + 1 => by
    have := lkC_le v m
    unfold lkC
    by_cases h : v (10 * (m / 3) + m % 3) < (lkC v m).2
    · rw [if_pos h]; show v _ ≤ 7; omega
    · rw [if_neg h]; exact this
theorem lkM_le (v : Nat → Nat) : ∀ m, (lkM v m).2 ≤ 1000000
  | 0 => Nat.le_refl _
  | m + 1 => by
    have := lkM_le v m
    unfold lkM
    by_cases h0 : m % 10 < 3
    · rw [if_pos h0]
      by_cases h : v m < (lkM v m).2
      · rw [if_pos h]; show v _ ≤ _; omega
      · rw [if_neg h]; exact this
    · rw [if_neg h0]; exact this
theorem lk_go {v : Nat → Nat} {n m : Nat} (e : lkM v n = lkC v m) (h1 : n % 10 < 3) (h2 : 10 * (m / 3) + m % 3 = n) : lkM v (n + 1) = lkC v (m + 1) := by
  unfold lkM lkC
  rw [if_pos h1, h2, e]
theorem lk_no {v : Nat → Nat} {n m : Nat} (e : lkM v n = lkC v m) (h1 : ¬ n % 10 < 3) : lkM v (n + 1) = lkC v m := by
  unfold lkM
  rw [if_neg h1, e]
theorem lk_eq {v : Nat → Nat} (hv : ∀ q, v q ≤ 6) : (lkM v 33).1 = (lkC v 12).1 := by
  have a1 : lkM v 1 = lkC v 1 := by
    have := hv 0
    have e1 : lkM v 1 = (nI 0, v 0) := by
      show (if 0 % 10 < 3 then (if v 0 < 1000000 then (nI 0, v 0) else (-1, 1000000)) else (-1, 1000000)) = _
      rw [if_pos (by decide), if_pos (by omega)]
    have e2 : lkC v 1 = (nI 0, v 0) := by
      show (if v 0 < 7 then (nI 0, v 0) else (-1, 7)) = _
      rw [if_pos (by omega)]
    rw [e1, e2]
  have a3 := lk_go (lk_go a1 (by decide) (by decide)) (by decide) (by decide)
  have b0 := lk_no (lk_no (lk_no (lk_no (lk_no (lk_no (lk_no a3 (by decide)) (by decide)) (by decide)) (by decide)) (by decide)) (by decide)) (by decide)
  have b3 := lk_go (lk_go (lk_go b0 (by decide) (by decide)) (by decide) (by decide)) (by decide) (by decide)
  have c0 := lk_no (lk_no (lk_no (lk_no (lk_no (lk_no (lk_no b3 (by decide)) (by decide)) (by decide)) (by decide)) (by decide)) (by decide)) (by decide)
  have c3 := lk_go (lk_go (lk_go c0 (by decide) (by decide)) (by decide) (by decide)) (by decide) (by decide)
  have d0 := lk_no (lk_no (lk_no (lk_no (lk_no (lk_no (lk_no c3 (by decide)) (by decide)) (by decide)) (by decide)) (by decide)) (by decide)) (by decide)
  have d3 := lk_go (lk_go (lk_go d0 (by decide) (by decide)) (by decide) (by decide)) (by decide) (by decide)
  rw [d3]
def vF (x : Int32) (g : Nat) : Nat → Nat := fun q => toF x (q / 10) g (q % 10)
theorem bm_c (x : Int32) (g : Nat) (hg : g < 100) (rec9 : TT → Int32 → Int32 → Int32 → Int32 → Int32 → Option (Int32 × TT)) (s : Nat) (hs : s < 4) : ∀ (q c n : Nat) (T : TT), c + q = 3 → q < n → ∃ T', m_X10_bestMorning_l18 rec9 n T x (nI g) (nI (lkC (vF x g) (3 * s + c)).2) (lkC (vF x g) (3 * s + c)).1 (nI s) (nI c) = rec9 T' x (nI g) (nI (lkC (vF x g) (3 * (s + 1))).2) (lkC (vF x g) (3 * (s + 1))).1 (nI (s + 1)) ∧ Sc T T' := by
  intro q
  induction q with
  | zero =>
    intro c n T hc hn
    obtain ⟨n, rfl⟩ : ∃ q, n = q + 1 := ⟨n - 1, by omega⟩
    have hc : c = 3 := by omega
    subst hc
    refine ⟨T, ?_, Fr.rf⟩
    show m_X10_bestMorning_h18 _ _ _ _ _ _ _ _ _ = _
    unfold m_X10_bestMorning_h18
    rw [if_pos (by decide), bT_v, nI_1]
    rfl
  | succ q ih =>
    intro c n T hc hn
    obtain ⟨n, rfl⟩ : ∃ q, n = q + 1 := ⟨n - 1, by omega⟩
    have h3 : ¬ (3 : Int32) ≤ nI c := nI_ge (b := 3) (by omega) (by decide)
    obtain ⟨T1, z1, z2⟩ := most_v (x := x) hs hg (show c < 3 by omega) T
    obtain ⟨T2, y1, y2⟩ := ih (c + 1) n T1 (by omega) (by omega)
    refine ⟨T2, ?_, z2.trans y2⟩
    show m_X10_bestMorning_h18 _ _ _ _ _ _ _ _ _ = _
    unfold m_X10_bestMorning_h18
    rw [if_neg h3, z1, Option.bind_some]
    have ex : 10 * ((3 * s + c) / 3) + (3 * s + c) % 3 = 10 * s + c := by omega
    have ev : vF x g (10 * s + c) = toF x s g c := by
      unfold vF
      rw [show (10 * s + c) / 10 = s by omega, show (10 * s + c) % 10 = c by omega]
    have hl := lkC_le (vF x g) (3 * s + c)
    have ht := toF_le x s g c
    have el : lkC (vF x g) (3 * s + (c + 1)) = if toF x s g c < (lkC (vF x g) (3 * s + c)).2 then (nI (10 * s + c), toF x s g c) else lkC (vF x g) (3 * s + c) := by
      rw [← Nat.add_assoc, lkC_s, ex, ev]
    by_cases hlt : toF x s g c < (lkC (vF x g) (3 * s + c)).2
    · have e10 : (10 : Int32) * nI s + nI c = nI (10 * s + c) := by rw [show (10 : Int32) * nI s = nI (10 * s) from mu_n 10 s, ad_n]
      rw [if_neg (nI_ge hlt (by omega)), bT_v, e10]
      unfold m_X10_bestMorning_b55
      rw [bT_v, nI_1]
      rw [el, if_pos hlt] at y1
      exact y1
    · rw [if_pos (nI_le (by omega) (by omega))]
      unfold m_X10_bestMorning_b55
      rw [bT_v, nI_1]
      rw [el, if_neg hlt] at y1
      exact y1
theorem bm_v (x : Int32) (g : Nat) (hg : g < 100) : ∀ (q s n : Nat) (T : TT), s + q = 4 → q < n → ∃ T', m_X10_bestMorning_l9 n T x (nI g) (nI (lkC (vF x g) (3 * s)).2) (lkC (vF x g) (3 * s)).1 (nI s) = some ((lkC (vF x g) 12).1, T') ∧ Sc T T' := by
  intro q
  induction q with
  | zero =>
    intro s n T hs hn
    obtain ⟨n, rfl⟩ : ∃ q, n = q + 1 := ⟨n - 1, by omega⟩
    have hs : s = 4 := by omega
    subst hs
    refine ⟨T, ?_, Fr.rf⟩
    show m_X10_bestMorning_h9 _ _ _ _ _ _ _ = _
    unfold m_X10_bestMorning_h9
    rw [if_pos (by decide)]
  | succ q ih =>
    intro s n T hs hn
    obtain ⟨n, rfl⟩ : ∃ q, n = q + 1 := ⟨n - 1, by omega⟩
    have h4 : ¬ (4 : Int32) ≤ nI s := nI_ge (b := 4) (by omega) (by decide)
    obtain ⟨T1, z1, z2⟩ := bm_c x g hg (m_X10_bestMorning_l9 n) s (by omega) 3 0 FU T (by omega) (FU_lt (by omega))
    obtain ⟨T2, y1, y2⟩ := ih (s + 1) n T1 (by omega) (by omega)
    refine ⟨T2, ?_, z2.trans y2⟩
    show m_X10_bestMorning_h9 _ _ _ _ _ _ _ = _
    unfold m_X10_bestMorning_h9
    rw [if_neg h4]
    exact z1.trans y1
