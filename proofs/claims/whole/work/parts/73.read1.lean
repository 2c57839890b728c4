/-! THE TEXT: its tokens, as both sides take them -/
def rE (b : Nat → Nat) (tl lo hi : Nat) : Nat → Nat → Nat
  | 0, p => p
  | m + 1, p => if p < tl ∧ lo ≤ b p ∧ b p ≤ hi then rE b tl lo hi m (p + 1) else p
/-- the end of the run of bytes lo .. hi from p on -/
def rn (b : Nat → Nat) (tl lo hi p : Nat) : Nat := rE b tl lo hi (tl - p) p
theorem rn_s {b : Nat → Nat} {tl lo hi p : Nat} (h : p < tl) (h1 : lo ≤ b p) (h2 : b p ≤ hi) : rn b tl lo hi p = rn b tl lo hi (p + 1) := by
  unfold rn
  rw [show tl - p = (tl - (p + 1)) + 1 by omega]
  show (if p < tl ∧ lo ≤ b p ∧ b p ≤ hi then rE b tl lo hi (tl - (p + 1)) (p + 1) else p) = _
  rw [if_pos ⟨h, h1, h2⟩]
theorem rn_e {b : Nat → Nat} {tl lo hi p : Nat} (h : ¬ (p < tl ∧ lo ≤ b p ∧ b p ≤ hi)) : rn b tl lo hi p = p := by
  unfold rn
  by_cases hp : p < tl
  · rw [show tl - p = (tl - (p + 1)) + 1 by omega]
    show (if p < tl ∧ lo ≤ b p ∧ b p ≤ hi then rE b tl lo hi (tl - (p + 1)) (p + 1) else p) = _
    rw [if_neg h]
  · rw [show tl - p = 0 by omega]
    rfl
theorem rnb_le {b : Nat → Nat} {tl lo hi : Nat} : ∀ m p : Nat, p + m = tl → p ≤ rn b tl lo hi p ∧ rn b tl lo hi p ≤ tl ∧ ∀ j, p ≤ j → j < rn b tl lo hi p → lo ≤ b j ∧ b j ≤ hi := by
  intro m
  induction m with
  | zero =>
    intro p hp
    rw [rn_e (fun q => by omega)]
    exact ⟨Nat.le_refl _, by omega, fun j q1 q2 => by omega⟩
  | succ m ih =>
    intro p hp
    by_cases h : lo ≤ b p ∧ b p ≤ hi
    · rw [rn_s (by omega) h.1 h.2]
      obtain ⟨q1, q2, q3⟩ := ih (p + 1) (by omega)
      refine ⟨by omega, q2, fun j z1 z2 => ?_⟩
      by_cases hj : j = p
      · subst hj
        exact h
      · exact q3 j (by omega) z2
    · rw [rn_e (fun q => h q.2)]
      exact ⟨Nat.le_refl _, by omega, fun j q1 q2 => by omega⟩
theorem rn_lt {b : Nat → Nat} {tl lo hi p : Nat} (h : p < tl) (h1 : lo ≤ b p) (h2 : b p ≤ hi) : p < rn b tl lo hi p := by
  rw [rn_s h h1 h2]
  have := (rnb_le (b := b) (tl := tl) (lo := lo) (hi := hi) (tl - (p + 1)) (p + 1) (by omega)).1
  omega
def vl (b : Nat → Nat) (st en : Nat) : Nat := if en = st + 1 then b st - 48 else 10 * (b st - 48) + (b (st + 1) - 48)
/-- the token from p on: where it begins, where it ends, what it is, its number -/
def tok (b : Nat → Nat) (tl p : Nat) : Nat × Nat × Nat × Nat :=
  if tl ≤ rn b tl 32 32 p then (rn b tl 32 32 p, rn b tl 32 32 p, 0, 0)
  else if 97 ≤ b (rn b tl 32 32 p) ∧ b (rn b tl 32 32 p) ≤ 122 then (rn b tl 32 32 p, rn b tl 97 122 (rn b tl 32 32 p), 1, 0)
  else if 48 ≤ b (rn b tl 32 32 p) ∧ b (rn b tl 32 32 p) ≤ 57 then (rn b tl 32 32 p, rn b tl 48 57 (rn b tl 32 32 p), if rn b tl 48 57 (rn b tl 32 32 p) - rn b tl 32 32 p ≤ 2 then 2 else 4, vl b (rn b tl 32 32 p) (rn b tl 48 57 (rn b tl 32 32 p)))
  else (rn b tl 32 32 p, rn b tl 32 32 p + 1, if b (rn b tl 32 32 p) = 59 then 3 else 4, 0)
theorem tok_0 {b : Nat → Nat} {tl p st : Nat} (e : rn b tl 32 32 p = st) (h : tl ≤ st) : tok b tl p = (st, st, 0, 0) := by
  unfold tok
  rw [e, if_pos h]
theorem tok_1 {b : Nat → Nat} {tl p st : Nat} (e : rn b tl 32 32 p = st) (h : st < tl) (h1 : 97 ≤ b st ∧ b st ≤ 122) : tok b tl p = (st, rn b tl 97 122 st, 1, 0) := by
  unfold tok
  rw [e, if_neg (by omega), if_pos h1]
theorem tok_2 {b : Nat → Nat} {tl p st : Nat} (e : rn b tl 32 32 p = st) (h : st < tl) (h1 : ¬ (97 ≤ b st ∧ b st ≤ 122)) (h2 : 48 ≤ b st ∧ b st ≤ 57) : tok b tl p = (st, rn b tl 48 57 st, if rn b tl 48 57 st - st ≤ 2 then 2 else 4, vl b st (rn b tl 48 57 st)) := by
  unfold tok
  rw [e, if_neg (by omega), if_neg h1, if_pos h2]
theorem tok_3 {b : Nat → Nat} {tl p st : Nat} (e : rn b tl 32 32 p = st) (h : st < tl) (h1 : ¬ (97 ≤ b st ∧ b st ≤ 122)) (h2 : ¬ (48 ≤ b st ∧ b st ≤ 57)) : tok b tl p = (st, st + 1, if b st = 59 then 3 else 4, 0) := by
  unfold tok
  rw [e, if_neg (by omega), if_neg h1, if_neg h2]
theorem tok_le {b : Nat → Nat} {tl p : Nat} (h : p ≤ tl) : p ≤ (tok b tl p).1 ∧ (tok b tl p).1 ≤ (tok b tl p).2.1 ∧ (tok b tl p).2.1 ≤ tl ∧ (tok b tl p).2.2.1 ≤ 4 ∧ ((tok b tl p).2.2.1 ≠ 0 → (tok b tl p).1 < (tok b tl p).2.1) ∧ (tok b tl p).2.2.2 < 100 := by
  obtain ⟨st, e⟩ : ∃ st, rn b tl 32 32 p = st := ⟨_, rfl⟩
  obtain ⟨q1, q2, -⟩ := rnb_le (b := b) (tl := tl) (lo := 32) (hi := 32) (tl - p) p (by omega)
  rw [e] at q1 q2
  by_cases h0 : tl ≤ st
  · rw [tok_0 e h0]
    exact ⟨q1, Nat.le_refl _, q2, show (0 : Nat) ≤ 4 by decide, fun q => absurd rfl q, show (0 : Nat) < 100 by decide⟩
  · by_cases h1 : 97 ≤ b st ∧ b st ≤ 122
    · rw [tok_1 e (by omega) h1]
      obtain ⟨z1, z2, -⟩ := rnb_le (b := b) (tl := tl) (lo := 97) (hi := 122) (tl - st) st (by omega)
      exact ⟨q1, z1, z2, show (1 : Nat) ≤ 4 by decide, fun _ => rn_lt (by omega) h1.1 h1.2, show (0 : Nat) < 100 by decide⟩
    · by_cases h2 : 48 ≤ b st ∧ b st ≤ 57
      · rw [tok_2 e (by omega) h1 h2]
        obtain ⟨z1, z2, z3⟩ := rnb_le (b := b) (tl := tl) (lo := 48) (hi := 57) (tl - st) st (by omega)
        have z4 : st < rn b tl 48 57 st := rn_lt (by omega) h2.1 h2.2
        refine ⟨q1, z1, z2, ?_, fun _ => z4, ?_⟩
        · show (if rn b tl 48 57 st - st ≤ 2 then 2 else 4) ≤ 4
          by_cases h3 : rn b tl 48 57 st - st ≤ 2
          · rw [if_pos h3]; omega
          · rw [if_neg h3]; omega
        · show vl b st (rn b tl 48 57 st) < 100
          unfold vl
          by_cases h3 : rn b tl 48 57 st = st + 1
          · rw [if_pos h3]; omega
          · rw [if_neg h3]
            have := z3 (st + 1) (by omega) (by omega)
            omega
      · rw [tok_3 e (by omega) h1 h2]
        refine ⟨q1, Nat.le_succ _, by show st + 1 ≤ tl; omega, ?_, fun _ => Nat.lt_succ_self _, by show 0 < 100; omega⟩
        show (if b st = 59 then 3 else 4) ≤ 4
        by_cases h3 : b st = 59
        · rw [if_pos h3]; omega
        · rw [if_neg h3]; omega
/-- the class holds the text b of tl bytes; the reference does -/
def TX (T : TT) (b : Nat → Nat) (tl : Nat) : Prop := T.2.1 5 1 = nI tl ∧ ∀ j, j < tl → b j < 128 ∧ T.1 5 1 j = nI (b j)
def TM (T : TT) (b : Nat → Nat) (tl : Nat) : Prop := T.2.1 10 13 = nI tl ∧ ∀ j, j < tl → b j < 128 ∧ T.1 10 8 j = nI (b j)
theorem TX.sI {T : TT} {b : Nat → Nat} {tl g k : Nat} {x : Int32} (h : TX T b tl) (hk : ¬ (5 = g ∧ 1 = k)) : TX (sI T g k x) b tl := ⟨by rw [sI_v, if_neg hk]; exact h.1, h.2⟩
theorem TM.sI {T : TT} {b : Nat → Nat} {tl g k : Nat} {x : Int32} (h : TM T b tl) (hk : ¬ (10 = g ∧ 13 = k)) : TM (sI T g k x) b tl := ⟨by rw [sI_v, if_neg hk]; exact h.1, h.2⟩
theorem TX.fr {T T' : TT} {b : Nat → Nat} {tl : Nat} (h : TX T b tl) (h1 : T'.1 5 1 = T.1 5 1) (h2 : T'.2.1 5 1 = T.2.1 5 1) : TX T' b tl := ⟨by rw [h2]; exact h.1, by rw [h1]; exact h.2⟩
theorem TM.fr {T T' : TT} {b : Nat → Nat} {tl : Nat} (h : TM T b tl) (h1 : T'.1 10 8 = T.1 10 8) (h2 : T'.2.1 10 13 = T.2.1 10 13) : TM T' b tl := ⟨by rw [h2]; exact h.1, by rw [h1]; exact h.2⟩
theorem isB_v {T : TT} {b : Nat → Nat} {tl p lo hi : Nat} (h : TX T b tl) (ht : tl ≤ 64) (hp : p < tl) (hlo : lo < 128) (hhi : hi < 128) : m_X9_isBetween T (nI p) (nI lo) (nI hi) = some (if lo ≤ b p ∧ b p ≤ hi then 1 else 0) := by
  unfold m_X9_isBetween
  obtain ⟨hb, e⟩ := h.2 p hp
  have e' : T.1 5 1 (nI p).toNatClampNeg = nI (b p) := by rw [cl_n (by omega)]; exact e
  rw [if_neg (nI_pos (by omega)), h.1, if_neg (nI_ge hp (by omega)), if_pos (inb_n (by omega) (by decide)), e']
  by_cases h1 : b p < lo
  · rw [if_pos (nI_lt h1 (by omega)), if_neg (by omega)]
  · rw [if_neg (nI_nlt (by omega) (by omega)), if_pos (inb_n (by omega) (by decide))]
    by_cases h2 : hi < b p
    · rw [if_pos (nI_lt h2 (by omega)), if_neg (by omega)]
    · rw [if_neg (nI_nlt (by omega) (by omega)), if_pos (by omega)]
theorem rE_c {T : TT} {b : Nat → Nat} {tl lo hi : Nat} (h : TX T b tl) (ht : tl ≤ 64) (hlo : lo < 128) (hhi : hi < 128) : ∀ m p n : Nat, p + m = tl → m < n → m_X9_runEnd_l3 T n (nI lo) (nI hi) (nI p) = some (nI (rn b tl lo hi p)) := by
  intro m
  induction m with
  | zero =>
    intro p n hp hn
    obtain ⟨n, rfl⟩ : ∃ q, n = q + 1 := ⟨n - 1, by omega⟩
    show m_X9_runEnd_h3 _ _ _ _ _ = _
    unfold m_X9_runEnd_h3
    rw [h.1, if_pos (nI_le (by omega) (by omega)), rn_e (fun q => by omega)]
  | succ m ih =>
    intro p n hp hn
    obtain ⟨n, rfl⟩ : ∃ q, n = q + 1 := ⟨n - 1, by omega⟩
    show m_X9_runEnd_h3 _ _ _ _ _ = _
    unfold m_X9_runEnd_h3
    rw [h.1, if_neg (nI_ge (by omega) (by omega)), isB_v h ht (by omega) hlo hhi, Option.bind_some]
    by_cases c : lo ≤ b p ∧ b p ≤ hi
    · rw [if_pos c, if_neg (by decide), bT_v, nI_1, rn_s (by omega) c.1 c.2]
      exact ih (p + 1) n (by omega) (by omega)
    · rw [if_neg c, if_pos rfl, rn_e (fun q => c q.2)]
theorem rE_v {T : TT} {b : Nat → Nat} {tl lo hi p : Nat} (h : TX T b tl) (ht : tl ≤ 64) (hlo : lo < 128) (hhi : hi < 128) (hp : p ≤ tl) : m_X9_runEnd T (nI p) (nI lo) (nI hi) = some (nI (rn b tl lo hi p)) := rE_c h ht hlo hhi (tl - p) p FU (by omega) (FU_lt (by omega))
theorem dig {b : Nat → Nat} {k v : Nat} (h : 48 ≤ b k) : (10 : Int32) * nI v + nI (b k) - 48 = nI (10 * v + (b k - 48)) := by
  have e1 : (10 : Int32) * nI v = nI (10 * v) := pk_mul 10 v
  have e2 : nI (10 * v + b k) - 48 = nI (10 * v + b k - 48) := pk_sub (a := 10 * v + b k) (b := 48) (by omega)
  rw [e1, ad_n, e2]
  exact congrArg nI (by omega)
theorem vR_v {T : TT} {b : Nat → Nat} {tl st en : Nat} (h : TX T b tl) (ht : tl ≤ 64) (h2 : T.2.1 5 2 = nI st) (h8 : T.2.1 5 8 = nI en) (hs : st < en) (he : en ≤ tl) (hd : ∀ j, st ≤ j → j < en → 48 ≤ b j ∧ b j ≤ 57) : m_X9_valueOfRun T = some (nI (vl b st en)) := by
  have key : ∀ n : Nat, m_X9_valueOfRun_l7 T (n + 3) 0 (nI st) = some (nI (vl b st en)) := fun n => by
    show m_X9_valueOfRun_h7 T (m_X9_valueOfRun_l7 T (n + 2)) 0 (nI st) = _
    unfold m_X9_valueOfRun_h7
    have e2 : nI st + 2 = nI (st + 2) := ad_n st 2
    have a0 := (h.2 st (by omega)).2
    have d0 : (10 : Int32) * 0 + nI (b st) - 48 = nI (10 * 0 + (b st - 48)) := dig (v := 0) (hd st (by omega) hs).1
    rw [h8, if_neg (nI_ge hs (by omega)), h2, e2, if_neg (nI_ge (by omega) (by omega)), if_pos (inb_n (by omega) (by decide)), cl_n (by omega), a0, d0, bT_v, bT_v, nI_1]
    show m_X9_valueOfRun_h7 T (m_X9_valueOfRun_l7 T (n + 1)) _ (nI (st + 1)) = _
    unfold m_X9_valueOfRun_h7 vl
    rw [h8]
    by_cases c : en = st + 1
    · rw [if_pos (nI_le (by omega) (by omega)), if_pos c]
      exact congrArg (fun q => some (nI q)) (by omega)
    · have a1 := (h.2 (st + 1) (by omega)).2
      rw [if_neg (nI_ge (by omega) (by omega)), if_neg c, h2, e2, if_neg (nI_ge (by omega) (by omega)), if_pos (inb_n (by omega) (by decide)), cl_n (by omega), a1, dig (hd (st + 1) (by omega) (by omega)).1, bT_v, bT_v, nI_1]
      show m_X9_valueOfRun_h7 T (m_X9_valueOfRun_l7 T n) _ (nI (st + 1 + 1)) = _
      unfold m_X9_valueOfRun_h7
      rw [h8, h2, e2]
      by_cases c2 : en ≤ st + 1 + 1
      · rw [if_pos (nI_le (by omega) (by omega))]
        exact congrArg (fun q => some (nI q)) (by omega)
      · rw [if_neg (nI_ge (by omega) (by omega)), if_pos (nI_le (by omega) (by omega))]
        exact congrArg (fun q => some (nI q)) (by omega)
  unfold m_X9_valueOfRun
  rw [h2, bT_v]
  exact key 999997
/-- what the class holds of the token from p on -/
def CT (T : TT) (b : Nat → Nat) (tl p : Nat) : Prop := T.2.1 5 2 = nI (tok b tl p).1 ∧ T.2.1 5 8 = nI (tok b tl p).2.1 ∧ T.2.1 5 7 = nI (tok b tl p).2.2.1 ∧ ((tok b tl p).2.2.1 = 2 → T.2.1 5 9 = nI (tok b tl p).2.2.2)
def MT (T : TT) (b : Nat → Nat) (tl p : Nat) : Prop := T.2.1 10 14 = nI (tok b tl p).1 ∧ T.2.1 10 15 = nI ((tok b tl p).2.1 - (tok b tl p).1) ∧ T.2.1 10 16 = nI (tok b tl p).2.2.1 ∧ ((tok b tl p).2.2.1 = 2 → T.2.1 10 17 = nI (tok b tl p).2.2.2)
theorem adv_v {T : TT} {b : Nat → Nat} {tl p : Nat} (h : TX T b tl) (ht : tl ≤ 64) (hp : p ≤ tl) (h8 : T.2.1 5 8 = nI p) : ∃ T', m_X9_advance T = some T' ∧ CT T' b tl p := by
  obtain ⟨st, e⟩ : ∃ st, rn b tl 32 32 p = st := ⟨_, rfl⟩
  obtain ⟨q1, q2, -⟩ := rnb_le (b := b) (tl := tl) (lo := 32) (hi := 32) (tl - p) p (by omega)
  rw [e] at q1 q2
  have hz : m_X9_runEnd T (nI p) 32 32 = some (nI st) := by rw [← e]; exact rE_v h ht (lo := 32) (hi := 32) (by decide) (by decide) hp
  unfold m_X9_advance
  rw [h8, hz, Option.bind_some, bT_v, bT_v]
  generalize hT3 : sI (sI T 5 2 (nI st)) 5 8 ((sI T 5 2 (nI st)).2.1 5 2) = T3
  have x2 : T3.2.1 5 2 = nI st := by rw [← hT3, sI_v, if_neg (by omega), sI_v, if_pos ⟨rfl, rfl⟩]
  have x8 : T3.2.1 5 8 = nI st := by rw [← hT3, sI_v, if_pos ⟨rfl, rfl⟩, sI_v, if_pos ⟨rfl, rfl⟩]
  have hX : TX T3 b tl := by rw [← hT3]; exact (h.sI (by omega)).sI (by omega)
  rw [x2, hX.1]
  by_cases h0 : tl ≤ st
  · rw [if_neg (nI_nlt h0 (by omega)), bT_v]
    refine ⟨_, rfl, ?_⟩
    unfold CT
    rw [tok_0 e h0]
    refine ⟨by rw [sI_v, if_neg (by omega)]; exact x2, by rw [sI_v, if_neg (by omega)]; exact x8, by rw [sI_v, if_pos ⟨rfl, rfl⟩]; rfl, fun q => absurd (show (0 : Nat) = 2 from q) (by decide)⟩
  · have hlt : st < tl := by omega
    have b1 : m_X9_isBetween T3 (nI st) 97 122 = some (if 97 ≤ b st ∧ b st ≤ 122 then 1 else 0) := isB_v hX ht hlt (lo := 97) (hi := 122) (by decide) (by decide)
    rw [if_pos (nI_lt hlt (by omega)), b1, Option.bind_some]
    by_cases h1 : 97 ≤ b st ∧ b st ≤ 122
    · have z1 : m_X9_runEnd (sI T3 5 7 1) (nI st) 97 122 = some (nI (rn b tl 97 122 st)) := rE_v (hX.sI (by omega)) ht (lo := 97) (hi := 122) (by decide) (by decide) (by omega)
      have y2 : (sI T3 5 7 1).2.1 5 2 = nI st := by rw [sI_v, if_neg (by omega)]; exact x2
      rw [if_pos h1, if_neg (by decide), bT_v, y2, z1, Option.bind_some, bT_v]
      refine ⟨_, rfl, ?_⟩
      unfold CT
      rw [tok_1 e hlt h1]
      refine ⟨by rw [sI_v, if_neg (by omega)]; exact y2, by rw [sI_v, if_pos ⟨rfl, rfl⟩], by rw [sI_v, if_neg (by omega), sI_v, if_pos ⟨rfl, rfl⟩]; rfl, fun q => absurd (show (1 : Nat) = 2 from q) (by decide)⟩
    · have b2 : m_X9_isBetween T3 (nI st) 48 57 = some (if 48 ≤ b st ∧ b st ≤ 57 then 1 else 0) := isB_v hX ht hlt (lo := 48) (hi := 57) (by decide) (by decide)
      rw [if_neg h1, if_pos rfl, b2, Option.bind_some]
      by_cases h2 : 48 ≤ b st ∧ b st ≤ 57
      · obtain ⟨r1, r2, r3⟩ := rnb_le (b := b) (tl := tl) (lo := 48) (hi := 57) (tl - st) st (by omega)
        have r4 : st < rn b tl 48 57 st := rn_lt hlt h2.1 h2.2
        have z1 : m_X9_runEnd T3 (nI st) 48 57 = some (nI (rn b tl 48 57 st)) := rE_v hX ht (lo := 48) (hi := 57) (by decide) (by decide) (by omega)
        have tk := tok_2 e hlt h1 h2
        generalize hen : rn b tl 48 57 st = en at z1 r1 r2 r3 r4 tk
        rw [if_pos h2, if_neg (by decide), z1, Option.bind_some, bT_v]
        generalize hT8 : sI T3 5 8 (nI en) = T8
        have w2 : T8.2.1 5 2 = nI st := by rw [← hT8, sI_v, if_neg (by omega)]; exact x2
        have w8 : T8.2.1 5 8 = nI en := by rw [← hT8, sI_v, if_pos ⟨rfl, rfl⟩]
        have hX8 : TX T8 b tl := by rw [← hT8]; exact hX.sI (by omega)
        have hb : ∀ s1 : Int32, ∃ T', m_X9_advance_b132 T8 s1 = some T' ∧ T'.2.1 5 2 = nI st ∧ T'.2.1 5 8 = nI en ∧ T'.2.1 5 7 = s1 ∧ T'.2.1 5 9 = nI (vl b st en) := fun s1 => by
          unfold m_X9_advance_b132
          have u2 : (sI T8 5 7 s1).2.1 5 2 = nI st := by rw [sI_v, if_neg (by omega)]; exact w2
          have u8 : (sI T8 5 7 s1).2.1 5 8 = nI en := by rw [sI_v, if_neg (by omega)]; exact w8
          have u7 : (sI T8 5 7 s1).2.1 5 7 = s1 := by rw [sI_v, if_pos ⟨rfl, rfl⟩]
          rw [bT_v, vR_v (hX8.sI (by omega)) ht u2 u8 r4 r2 r3, Option.bind_some, bT_v]
          exact ⟨_, rfl, by rw [sI_v, if_neg (by omega)]; exact u2, by rw [sI_v, if_neg (by omega)]; exact u8, by rw [sI_v, if_neg (by omega)]; exact u7, by rw [sI_v, if_pos ⟨rfl, rfl⟩]⟩
        rw [w8, w2, pk_sub (by omega)]
        unfold CT
        rw [tk]
        by_cases h3 : en - st ≤ 2
        · have h3' : ¬ (2 : Int32) < nI (en - st) := nI_nlt (a := 2) (by omega) (by decide)
          obtain ⟨T', f1, f2, f3, f4, f5⟩ := hb 2
          rw [if_neg h3']
          refine ⟨T', f1, f2, f3, ?_, fun _ => f5⟩
          show _ = nI (if en - st ≤ 2 then 2 else 4)
          rw [if_pos h3]
          exact f4
        · have h3' : (2 : Int32) < nI (en - st) := nI_lt (a := 2) (by omega) (by omega)
          obtain ⟨T', f1, f2, f3, f4, f5⟩ := hb 4
          rw [if_pos h3']
          refine ⟨T', f1, f2, f3, ?_, fun _ => f5⟩
          show _ = nI (if en - st ≤ 2 then 2 else 4)
          rw [if_neg h3]
          exact f4
      · have tk := tok_3 e hlt h1 h2
        have hb : ∀ s1 : Int32, ∃ T', m_X9_advance_b166 T3 s1 = some T' ∧ T'.2.1 5 2 = nI st ∧ T'.2.1 5 8 = nI (st + 1) ∧ T'.2.1 5 7 = s1 := fun s1 => by
          unfold m_X9_advance_b166
          have u2 : (sI T3 5 7 s1).2.1 5 2 = nI st := by rw [sI_v, if_neg (by omega)]; exact x2
          have u7 : (sI T3 5 7 s1).2.1 5 7 = s1 := by rw [sI_v, if_pos ⟨rfl, rfl⟩]
          rw [bT_v, bT_v, u2, nI_1]
          exact ⟨_, rfl, by rw [sI_v, if_neg (by omega)]; exact u2, by rw [sI_v, if_pos ⟨rfl, rfl⟩], by rw [sI_v, if_neg (by omega)]; exact u7⟩
        rw [if_neg h2, if_pos rfl, if_pos (inb_n (by omega) (by decide)), cl_n (by omega), (hX.2 st hlt).2]
        have hbs := (hX.2 st hlt).1
        unfold CT
        rw [tk]
        by_cases h3 : b st = 59
        · have h3' : nI (b st) = 59 := by rw [h3]; rfl
          obtain ⟨T', f1, f2, f3, f4⟩ := hb 3
          rw [if_pos h3']
          refine ⟨T', f1, f2, f3, ?_, fun q => absurd (show (if b st = 59 then 3 else 4) = 2 from q) (by rw [if_pos h3]; decide)⟩
          show _ = nI (if b st = 59 then 3 else 4)
          rw [if_pos h3]
          exact f4
        · have h3' : ¬ nI (b st) = 59 := fun q => h3 ((nI_eq (b := 59) (by omega) (by decide)).mp q)
          obtain ⟨T', f1, f2, f3, f4⟩ := hb 4
          rw [if_neg h3']
          refine ⟨T', f1, f2, f3, ?_, fun q => absurd (show (if b st = 59 then 3 else 4) = 2 from q) (by rw [if_neg h3]; decide)⟩
          show _ = nI (if b st = 59 then 3 else 4)
          rw [if_neg h3]
          exact f4
