/-! THE LAW'S LOOP -/
theorem opk {n : Nat} {x : Option (Int32 × TT)} {y : TT → Option (Int32 × TT)} {k : TT → Option Unit} (ho : Op n x y) (hk : ∀ T', Inv (n + 1) T' → k T' = some ()) : x.bind (fun z => (y z.2).bind (fun w => if z.1 = w.1 then k w.2 else none)) = some () := by
  obtain ⟨r, T1, T2, e1, e2, e3⟩ := ho
  rw [e1, Option.bind_some]
  show (y T1).bind _ = _
  rw [e2, Option.bind_some, if_pos rfl]
  exact hk T2 e3
theorem cmp0 (r : Int64) : lg_cmp r r = 0 := by
  unfold lg_cmp
  simp
theorem opl {n : Nat} {x : Option (Int64 × TT)} {y : TT → Option (Int64 × TT)} {k : TT → Option Unit} (ho : Op n x y) (hk : ∀ T', Inv (n + 1) T' → k T' = some ()) : x.bind (fun z => (y z.2).bind (fun w => if (lg_cmp z.1 w.1) = 0 then k w.2 else none)) = some () := by
  obtain ⟨r, T1, T2, e1, e2, e3⟩ := ho
  rw [e1, Option.bind_some]
  show (y T1).bind _ = _
  rw [e2, Option.bind_some, if_pos (cmp0 r)]
  exact hk T2 e3
set_option maxHeartbeats 4000000 in
set_option maxRecDepth 100000 in
theorem law_step {L n : Nat} {xs : Nat → Int32} {T : TT} {rec18 : TT → Int32 → Option Unit} (hL : L ≤ 448) (hnL : 7 * n + 7 ≤ L) (h : Inv n T) (hrec : ∀ T', Inv (n + 1) T' → rec18 T' (nI (7 * (n + 1))) = some ()) : m_L_law_h18 L xs rec18 T (nI (7 * n)) = some () := by
  have hn : n < 64 := by omega
  have hb : ∀ T', Inv (n + 1) T' → m_L_law_b1089 L xs rec18 T' (nI (7 * n)) = some () := fun T' q => by
    unfold m_L_law_b1089
    have e : nI (7 * n) + 7 = nI (7 * (n + 1)) := ad_n (7 * n) 7
    rw [bT_v, e]
    exact hrec T' q
  have i0 : inb (nI (7 * n)) L := inb_n (by omega) (by omega)
  have i1 : inb (nI (7 * n) + 1) L := by rw [show nI (7 * n) + 1 = nI (7 * n + 1) from ad_n (7 * n) 1]; exact inb_n (by omega) (by omega)
  have i2 : inb (nI (7 * n) + 2) L := by rw [show nI (7 * n) + 2 = nI (7 * n + 2) from ad_n (7 * n) 2]; exact inb_n (by omega) (by omega)
  have i3 : inb (nI (7 * n) + 3) L := by rw [show nI (7 * n) + 3 = nI (7 * n + 3) from ad_n (7 * n) 3]; exact inb_n (by omega) (by omega)
  have i4 : inb (nI (7 * n) + 4) L := by rw [show nI (7 * n) + 4 = nI (7 * n + 4) from ad_n (7 * n) 4]; exact inb_n (by omega) (by omega)
  have i5 : inb (nI (7 * n) + 5) L := by rw [show nI (7 * n) + 5 = nI (7 * n + 5) from ad_n (7 * n) 5]; exact inb_n (by omega) (by omega)
  have i6 : inb (nI (7 * n) + 6) L := by rw [show nI (7 * n) + 6 = nI (7 * n + 6) from ad_n (7 * n) 6]; exact inb_n (by omega) (by omega)
  have hl : ¬ (Int32.ofNat L - 7) < nI (7 * n) := fun q => by
    have e2 : (Int32.ofNat L - 7).toInt = (L : Int) - (7 : Nat) := pk_sub_toInt (a := L) (b := 7) (by omega) (by decide)
    rw [i32lt, e2, nI_toInt (by omega)] at q
    omega
  unfold m_L_law_h18
  rw [if_neg hl, if_pos i0]
  generalize xs (Int32.toNatClampNeg (nI (7 * n))) &&& 31 = v
  by_cases c0 : v = (0 : Int32)
  · rw [if_pos c0]
    exact opk (k := fun T' => m_L_law_b1089 L xs rec18 T' (nI (7 * n))) (op_rank hn h ) hb
  rw [if_neg c0]
  by_cases c1 : v = (1 : Int32)
  · rw [if_pos c1]
    simp only [if_pos i1, if_pos i2]
    exact opk (k := fun T' => m_L_law_b1089 L xs rec18 T' (nI (7 * n))) (op_driver hn h (xs (Int32.toNatClampNeg (nI (7 * n) + 1))) (xs (Int32.toNatClampNeg (nI (7 * n) + 2)))) hb
  rw [if_neg c1]
  by_cases c2 : v = (2 : Int32)
  · rw [if_pos c2]
    simp only [if_pos i1]
    exact opk (k := fun T' => m_L_law_b1089 L xs rec18 T' (nI (7 * n))) (op_type hn h (xs (Int32.toNatClampNeg (nI (7 * n) + 1)))) hb
  rw [if_neg c2]
  by_cases c3 : v = (3 : Int32)
  · rw [if_pos c3]
    exact opk (k := fun T' => m_L_law_b1089 L xs rec18 T' (nI (7 * n))) (op_clear hn h ) hb
  rw [if_neg c3]
  by_cases c4 : v = (4 : Int32)
  · rw [if_pos c4]
    exact opk (k := fun T' => m_L_law_b1089 L xs rec18 T' (nI (7 * n))) (op_read hn h ) hb
  rw [if_neg c4]
  by_cases c5 : v = (5 : Int32)
  · rw [if_pos c5]
    simp only [if_pos i1, if_pos i2]
    exact opk (k := fun T' => m_L_law_b1089 L xs rec18 T' (nI (7 * n))) (op_days hn h (xs (Int32.toNatClampNeg (nI (7 * n) + 1))) (xs (Int32.toNatClampNeg (nI (7 * n) + 2)))) hb
  rw [if_neg c5]
  by_cases c6 : v = (6 : Int32)
  · rw [if_pos c6]
    simp only [if_pos i1, if_pos i2]
    exact opk (k := fun T' => m_L_law_b1089 L xs rec18 T' (nI (7 * n))) (op_day hn h (xs (Int32.toNatClampNeg (nI (7 * n) + 1))) (xs (Int32.toNatClampNeg (nI (7 * n) + 2)))) hb
  rw [if_neg c6]
  by_cases c7 : v = (7 : Int32)
  · rw [if_pos c7]
    exact opk (k := fun T' => m_L_law_b1089 L xs rec18 T' (nI (7 * n))) (op_undo hn h ) hb
  rw [if_neg c7]
  by_cases c8 : v = (8 : Int32)
  · rw [if_pos c8]
    simp only [if_pos i1, if_pos i2]
    exact opk (k := fun T' => m_L_law_b1089 L xs rec18 T' (nI (7 * n))) (op_of hn h (xs (Int32.toNatClampNeg (nI (7 * n) + 1))) (xs (Int32.toNatClampNeg (nI (7 * n) + 2)))) hb
  rw [if_neg c8]
  by_cases c9 : v = (9 : Int32)
  · rw [if_pos c9]
    simp only [if_pos i1, if_pos i2]
    exact opk (k := fun T' => m_L_law_b1089 L xs rec18 T' (nI (7 * n))) (op_today hn h (xs (Int32.toNatClampNeg (nI (7 * n) + 1))) (xs (Int32.toNatClampNeg (nI (7 * n) + 2)))) hb
  rw [if_neg c9]
  by_cases c10 : v = (10 : Int32)
  · rw [if_pos c10]
    simp only [if_pos i1, if_pos i2, if_pos i3, if_pos i4]
    exact opk (k := fun T' => m_L_law_b1089 L xs rec18 T' (nI (7 * n))) (op_then hn h (xs (Int32.toNatClampNeg (nI (7 * n) + 1))) (xs (Int32.toNatClampNeg (nI (7 * n) + 2))) (xs (Int32.toNatClampNeg (nI (7 * n) + 3))) (xs (Int32.toNatClampNeg (nI (7 * n) + 4)))) hb
  rw [if_neg c10]
  by_cases c11 : v = (11 : Int32)
  · rw [if_pos c11]
    simp only [if_pos i1]
    exact opk (k := fun T' => m_L_law_b1089 L xs rec18 T' (nI (7 * n))) (op_over hn h (xs (Int32.toNatClampNeg (nI (7 * n) + 1)))) hb
  rw [if_neg c11]
  by_cases c12 : v = (12 : Int32)
  · rw [if_pos c12]
    simp only [if_pos i1, if_pos i2, if_pos i3]
    exact opk (k := fun T' => m_L_law_b1089 L xs rec18 T' (nI (7 * n))) (op_most hn h (xs (Int32.toNatClampNeg (nI (7 * n) + 1))) (xs (Int32.toNatClampNeg (nI (7 * n) + 2))) (xs (Int32.toNatClampNeg (nI (7 * n) + 3)))) hb
  rw [if_neg c12]
  by_cases c13 : v = (13 : Int32)
  · rw [if_pos c13]
    simp only [if_pos i1, if_pos i2]
    exact opk (k := fun T' => m_L_law_b1089 L xs rec18 T' (nI (7 * n))) (op_soonest hn h (xs (Int32.toNatClampNeg (nI (7 * n) + 1))) (xs (Int32.toNatClampNeg (nI (7 * n) + 2)))) hb
  rw [if_neg c13]
  by_cases c14 : v = (14 : Int32)
  · rw [if_pos c14]
    simp only [if_pos i1, if_pos i2, if_pos i3]
    exact opk (k := fun T' => m_L_law_b1089 L xs rec18 T' (nI (7 * n))) (op_home hn h (xs (Int32.toNatClampNeg (nI (7 * n) + 1))) (xs (Int32.toNatClampNeg (nI (7 * n) + 2))) (xs (Int32.toNatClampNeg (nI (7 * n) + 3)))) hb
  rw [if_neg c14]
  by_cases c15 : v = (15 : Int32)
  · rw [if_pos c15]
    simp only [if_pos i1]
    exact opk (k := fun T' => m_L_law_b1089 L xs rec18 T' (nI (7 * n))) (op_tell hn h (xs (Int32.toNatClampNeg (nI (7 * n) + 1)))) hb
  rw [if_neg c15]
  by_cases c16 : v = (16 : Int32)
  · rw [if_pos c16]
    simp only [if_pos i1, if_pos i2, if_pos i3, if_pos i4, if_pos i5, if_pos i6]
    exact opk (k := fun T' => m_L_law_b1089 L xs rec18 T' (nI (7 * n))) (op_note hn h (xs (Int32.toNatClampNeg (nI (7 * n) + 1))) (xs (Int32.toNatClampNeg (nI (7 * n) + 2))) (xs (Int32.toNatClampNeg (nI (7 * n) + 3))) (xs (Int32.toNatClampNeg (nI (7 * n) + 4))) (xs (Int32.toNatClampNeg (nI (7 * n) + 5))) (xs (Int32.toNatClampNeg (nI (7 * n) + 6)))) hb
  rw [if_neg c16]
  by_cases c17 : v = (17 : Int32)
  · rw [if_pos c17]
    simp only [if_pos i1, if_pos i2, if_pos i3]
    exact opk (k := fun T' => m_L_law_b1089 L xs rec18 T' (nI (7 * n))) (op_gone hn h (xs (Int32.toNatClampNeg (nI (7 * n) + 1))) (xs (Int32.toNatClampNeg (nI (7 * n) + 2))) (xs (Int32.toNatClampNeg (nI (7 * n) + 3)))) hb
  rw [if_neg c17]
  by_cases c18 : v = (18 : Int32)
  · rw [if_pos c18]
    simp only [if_pos i1]
    exact opk (k := fun T' => m_L_law_b1089 L xs rec18 T' (nI (7 * n))) (op_forget hn h (xs (Int32.toNatClampNeg (nI (7 * n) + 1)))) hb
  rw [if_neg c18]
  by_cases c19 : v = (19 : Int32)
  · rw [if_pos c19]
    simp only [if_pos i1]
    exact opk (k := fun T' => m_L_law_b1089 L xs rec18 T' (nI (7 * n))) (op_is hn h (xs (Int32.toNatClampNeg (nI (7 * n) + 1)))) hb
  rw [if_neg c19]
  by_cases c20 : v = (20 : Int32)
  · rw [if_pos c20]
    simp only [if_pos i1]
    exact opk (k := fun T' => m_L_law_b1089 L xs rec18 T' (nI (7 * n))) (op_look hn h (xs (Int32.toNatClampNeg (nI (7 * n) + 1)))) hb
  rw [if_neg c20]
  by_cases c21 : v = (21 : Int32)
  · rw [if_pos c21]
    simp only [if_pos i1, if_pos i2]
    exact opk (k := fun T' => m_L_law_b1089 L xs rec18 T' (nI (7 * n))) (op_had hn h (xs (Int32.toNatClampNeg (nI (7 * n) + 1))) (xs (Int32.toNatClampNeg (nI (7 * n) + 2)))) hb
  rw [if_neg c21]
  by_cases c22 : v = (22 : Int32)
  · rw [if_pos c22]
    simp only [if_pos i1, if_pos i2]
    exact opk (k := fun T' => m_L_law_b1089 L xs rec18 T' (nI (7 * n))) (op_fares hn h (xs (Int32.toNatClampNeg (nI (7 * n) + 1))) (xs (Int32.toNatClampNeg (nI (7 * n) + 2)))) hb
  rw [if_neg c22]
  by_cases c23 : v = (23 : Int32)
  · rw [if_pos c23]
    simp only [if_pos i1, if_pos i2, if_pos i3]
    exact opk (k := fun T' => m_L_law_b1089 L xs rec18 T' (nI (7 * n))) (op_starts hn h (xs (Int32.toNatClampNeg (nI (7 * n) + 1))) (xs (Int32.toNatClampNeg (nI (7 * n) + 2))) (xs (Int32.toNatClampNeg (nI (7 * n) + 3)))) hb
  rw [if_neg c23]
  by_cases c24 : v = (24 : Int32)
  · rw [if_pos c24]
    simp only [if_pos i1, if_pos i2]
    exact opk (k := fun T' => m_L_law_b1089 L xs rec18 T' (nI (7 * n))) (op_years hn h (xs (Int32.toNatClampNeg (nI (7 * n) + 1))) (xs (Int32.toNatClampNeg (nI (7 * n) + 2)))) hb
  rw [if_neg c24]
  by_cases c25 : v = (25 : Int32)
  · rw [if_pos c25]
    simp only [if_pos i1]
    exact opl (k := fun T' => m_L_law_b1089 L xs rec18 T' (nI (7 * n))) (op_part hn h (xs (Int32.toNatClampNeg (nI (7 * n) + 1)))) hb
  rw [if_neg c25]
  by_cases c26 : v = (26 : Int32)
  · rw [if_pos c26]
    simp only [if_pos i1]
    exact opk (k := fun T' => m_L_law_b1089 L xs rec18 T' (nI (7 * n))) (op_image hn h (xs (Int32.toNatClampNeg (nI (7 * n) + 1)))) hb
  rw [if_neg c26]
  by_cases c27 : v = (27 : Int32)
  · rw [if_pos c27]
    simp only [if_pos i1]
    exact opk (k := fun T' => m_L_law_b1089 L xs rec18 T' (nI (7 * n))) (op_from hn h (xs (Int32.toNatClampNeg (nI (7 * n) + 1)))) hb
  rw [if_neg c27]
  by_cases c28 : v = (28 : Int32)
  · rw [if_pos c28]
    simp only [if_pos i1]
    exact opk (k := fun T' => m_L_law_b1089 L xs rec18 T' (nI (7 * n))) (op_status hn h (xs (Int32.toNatClampNeg (nI (7 * n) + 1)))) hb
  rw [if_neg c28]
  by_cases c29 : v = (29 : Int32)
  · rw [if_pos c29]
    simp only [if_pos i1]
    exact opk (k := fun T' => m_L_law_b1089 L xs rec18 T' (nI (7 * n))) (op_count hn h (xs (Int32.toNatClampNeg (nI (7 * n) + 1)))) hb
  rw [if_neg c29]
  by_cases c30 : v = (30 : Int32)
  · rw [if_pos c30]
    obtain ⟨r, e1, e2, e3⟩ := op_digest hn h
    rw [e1, Option.bind_some]
    show (m_X11_digest T).bind _ = _
    rw [e2, Option.bind_some, if_pos (cmp0 r)]
    exact hb T e3
  rw [if_neg c30]
  exact hb T (h.keep hn Fr.rf)
theorem law_all {L : Nat} {xs : Nat → Int32} (hL : L ≤ 448) : ∀ (m n f : Nat) (T : TT), n + m = 64 → m < f → Inv n T → m_L_law_l18 L xs f T (nI (7 * n)) = some () := by
  intro m
  induction m with
  | zero =>
    intro n f T hn hf h
    obtain ⟨f, rfl⟩ : ∃ q, f = q + 1 := ⟨f - 1, by omega⟩
    show m_L_law_h18 L xs (m_L_law_l18 L xs f) T (nI (7 * n)) = _
    unfold m_L_law_h18
    have hl : (Int32.ofNat L - 7) < nI (7 * n) := by
      have e2 : (Int32.ofNat L - 7).toInt = (L : Int) - (7 : Nat) := pk_sub_toInt (a := L) (b := 7) (by omega) (by decide)
      rw [i32lt, e2, nI_toInt (by omega)]
      omega
    rw [if_pos hl]
  | succ m ih =>
    intro n f T hn hf h
    obtain ⟨f, rfl⟩ : ∃ q, f = q + 1 := ⟨f - 1, by omega⟩
    show m_L_law_h18 L xs (m_L_law_l18 L xs f) T (nI (7 * n)) = _
    by_cases c : 7 * n + 7 ≤ L
    · exact law_step hL c h (fun T' h' => ih (n + 1) f T' (by omega) (by omega) h')
    · unfold m_L_law_h18
      have hl : (Int32.ofNat L - 7) < nI (7 * n) := by
        have e2 : (Int32.ofNat L - 7).toInt = (L : Int) - (7 : Nat) := pk_sub_toInt (a := L) (b := 7) (by omega) (by decide)
        rw [i32lt, e2, nI_toInt (by omega)]
        omega
      rw [if_pos hl]
