def m_X10_bestMorning_b55 (rec9 : TT → Int32 → Int32 → Int32 → Int32 → Int32 → Option (Int32 × TT)) (rec18 : TT → Int32 → Int32 → Int32 → Int32 → Int32 → Int32 → Option (Int32 × TT)) (T : TT) (x1 : Int32) (x2 : Int32) (x3 : Int32) (x4 : Int32) (x5 : Int32) (x6 : Int32) : Option (Int32 × TT) := bT (x6 + (1 : Int32)) (fun y7 => rec18 T x1 x2 x3 x4 x5 y7)
def m_X10_bestMorning_h18 (rec9 : TT → Int32 → Int32 → Int32 → Int32 → Int32 → Option (Int32 × TT)) (rec18 : TT → Int32 → Int32 → Int32 → Int32 → Int32 → Int32 → Option (Int32 × TT)) (T : TT) (x1 : Int32) (x2 : Int32) (x3 : Int32) (x4 : Int32) (x5 : Int32) (x6 : Int32) : Option (Int32 × TT) := if (3 : Int32) ≤ x6 then (bT (x5 + (1 : Int32)) (fun y2 => rec9 T x1 x2 x3 x4 y2)) else ((m_X10_mostAlike T x1 x5 x2 x6).bind (fun z3 => if x3 ≤ z3.1 then (m_X10_bestMorning_b55 rec9 rec18 z3.2 x1 x2 x3 x4 x5 x6) else (bT (((10 : Int32) * x5) + x6) (fun y4 => m_X10_bestMorning_b55 rec9 rec18 z3.2 x1 x2 z3.1 y4 x5 x6))))
def m_X10_bestMorning_l18 (rec9 : TT → Int32 → Int32 → Int32 → Int32 → Int32 → Option (Int32 × TT)) : Nat → TT → Int32 → Int32 → Int32 → Int32 → Int32 → Int32 → Option (Int32 × TT)
  | 0 => fun _ _ _ _ _ _ _ => none
  | n + 1 => fun T x1 x2 x3 x4 x5 x6 => m_X10_bestMorning_h18 rec9 (m_X10_bestMorning_l18 rec9 n) T x1 x2 x3 x4 x5 x6
def m_X10_bestMorning_h9 (rec9 : TT → Int32 → Int32 → Int32 → Int32 → Int32 → Option (Int32 × TT)) (T : TT) (x1 : Int32) (x2 : Int32) (x3 : Int32) (x4 : Int32) (x5 : Int32) : Option (Int32 × TT) := if (4 : Int32) ≤ x5 then (some (x4, T)) else (m_X10_bestMorning_l18 rec9 FU T x1 x2 x3 x4 x5 (0 : Int32))
def m_X10_bestMorning_l9 : Nat → TT → Int32 → Int32 → Int32 → Int32 → Int32 → Option (Int32 × TT)
  | 0 => fun _ _ _ _ _ _ => none
  | n + 1 => fun T x1 x2 x3 x4 x5 => m_X10_bestMorning_h9 (m_X10_bestMorning_l9 n) T x1 x2 x3 x4 x5
def m_X10_bestMorning (T : TT) (x1 : Int32) (x2 : Int32) : Option (Int32 × TT) := m_X10_bestMorning_l9 FU T x1 x2 (7 : Int32) (-1 : Int32) (0 : Int32)
set_option maxHeartbeats 4000000 in
set_option maxRecDepth 100000 in
theorem k_X10_bestMorning_b55 {B : KB} {X : KE} {rec9 : TT → Int32 → Int32 → Int32 → Int32 → Int32 → Option (Int32 × TT)} {rec18 : TT → Int32 → Int32 → Int32 → Int32 → Int32 → Int32 → Option (Int32 × TT)} {res : Int32 × TT} (C : Cx B X "GriefEngine" cX10_bestMorning 8 5) (E : Cr B X (some .int) (some (.int res.1)) res.2) (hrec9 : ∀ (T : TT) (x1 : Int32) (x2 : Int32) (x3 : Int32) (x4 : Int32) (x5 : Int32), rec9 T x1 x2 x3 x4 x5 = some res → Wk B X 8 T 9 [(0, .ref (B.1 4 0)), (1, .int x1), (2, .int x2), (3, .int x3), (4, .int x4), (5, .int x5)] []) (hrec18 : ∀ (T : TT) (x1 : Int32) (x2 : Int32) (x3 : Int32) (x4 : Int32) (x5 : Int32) (x6 : Int32), rec18 T x1 x2 x3 x4 x5 x6 = some res → Wk B X 8 T 18 [(0, .ref (B.1 4 0)), (1, .int x1), (2, .int x2), (3, .int x3), (4, .int x4), (5, .int x5), (6, .int x6)] []) (T : TT) (x1 : Int32) (x2 : Int32) (x3 : Int32) (x4 : Int32) (x5 : Int32) (x6 : Int32) (h : m_X10_bestMorning_b55 rec9 rec18 T x1 x2 x3 x4 x5 x6 = some res) : Wk B X 8 T 55 [(0, .ref (B.1 4 0)), (1, .int x1), (2, .int x2), (3, .int x3), (4, .int x4), (5, .int x5), (6, .int x6)] [] := by
  unfold m_X10_bestMorning_b55 at h
  refine k_iincN (pc := 55) (x := x6) (c := (1 : Int32)) C (fun y7 => [(6, .int y7), (0, .ref (B.1 4 0)), (1, .int x1), (2, .int x2), (3, .int x3), (4, .int x4), (5, .int x5)]) dX10_bestMorning_55 6 rfl ciconst_1 (by decide) (fun _ => rfl) h (fun y7 h => ?_)
  refine k_goto (pc := 58) C 18 dX10_bestMorning_58 (by decide) ?_
  refine k_sub [1, 2, 3, 4, 5, 6, 0] rfl ?_
  exact hrec18 T x1 x2 x3 x4 x5 y7 h
set_option maxHeartbeats 4000000 in
set_option maxRecDepth 100000 in
theorem k_X10_bestMorning_h18 {B : KB} {X : KE} {rec9 : TT → Int32 → Int32 → Int32 → Int32 → Int32 → Option (Int32 × TT)} {rec18 : TT → Int32 → Int32 → Int32 → Int32 → Int32 → Int32 → Option (Int32 × TT)} {res : Int32 × TT} (C : Cx B X "GriefEngine" cX10_bestMorning 8 5) (E : Cr B X (some .int) (some (.int res.1)) res.2) (hrec9 : ∀ (T : TT) (x1 : Int32) (x2 : Int32) (x3 : Int32) (x4 : Int32) (x5 : Int32), rec9 T x1 x2 x3 x4 x5 = some res → Wk B X 8 T 9 [(0, .ref (B.1 4 0)), (1, .int x1), (2, .int x2), (3, .int x3), (4, .int x4), (5, .int x5)] []) (hrec18 : ∀ (T : TT) (x1 : Int32) (x2 : Int32) (x3 : Int32) (x4 : Int32) (x5 : Int32) (x6 : Int32), rec18 T x1 x2 x3 x4 x5 x6 = some res → Wk B X 8 T 18 [(0, .ref (B.1 4 0)), (1, .int x1), (2, .int x2), (3, .int x3), (4, .int x4), (5, .int x5), (6, .int x6)] []) (T : TT) (x1 : Int32) (x2 : Int32) (x3 : Int32) (x4 : Int32) (x5 : Int32) (x6 : Int32) (h : m_X10_bestMorning_h18 rec9 rec18 T x1 x2 x3 x4 x5 x6 = some res) : Wk B X 8 T 18 [(0, .ref (B.1 4 0)), (1, .int x1), (2, .int x2), (3, .int x3), (4, .int x4), (5, .int x5), (6, .int x6)] [] := by
  unfold m_X10_bestMorning_h18 at h
  refine k_iload (pc := 18) C dX10_bestMorning_18 6 rfl ?_
  refine k_iconst (pc := 20) (v := (3 : Int32)) C dX10_bestMorning_20 ciconst_3 ?_
  refine k_icmp_ge (pc := 21) C 61 dX10_bestMorning_21 (by decide) h (fun c6 h => ?_) (fun c6 h => ?_)
  · refine k_iincN (pc := 61) (x := x5) (c := (1 : Int32)) C (fun y2 => [(5, .int y2), (0, .ref (B.1 4 0)), (1, .int x1), (2, .int x2), (3, .int x3), (4, .int x4), (6, .int x6)]) dX10_bestMorning_61 5 rfl ciconst_1 (by decide) (fun _ => rfl) h (fun y2 h => ?_)
    refine k_goto (pc := 64) C 9 dX10_bestMorning_64 (by decide) ?_
    refine k_sub [1, 2, 3, 4, 5, 0] rfl ?_
    exact hrec9 T x1 x2 x3 x4 y2 h
  · refine k_aload_n (pc := 24) C dX10_bestMorning_24 0 rfl ?_
    refine k_iload_n (pc := 25) C dX10_bestMorning_25 1 rfl ?_
    refine k_iload (pc := 26) C dX10_bestMorning_26 5 rfl ?_
    refine k_iload_n (pc := 28) C dX10_bestMorning_28 2 rfl ?_
    refine k_iload (pc := 29) C dX10_bestMorning_29 6 rfl ?_
    obtain ⟨z3, e3, h⟩ := bnd h
    refine k_callvI (pc := 31) C lk_X10_274 (by decide) ix_X10 wo_X10 rfl rfl (kc_X10_mostAlike e3) dX10_bestMorning_31 rfl rfl (Nat.le_of_ble_eq_true rfl) ?_
    refine k_istore (pc := 34) C [(7, .int z3.1), (0, .ref (B.1 4 0)), (1, .int x1), (2, .int x2), (3, .int x3), (4, .int x4), (5, .int x5), (6, .int x6)] dX10_bestMorning_34 (by decide) rfl ?_
    refine k_iload (pc := 36) C dX10_bestMorning_36 0 rfl ?_
    refine k_iload_n (pc := 38) C dX10_bestMorning_38 4 rfl ?_
    refine k_icmp_ge (pc := 39) C 55 dX10_bestMorning_39 (by decide) h (fun c5 h => ?_) (fun c5 h => ?_)
    · refine k_sub [1, 2, 3, 4, 5, 6, 7] rfl ?_
      exact k_X10_bestMorning_b55 C E hrec9 hrec18 z3.2 x1 x2 x3 x4 x5 x6 h
    · refine k_iload (pc := 42) C dX10_bestMorning_42 0 rfl ?_
      refine k_istore_n (pc := 44) C [(3, .int z3.1), (7, .int z3.1), (0, .ref (B.1 4 0)), (1, .int x1), (2, .int x2), (4, .int x4), (5, .int x5), (6, .int x6)] dX10_bestMorning_44 (by decide) rfl ?_
      refine k_bipush (pc := 45) (v := (10 : Int32)) C dX10_bestMorning_45 cbipush_10 ?_
      refine k_iload (pc := 47) C dX10_bestMorning_47 6 rfl ?_
      refine k_imul (pc := 49) C dX10_bestMorning_49 ?_
      refine k_iload (pc := 50) C dX10_bestMorning_50 7 rfl ?_
      refine k_iadd (pc := 52) C dX10_bestMorning_52 ?_
      refine k_nI h (fun y4 h => ?_)
      refine k_istore (pc := 53) C [(4, .int y4), (3, .int z3.1), (7, .int z3.1), (0, .ref (B.1 4 0)), (1, .int x1), (2, .int x2), (5, .int x5), (6, .int x6)] dX10_bestMorning_53 (by decide) rfl ?_
      refine k_sub [3, 4, 5, 1, 0, 6, 7] rfl ?_
      exact k_X10_bestMorning_b55 C E hrec9 hrec18 z3.2 x1 x2 z3.1 y4 x5 x6 h
set_option maxHeartbeats 4000000 in
set_option maxRecDepth 100000 in
theorem k_X10_bestMorning_l18 {B : KB} {X : KE} {rec9 : TT → Int32 → Int32 → Int32 → Int32 → Int32 → Option (Int32 × TT)} {res : Int32 × TT} (C : Cx B X "GriefEngine" cX10_bestMorning 8 5) (E : Cr B X (some .int) (some (.int res.1)) res.2) (hrec9 : ∀ (T : TT) (x1 : Int32) (x2 : Int32) (x3 : Int32) (x4 : Int32) (x5 : Int32), rec9 T x1 x2 x3 x4 x5 = some res → Wk B X 8 T 9 [(0, .ref (B.1 4 0)), (1, .int x1), (2, .int x2), (3, .int x3), (4, .int x4), (5, .int x5)] []) : ∀ (n : Nat) (T : TT) (x1 : Int32) (x2 : Int32) (x3 : Int32) (x4 : Int32) (x5 : Int32) (x6 : Int32) (h : m_X10_bestMorning_l18 rec9 n T x1 x2 x3 x4 x5 x6 = some res), Wk B X 8 T 18 [(0, .ref (B.1 4 0)), (1, .int x1), (2, .int x2), (3, .int x3), (4, .int x4), (5, .int x5), (6, .int x6)] [] := by
  intro n
  induction n with
  | zero =>
    intro T x1 x2 x3 x4 x5 x6 h
    exact no_some h
  | succ n ih =>
    intro T x1 x2 x3 x4 x5 x6 h
    exact k_X10_bestMorning_h18 C E hrec9 (fun T x1 x2 x3 x4 x5 x6 h => ih T x1 x2 x3 x4 x5 x6 h) T x1 x2 x3 x4 x5 x6 h
set_option maxHeartbeats 4000000 in
set_option maxRecDepth 100000 in
theorem k_X10_bestMorning_h9 {B : KB} {X : KE} {rec9 : TT → Int32 → Int32 → Int32 → Int32 → Int32 → Option (Int32 × TT)} {res : Int32 × TT} (C : Cx B X "GriefEngine" cX10_bestMorning 8 5) (E : Cr B X (some .int) (some (.int res.1)) res.2) (hrec9 : ∀ (T : TT) (x1 : Int32) (x2 : Int32) (x3 : Int32) (x4 : Int32) (x5 : Int32), rec9 T x1 x2 x3 x4 x5 = some res → Wk B X 8 T 9 [(0, .ref (B.1 4 0)), (1, .int x1), (2, .int x2), (3, .int x3), (4, .int x4), (5, .int x5)] []) (T : TT) (x1 : Int32) (x2 : Int32) (x3 : Int32) (x4 : Int32) (x5 : Int32) (h : m_X10_bestMorning_h9 rec9 T x1 x2 x3 x4 x5 = some res) : Wk B X 8 T 9 [(0, .ref (B.1 4 0)), (1, .int x1), (2, .int x2), (3, .int x3), (4, .int x4), (5, .int x5)] [] := by
  unfold m_X10_bestMorning_h9 at h
  refine k_iload (pc := 9) C dX10_bestMorning_9 5 rfl ?_
  refine k_iconst (pc := 11) (v := (4 : Int32)) C dX10_bestMorning_11 ciconst_4 ?_
  refine k_icmp_ge (pc := 12) C 67 dX10_bestMorning_12 (by decide) h (fun c1 h => ?_) (fun c1 h => ?_)
  · refine k_iload (pc := 67) C dX10_bestMorning_67 4 rfl ?_
    exact k_iret (pc := 69) C E (some_1 h) (some_2 h) dX10_bestMorning_69
  · refine k_iconst (pc := 15) (v := (0 : Int32)) C dX10_bestMorning_15 ciconst_0 ?_
    refine k_istore (pc := 16) C [(6, .int (0 : Int32)), (0, .ref (B.1 4 0)), (1, .int x1), (2, .int x2), (3, .int x3), (4, .int x4), (5, .int x5)] dX10_bestMorning_16 (by decide) rfl ?_
    refine k_sub [1, 2, 3, 4, 5, 6, 0] rfl ?_
    exact k_X10_bestMorning_l18 C E hrec9 FU T x1 x2 x3 x4 x5 (0 : Int32) h
set_option maxHeartbeats 4000000 in
set_option maxRecDepth 100000 in
theorem k_X10_bestMorning_l9 {B : KB} {X : KE} {res : Int32 × TT} (C : Cx B X "GriefEngine" cX10_bestMorning 8 5) (E : Cr B X (some .int) (some (.int res.1)) res.2) : ∀ (n : Nat) (T : TT) (x1 : Int32) (x2 : Int32) (x3 : Int32) (x4 : Int32) (x5 : Int32) (h : m_X10_bestMorning_l9 n T x1 x2 x3 x4 x5 = some res), Wk B X 8 T 9 [(0, .ref (B.1 4 0)), (1, .int x1), (2, .int x2), (3, .int x3), (4, .int x4), (5, .int x5)] [] := by
  intro n
  induction n with
  | zero =>
    intro T x1 x2 x3 x4 x5 h
    exact no_some h
  | succ n ih =>
    intro T x1 x2 x3 x4 x5 h
    exact k_X10_bestMorning_h9 C E (fun T x1 x2 x3 x4 x5 h => ih T x1 x2 x3 x4 x5 h) T x1 x2 x3 x4 x5 h
set_option maxHeartbeats 4000000 in
set_option maxRecDepth 100000 in
theorem kc_X10_bestMorning {B : KB} {l : Launch} {T : TT} {x1 : Int32} {x2 : Int32} {res : Int32 × TT} (h : m_X10_bestMorning T x1 x2 = some res) : Kt B l 5 yX10_bestMorning cX10_bestMorning 8 (some .int) T [.ref (B.1 4 0), .int x1, .int x2] (some (.int res.1)) res.2 := by
  refine Kt.of (by decide) (Nat.le_of_ble_eq_true rfl) (fun X hX C E => ?_)
  subst hX
  have C : Cx B X "GriefEngine" cX10_bestMorning 8 5 := C
  show Wk B X 8 T 0 [(0, .ref (B.1 4 0)), (1, .int x1), (2, .int x2)] []
  unfold m_X10_bestMorning at h
  refine k_bipush (pc := 0) (v := (7 : Int32)) C dX10_bestMorning_0 cbipush_7 ?_
  refine k_istore_n (pc := 2) C [(3, .int (7 : Int32)), (0, .ref (B.1 4 0)), (1, .int x1), (2, .int x2)] dX10_bestMorning_2 (by decide) rfl ?_
  refine k_iconst (pc := 3) (v := (-1 : Int32)) C dX10_bestMorning_3 ciconst_m1 ?_
  refine k_istore (pc := 4) C [(4, .int (-1 : Int32)), (3, .int (7 : Int32)), (0, .ref (B.1 4 0)), (1, .int x1), (2, .int x2)] dX10_bestMorning_4 (by decide) rfl ?_
  refine k_iconst (pc := 6) (v := (0 : Int32)) C dX10_bestMorning_6 ciconst_0 ?_
  refine k_istore (pc := 7) C [(5, .int (0 : Int32)), (4, .int (-1 : Int32)), (3, .int (7 : Int32)), (0, .ref (B.1 4 0)), (1, .int x1), (2, .int x2)] dX10_bestMorning_7 (by decide) rfl ?_
  refine k_sub [3, 4, 5, 2, 1, 0] rfl ?_
  exact k_X10_bestMorning_l9 C E FU T x1 x2 (7 : Int32) (-1 : Int32) (0 : Int32) h
def m_X10_look (T : TT) (x1 : Int32) : Option (Int32 × TT) := (m_X4_has T 0 x1).bind (fun z1 => if z1 = 0 then ((m_X10_refuse T (-2 : Int32)).bind (fun z5 => some (z5.1, z5.2))) else ((m_X10_kindsThatFit T x1).bind (fun z2 => if z2 = 0 then (some ((-1 : Int32), T)) else (if inb x1 6 then ((m_X10_bestMorning T z2 (T.1 0 3 (Int32.toNatClampNeg x1))).bind (fun z3 => some (z3.1, z3.2))) else none))))
set_option maxHeartbeats 4000000 in
set_option maxRecDepth 100000 in
theorem kc_X10_look {B : KB} {l : Launch} {T : TT} {x1 : Int32} {res : Int32 × TT} (h : m_X10_look T x1 = some res) : Kt B l 6 yX10_look cX10_look 3 (some .int) T [.ref (B.1 4 0), .int x1] (some (.int res.1)) res.2 := by
  refine Kt.of (by decide) (Nat.le_of_ble_eq_true rfl) (fun X hX C E => ?_)
  subst hX
  have C : Cx B X "GriefEngine" cX10_look 3 6 := C
  show Wk B X 3 T 0 [(0, .ref (B.1 4 0)), (1, .int x1)] []
  unfold m_X10_look at h
  refine k_aload_n (pc := 0) C dX10_look_0 0 rfl ?_
  refine gf_X10_12 (pc := 1) C dX10_look_1 ?_
  refine k_iload_n (pc := 4) C dX10_look_4 1 rfl ?_
  obtain ⟨z1, e1, h⟩ := bnd h
  refine k_callvI (pc := 5) C lk_X10_132 (by decide) (ix_X4 lt4_0) (wo_X4 lt4_0) rfl rfl (kc_X4_has lt4_0 e1) dX10_look_5 rfl rfl (Nat.le_of_ble_eq_true rfl) ?_
  refine k_if_ne (pc := 8) C 18 dX10_look_8 (by decide) h (fun c6 h => ?_) (fun c6 h => ?_)
  · refine k_aload_n (pc := 18) C dX10_look_18 0 rfl ?_
    refine k_iload_n (pc := 19) C dX10_look_19 1 rfl ?_
    obtain ⟨z2, e2, h⟩ := bnd h
    refine k_callvI (pc := 20) C lk_X10_209 (by decide) ix_X10 wo_X10 rfl rfl (kc_X10_kindsThatFit e2) dX10_look_20 rfl rfl (Nat.le_of_ble_eq_true rfl) ?_
    refine k_istore_n (pc := 23) C [(2, .int z2), (0, .ref (B.1 4 0)), (1, .int x1)] dX10_look_23 (by decide) rfl ?_
    refine k_iload_n (pc := 24) C dX10_look_24 0 rfl ?_
    refine k_if_ne (pc := 25) C 32 dX10_look_25 (by decide) h (fun c4 h => ?_) (fun c4 h => ?_)
    · refine k_aload_n (pc := 32) C dX10_look_32 1 rfl ?_
      refine k_iload_n (pc := 33) C dX10_look_33 0 rfl ?_
      refine k_aload_n (pc := 34) C dX10_look_34 1 rfl ?_
      refine gf_X10_12 (pc := 35) C dX10_look_35 ?_
      refine gf_X10_147 (pc := 38) C lt4_0 dX10_look_38 ?_
      refine k_iload_n (pc := 41) C dX10_look_41 2 rfl ?_
      refine k_iald (pc := 42) C (ia_R3 lt4_0) dX10_look_42 h (fun h => ?_)
      obtain ⟨z3, e3, h⟩ := bnd h
      refine k_callvI (pc := 43) C lk_X10_212 (by decide) ix_X10 wo_X10 rfl rfl (kc_X10_bestMorning e3) dX10_look_43 rfl rfl (Nat.le_of_ble_eq_true rfl) ?_
      exact k_iret (pc := 46) C E (some_1 h) (some_2 h) dX10_look_46
    · refine k_iconst (pc := 28) (v := (-1 : Int32)) C dX10_look_28 ciconst_m1 ?_
      refine k_goto (pc := 29) C 46 dX10_look_29 (by decide) ?_
      exact k_iret (pc := 46) C E (some_1 h) (some_2 h) dX10_look_46
  · refine k_aload_n (pc := 11) C dX10_look_11 0 rfl ?_
    refine k_bipush (pc := 12) (v := (-2 : Int32)) C dX10_look_12 cbipush_m2 ?_
    obtain ⟨z5, e5, h⟩ := bnd h
    refine k_callvI (pc := 14) C lk_X10_73 (by decide) ix_X10 wo_X10 rfl rfl (kc_X10_refuse e5) dX10_look_14 rfl rfl (Nat.le_of_ble_eq_true rfl) ?_
    exact k_iret (pc := 17) C E (some_1 h) (some_2 h) dX10_look_17
def m_X10_had_b73 (rec35 : TT → Int32 → Int32 → Int32 → Int32 → Int32 → Option (Int32 × TT)) (T : TT) (x1 : Int32) (x2 : Int32) (x3 : Int32) (x4 : Int32) (x5 : Int32) : Option (Int32 × TT) := bT (x5 + (1 : Int32)) (fun y11 => rec35 T x1 x2 x3 x4 y11)
def m_X10_had_b71 (rec35 : TT → Int32 → Int32 → Int32 → Int32 → Int32 → Option (Int32 × TT)) (T : TT) (x1 : Int32) (x2 : Int32) (x3 : Int32) (x5 : Int32) (s0 : Int32) : Option (Int32 × TT) := m_X10_had_b73 rec35 T x1 x2 x3 s0 x5
def m_X10_had_h35 (rec35 : TT → Int32 → Int32 → Int32 → Int32 → Int32 → Option (Int32 × TT)) (T : TT) (x1 : Int32) (x2 : Int32) (x3 : Int32) (x4 : Int32) (x5 : Int32) : Option (Int32 × TT) := if (100 : Int32) ≤ x5 then (if x2 = 0 then (some (x3, T)) else (some (x4, T))) else ((m_X4_tripsFit T 0 x1 x5).bind (fun z6 => if z6 = 0 then (m_X10_had_b73 rec35 T x1 x2 x3 x4 x5) else (bT (x3 + (1 : Int32)) (fun y7 => if x4 = (-1 : Int32) then (m_X10_had_b71 rec35 T x1 x2 y7 x5 x5) else (m_X10_had_b71 rec35 T x1 x2 y7 x5 x4)))))
def m_X10_had_l35 : Nat → TT → Int32 → Int32 → Int32 → Int32 → Int32 → Option (Int32 × TT)
  | 0 => fun _ _ _ _ _ _ => none
  | n + 1 => fun T x1 x2 x3 x4 x5 => m_X10_had_h35 (m_X10_had_l35 n) T x1 x2 x3 x4 x5
def m_X10_had_b20 (T : TT) : Option (Int32 × TT) := (m_X10_refuse T (-2 : Int32)).bind (fun z12 => some (z12.1, z12.2))
def m_X10_had (T : TT) (x1 : Int32) (x2 : Int32) : Option (Int32 × TT) := (m_X4_has T 0 x1).bind (fun z1 => if z1 = 0 then (m_X10_had_b20 T) else ((m_X10_within x2 (0 : Int32) (1 : Int32)).bind (fun z2 => if z2 = 0 then (m_X10_had_b20 T) else (m_X10_had_l35 FU T x1 x2 (0 : Int32) (-1 : Int32) (0 : Int32)))))
set_option maxHeartbeats 4000000 in
set_option maxRecDepth 100000 in
theorem k_X10_had_b73 {B : KB} {X : KE} {rec35 : TT → Int32 → Int32 → Int32 → Int32 → Int32 → Option (Int32 × TT)} {res : Int32 × TT} (C : Cx B X "GriefEngine" cX10_had 6 6) (E : Cr B X (some .int) (some (.int res.1)) res.2) (hrec35 : ∀ (T : TT) (x1 : Int32) (x2 : Int32) (x3 : Int32) (x4 : Int32) (x5 : Int32), rec35 T x1 x2 x3 x4 x5 = some res → Wk B X 6 T 35 [(0, .ref (B.1 4 0)), (1, .int x1), (2, .int x2), (3, .int x3), (4, .int x4), (5, .int x5)] []) (T : TT) (x1 : Int32) (x2 : Int32) (x3 : Int32) (x4 : Int32) (x5 : Int32) (h : m_X10_had_b73 rec35 T x1 x2 x3 x4 x5 = some res) : Wk B X 6 T 73 [(0, .ref (B.1 4 0)), (1, .int x1), (2, .int x2), (3, .int x3), (4, .int x4), (5, .int x5)] [] := by
  unfold m_X10_had_b73 at h
  refine k_iincN (pc := 73) (x := x5) (c := (1 : Int32)) C (fun y11 => [(5, .int y11), (0, .ref (B.1 4 0)), (1, .int x1), (2, .int x2), (3, .int x3), (4, .int x4)]) dX10_had_73 5 rfl ciconst_1 (by decide) (fun _ => rfl) h (fun y11 h => ?_)
  refine k_goto (pc := 76) C 35 dX10_had_76 (by decide) ?_
  refine k_sub [1, 2, 3, 4, 5, 0] rfl ?_
  exact hrec35 T x1 x2 x3 x4 y11 h
set_option maxHeartbeats 4000000 in
set_option maxRecDepth 100000 in
theorem k_X10_had_b71 {B : KB} {X : KE} {rec35 : TT → Int32 → Int32 → Int32 → Int32 → Int32 → Option (Int32 × TT)} {res : Int32 × TT} (C : Cx B X "GriefEngine" cX10_had 6 6) (E : Cr B X (some .int) (some (.int res.1)) res.2) (hrec35 : ∀ (T : TT) (x1 : Int32) (x2 : Int32) (x3 : Int32) (x4 : Int32) (x5 : Int32), rec35 T x1 x2 x3 x4 x5 = some res → Wk B X 6 T 35 [(0, .ref (B.1 4 0)), (1, .int x1), (2, .int x2), (3, .int x3), (4, .int x4), (5, .int x5)] []) (T : TT) (x1 : Int32) (x2 : Int32) (x3 : Int32) (x5 : Int32) (s0 : Int32) (h : m_X10_had_b71 rec35 T x1 x2 x3 x5 s0 = some res) : Wk B X 6 T 71 [(0, .ref (B.1 4 0)), (1, .int x1), (2, .int x2), (3, .int x3), (5, .int x5)] [.int s0] := by
  unfold m_X10_had_b71 at h
  refine k_istore (pc := 71) C [(4, .int s0), (0, .ref (B.1 4 0)), (1, .int x1), (2, .int x2), (3, .int x3), (5, .int x5)] dX10_had_71 (by decide) rfl ?_
  refine k_sub [1, 2, 3, 4, 0, 5] rfl ?_
  exact k_X10_had_b73 C E hrec35 T x1 x2 x3 s0 x5 h
set_option maxHeartbeats 4000000 in
set_option maxRecDepth 100000 in
theorem k_X10_had_h35 {B : KB} {X : KE} {rec35 : TT → Int32 → Int32 → Int32 → Int32 → Int32 → Option (Int32 × TT)} {res : Int32 × TT} (C : Cx B X "GriefEngine" cX10_had 6 6) (E : Cr B X (some .int) (some (.int res.1)) res.2) (hrec35 : ∀ (T : TT) (x1 : Int32) (x2 : Int32) (x3 : Int32) (x4 : Int32) (x5 : Int32), rec35 T x1 x2 x3 x4 x5 = some res → Wk B X 6 T 35 [(0, .ref (B.1 4 0)), (1, .int x1), (2, .int x2), (3, .int x3), (4, .int x4), (5, .int x5)] []) (T : TT) (x1 : Int32) (x2 : Int32) (x3 : Int32) (x4 : Int32) (x5 : Int32) (h : m_X10_had_h35 rec35 T x1 x2 x3 x4 x5 = some res) : Wk B X 6 T 35 [(0, .ref (B.1 4 0)), (1, .int x1), (2, .int x2), (3, .int x3), (4, .int x4), (5, .int x5)] [] := by
  unfold m_X10_had_h35 at h
  refine k_iload (pc := 35) C dX10_had_35 5 rfl ?_
  refine k_bipush (pc := 37) (v := (100 : Int32)) C dX10_had_37 cbipush_100 ?_
  refine k_icmp_ge (pc := 39) C 79 dX10_had_39 (by decide) h (fun c10 h => ?_) (fun c10 h => ?_)
  · refine k_iload_n (pc := 79) C dX10_had_79 2 rfl ?_
    refine k_if_ne (pc := 80) C 87 dX10_had_80 (by decide) h (fun c5 h => ?_) (fun c5 h => ?_)
    · refine k_iload (pc := 87) C dX10_had_87 4 rfl ?_
      exact k_iret (pc := 89) C E (some_1 h) (some_2 h) dX10_had_89
    · refine k_iload_n (pc := 83) C dX10_had_83 3 rfl ?_
      refine k_goto (pc := 84) C 89 dX10_had_84 (by decide) ?_
      exact k_iret (pc := 89) C E (some_1 h) (some_2 h) dX10_had_89
  · refine k_aload_n (pc := 42) C dX10_had_42 0 rfl ?_
    refine gf_X10_12 (pc := 43) C dX10_had_43 ?_
    refine k_iload_n (pc := 46) C dX10_had_46 1 rfl ?_
    refine k_iload (pc := 47) C dX10_had_47 5 rfl ?_
    obtain ⟨z6, e6, h⟩ := bnd h
    refine k_callvI (pc := 49) C lk_X10_215 (by decide) (ix_X4 lt4_0) (wo_X4 lt4_0) rfl rfl (kc_X4_tripsFit lt4_0 e6) dX10_had_49 rfl rfl (Nat.le_of_ble_eq_true rfl) ?_
    refine k_if_eq (pc := 52) C 73 dX10_had_52 (by decide) h (fun c9 h => ?_) (fun c9 h => ?_)
    · refine k_sub [0, 1, 2, 3, 4, 5] rfl ?_
      exact k_X10_had_b73 C E hrec35 T x1 x2 x3 x4 x5 h
    · refine k_iincN (pc := 55) (x := x3) (c := (1 : Int32)) C (fun y7 => [(3, .int y7), (0, .ref (B.1 4 0)), (1, .int x1), (2, .int x2), (4, .int x4), (5, .int x5)]) dX10_had_55 3 rfl ciconst_1 (by decide) (fun _ => rfl) h (fun y7 h => ?_)
      refine k_iload (pc := 58) C dX10_had_58 4 rfl ?_
      refine k_iconst (pc := 60) (v := (-1 : Int32)) C dX10_had_60 ciconst_m1 ?_
      refine k_icmp_ne (pc := 61) C 69 dX10_had_61 (by decide) h (fun c8 h => ?_) (fun c8 h => ?_)
      · refine k_iload (pc := 69) C dX10_had_69 4 rfl ?_
        refine k_sub [1, 2, 3, 0, 5] rfl ?_
        exact k_X10_had_b71 C E hrec35 T x1 x2 y7 x5 x4 h
      · refine k_iload (pc := 64) C dX10_had_64 5 rfl ?_
        refine k_goto (pc := 66) C 71 dX10_had_66 (by decide) ?_
        refine k_sub [1, 2, 3, 0, 5] rfl ?_
        exact k_X10_had_b71 C E hrec35 T x1 x2 y7 x5 x5 h
set_option maxHeartbeats 4000000 in
set_option maxRecDepth 100000 in
theorem k_X10_had_l35 {B : KB} {X : KE} {res : Int32 × TT} (C : Cx B X "GriefEngine" cX10_had 6 6) (E : Cr B X (some .int) (some (.int res.1)) res.2) : ∀ (n : Nat) (T : TT) (x1 : Int32) (x2 : Int32) (x3 : Int32) (x4 : Int32) (x5 : Int32) (h : m_X10_had_l35 n T x1 x2 x3 x4 x5 = some res), Wk B X 6 T 35 [(0, .ref (B.1 4 0)), (1, .int x1), (2, .int x2), (3, .int x3), (4, .int x4), (5, .int x5)] [] := by
  intro n
  induction n with
  | zero =>
    intro T x1 x2 x3 x4 x5 h
    exact no_some h
  | succ n ih =>
    intro T x1 x2 x3 x4 x5 h
    exact k_X10_had_h35 C E (fun T x1 x2 x3 x4 x5 h => ih T x1 x2 x3 x4 x5 h) T x1 x2 x3 x4 x5 h
set_option maxHeartbeats 4000000 in
set_option maxRecDepth 100000 in
theorem k_X10_had_b20 {B : KB} {X : KE} {res : Int32 × TT} (C : Cx B X "GriefEngine" cX10_had 6 6) (E : Cr B X (some .int) (some (.int res.1)) res.2) (T : TT) (h : m_X10_had_b20 T = some res) : Wk B X 6 T 20 [(0, .ref (B.1 4 0))] [] := by
  unfold m_X10_had_b20 at h
  refine k_aload_n (pc := 20) C dX10_had_20 0 rfl ?_
  refine k_bipush (pc := 21) (v := (-2 : Int32)) C dX10_had_21 cbipush_m2 ?_
  obtain ⟨z12, e12, h⟩ := bnd h
  refine k_callvI (pc := 23) C lk_X10_73 (by decide) ix_X10 wo_X10 rfl rfl (kc_X10_refuse e12) dX10_had_23 rfl rfl (Nat.le_of_ble_eq_true rfl) ?_
  exact k_iret (pc := 26) C E (some_1 h) (some_2 h) dX10_had_26
set_option maxHeartbeats 4000000 in
set_option maxRecDepth 100000 in
theorem kc_X10_had {B : KB} {l : Launch} {T : TT} {x1 : Int32} {x2 : Int32} {res : Int32 × TT} (h : m_X10_had T x1 x2 = some res) : Kt B l 6 yX10_had cX10_had 6 (some .int) T [.ref (B.1 4 0), .int x1, .int x2] (some (.int res.1)) res.2 := by
  refine Kt.of (by decide) (Nat.le_of_ble_eq_true rfl) (fun X hX C E => ?_)
  subst hX
  have C : Cx B X "GriefEngine" cX10_had 6 6 := C
  show Wk B X 6 T 0 [(0, .ref (B.1 4 0)), (1, .int x1), (2, .int x2)] []
  unfold m_X10_had at h
  refine k_aload_n (pc := 0) C dX10_had_0 0 rfl ?_
  refine gf_X10_12 (pc := 1) C dX10_had_1 ?_
  refine k_iload_n (pc := 4) C dX10_had_4 1 rfl ?_
  obtain ⟨z1, e1, h⟩ := bnd h
  refine k_callvI (pc := 5) C lk_X10_132 (by decide) (ix_X4 lt4_0) (wo_X4 lt4_0) rfl rfl (kc_X4_has lt4_0 e1) dX10_had_5 rfl rfl (Nat.le_of_ble_eq_true rfl) ?_
  refine k_if_eq (pc := 8) C 20 dX10_had_8 (by decide) h (fun c4 h => ?_) (fun c4 h => ?_)
  · refine k_sub [0] rfl ?_
    exact k_X10_had_b20 C E T h
  · refine k_iload_n (pc := 11) C dX10_had_11 2 rfl ?_
    refine k_iconst (pc := 12) (v := (0 : Int32)) C dX10_had_12 ciconst_0 ?_
    refine k_iconst (pc := 13) (v := (1 : Int32)) C dX10_had_13 ciconst_1 ?_
    obtain ⟨z2, e2, h⟩ := bnd h
    refine k_callsI (pc := 14) C lk_X10_69 (by decide) (kc_X10_within e2) dX10_had_14 rfl rfl (Nat.le_of_ble_eq_true rfl) ?_
    refine k_if_ne (pc := 17) C 27 dX10_had_17 (by decide) h (fun c3 h => ?_) (fun c3 h => ?_)
    · refine k_iconst (pc := 27) (v := (0 : Int32)) C dX10_had_27 ciconst_0 ?_
      refine k_istore_n (pc := 28) C [(3, .int (0 : Int32)), (0, .ref (B.1 4 0)), (1, .int x1), (2, .int x2)] dX10_had_28 (by decide) rfl ?_
      refine k_iconst (pc := 29) (v := (-1 : Int32)) C dX10_had_29 ciconst_m1 ?_
      refine k_istore (pc := 30) C [(4, .int (-1 : Int32)), (3, .int (0 : Int32)), (0, .ref (B.1 4 0)), (1, .int x1), (2, .int x2)] dX10_had_30 (by decide) rfl ?_
      refine k_iconst (pc := 32) (v := (0 : Int32)) C dX10_had_32 ciconst_0 ?_
      refine k_istore (pc := 33) C [(5, .int (0 : Int32)), (4, .int (-1 : Int32)), (3, .int (0 : Int32)), (0, .ref (B.1 4 0)), (1, .int x1), (2, .int x2)] dX10_had_33 (by decide) rfl ?_
      refine k_sub [3, 4, 5, 2, 1, 0] rfl ?_
      exact k_X10_had_l35 C E FU T x1 x2 (0 : Int32) (-1 : Int32) (0 : Int32) h
    · refine k_sub [0] rfl ?_
      exact k_X10_had_b20 C E T h
def m_X10_worthToday (T : TT) (x1 : Int32) (x2 : Int32) (x3 : Int32) : Option (Int32) := (m_X4_kindOf T 0 x1).bind (fun z1 => if inb x1 6 then (bT (T.1 0 3 (Int32.toNatClampNeg x1)) (fun y2 => if x2 = 0 then ((m_X10_seasonOf (T.2.1 0 8)).bind (fun z3 => (v_runs z1 z3 y2).bind (fun z4 => if x3 = 0 then (some (z4 / (2 : Int32))) else (some z4)))) else ((v_left z1 (2 : Int32) y2).bind (fun z6 => (v_left z1 (0 : Int32) y2).bind (fun z7 => some (z6 - z7)))))) else none)
set_option maxHeartbeats 4000000 in
set_option maxRecDepth 100000 in
theorem kc_X10_worthToday {B : KB} {l : Launch} {T : TT} {x1 : Int32} {x2 : Int32} {x3 : Int32} {res : Int32} (h : m_X10_worthToday T x1 x2 x3 = some res) : Kt B l 4 yX10_worthToday cX10_worthToday 7 (some .int) T [.ref (B.1 4 0), .int x1, .int x2, .int x3] (some (.int res)) T := by
  refine Kt.of (by decide) (Nat.le_of_ble_eq_true rfl) (fun X hX C E => ?_)
  subst hX
  have C : Cx B X "GriefEngine" cX10_worthToday 7 4 := C
  show Wk B X 7 T 0 [(0, .ref (B.1 4 0)), (1, .int x1), (2, .int x2), (3, .int x3)] []
  unfold m_X10_worthToday at h
  refine k_aload_n (pc := 0) C dX10_worthToday_0 0 rfl ?_
  refine gf_X10_12 (pc := 1) C dX10_worthToday_1 ?_
  refine k_iload_n (pc := 4) C dX10_worthToday_4 1 rfl ?_
  obtain ⟨z1, e1, h⟩ := bnd h
  have hz1 := kr_X4_kindOf lt4_0 e1
  refine k_callvA (pc := 5) C lk_X10_153 (by decide) (ix_X4 lt4_0) (wo_X4 lt4_0) rfl rfl (kc_X4_kindOf lt4_0 e1) dX10_worthToday_5 rfl rfl (Nat.le_of_ble_eq_true rfl) ?_
  refine k_astore (pc := 8) C [(4, .ref (B.1 z1.1 z1.2)), (0, .ref (B.1 4 0)), (1, .int x1), (2, .int x2), (3, .int x3)] dX10_worthToday_8 (by decide) rfl ?_
  refine k_aload_n (pc := 10) C dX10_worthToday_10 1 rfl ?_
  refine gf_X10_12 (pc := 11) C dX10_worthToday_11 ?_
  refine gf_X10_147 (pc := 14) C lt4_0 dX10_worthToday_14 ?_
  refine k_iload_n (pc := 17) C dX10_worthToday_17 2 rfl ?_
  refine k_iald (pc := 18) C (ia_R3 lt4_0) dX10_worthToday_18 h (fun h => ?_)
  refine k_nI h (fun y2 h => ?_)
  refine k_istore (pc := 19) C [(5, .int y2), (4, .ref (B.1 z1.1 z1.2)), (0, .ref (B.1 4 0)), (1, .int x1), (2, .int x2), (3, .int x3)] dX10_worthToday_19 (by decide) rfl ?_
  refine k_iload_n (pc := 21) C dX10_worthToday_21 4 rfl ?_
  refine k_if_eq (pc := 22) C 43 dX10_worthToday_22 (by decide) h (fun c8 h => ?_) (fun c8 h => ?_)
  · refine k_aload (pc := 43) C dX10_worthToday_43 1 rfl ?_
    refine k_aload_n (pc := 45) C dX10_worthToday_45 2 rfl ?_
    refine gf_X10_12 (pc := 46) C dX10_worthToday_46 ?_
    refine gf_X10_141 (pc := 49) C lt4_0 dX10_worthToday_49 ?_
    obtain ⟨z3, e3, h⟩ := bnd h
    refine k_callsI (pc := 52) C lk_X10_157 (by decide) (kc_X10_seasonOf e3) dX10_worthToday_52 rfl rfl (Nat.le_of_ble_eq_true rfl) ?_
    refine k_iload (pc := 55) C dX10_worthToday_55 0 rfl ?_
    obtain ⟨z4, e4, h⟩ := bnd h
    refine kv_runs (pc := 57) C lk_X10_160 (by decide) hz1 e4 dX10_worthToday_57 (Nat.le_of_ble_eq_true rfl) ?_
    refine k_istore (pc := 60) C [(6, .int z4), (5, .int y2), (4, .ref (B.1 z1.1 z1.2)), (0, .ref (B.1 4 0)), (1, .int x1), (2, .int x2), (3, .int x3)] dX10_worthToday_60 (by decide) rfl ?_
    refine k_iload_n (pc := 62) C dX10_worthToday_62 6 rfl ?_
    refine k_if_eq (pc := 63) C 71 dX10_worthToday_63 (by decide) h (fun c5 h => ?_) (fun c5 h => ?_)
    · refine k_iload (pc := 71) C dX10_worthToday_71 0 rfl ?_
      refine k_iconst (pc := 73) (v := (2 : Int32)) C dX10_worthToday_73 ciconst_2 ?_
      refine k_idivc (pc := 74) C dX10_worthToday_74 (by decide) ?_
      exact k_iret (pc := 75) C E (some_i h) rfl dX10_worthToday_75
    · refine k_iload (pc := 66) C dX10_worthToday_66 0 rfl ?_
      refine k_goto (pc := 68) C 75 dX10_worthToday_68 (by decide) ?_
      exact k_iret (pc := 75) C E (some_i h) rfl dX10_worthToday_75
  · refine k_aload (pc := 25) C dX10_worthToday_25 1 rfl ?_
    refine k_iconst (pc := 27) (v := (2 : Int32)) C dX10_worthToday_27 ciconst_2 ?_
    refine k_iload (pc := 28) C dX10_worthToday_28 0 rfl ?_
    obtain ⟨z6, e6, h⟩ := bnd h
    refine kv_left (pc := 30) C lk_X10_165 (by decide) hz1 e6 dX10_worthToday_30 (Nat.le_of_ble_eq_true rfl) ?_
    refine k_aload (pc := 33) C dX10_worthToday_33 1 rfl ?_
    refine k_iconst (pc := 35) (v := (0 : Int32)) C dX10_worthToday_35 ciconst_0 ?_
    refine k_iload (pc := 36) C dX10_worthToday_36 0 rfl ?_
    obtain ⟨z7, e7, h⟩ := bnd h
    refine kv_left (pc := 38) C lk_X10_165 (by decide) hz1 e7 dX10_worthToday_38 (Nat.le_of_ble_eq_true rfl) ?_
    refine k_isub (pc := 41) C dX10_worthToday_41 ?_
    exact k_iret (pc := 42) C E (some_i h) rfl dX10_worthToday_42
def m_X10_isContent_b18 (T : TT) (x3 : Int32) (s0 : Int32) (s2 : Int32) (s3 : Int32) : Option (Int32) := (m_X10_worthToday T s2 s3 x3).bind (fun z3 => if s0 < z3 then (some (0 : Int32)) else (some (1 : Int32)))
def m_X10_isContent (T : TT) (x1 : Int32) (x2 : Int32) (x3 : Int32) : Option (Int32) := (m_X10_worthToday T x1 x2 x3).bind (fun z1 => if x2 = 0 then (m_X10_isContent_b18 T x3 z1 x1 (1 : Int32)) else (m_X10_isContent_b18 T x3 z1 x1 (0 : Int32)))
set_option maxHeartbeats 4000000 in
set_option maxRecDepth 100000 in
theorem k_X10_isContent_b18 {B : KB} {X : KE} {T : TT} {res : Int32} (C : Cx B X "GriefEngine" cX10_isContent 4 5) (E : Cr B X (some .boolean) (some (.int res)) T) (x3 : Int32) (s0 : Int32) (s2 : Int32) (s3 : Int32) (h : m_X10_isContent_b18 T x3 s0 s2 s3 = some res) : Wk B X 4 T 18 [(3, .int x3)] [.int s3, .int s2, .ref (B.1 4 0), .int s0] := by
  unfold m_X10_isContent_b18 at h
  refine k_iload_n (pc := 18) C dX10_isContent_18 0 rfl ?_
  obtain ⟨z3, e3, h⟩ := bnd h
  refine k_callvI (pc := 19) C lk_X10_283 (by decide) ix_X10 wo_X10 rfl rfl (kc_X10_worthToday e3) dX10_isContent_19 rfl rfl (Nat.le_of_ble_eq_true rfl) ?_
  refine k_icmp_lt (pc := 22) C 29 dX10_isContent_22 (by decide) h (fun c4 h => ?_) (fun c4 h => ?_)
  · refine k_iconst (pc := 29) (v := (0 : Int32)) C dX10_isContent_29 ciconst_0 ?_
    exact k_zret (pc := 30) C E rfl (some_i h) rfl dX10_isContent_30
  · refine k_iconst (pc := 25) (v := (1 : Int32)) C dX10_isContent_25 ciconst_1 ?_
    refine k_goto (pc := 26) C 30 dX10_isContent_26 (by decide) ?_
    exact k_zret (pc := 30) C E rfl (some_i h) rfl dX10_isContent_30
set_option maxHeartbeats 4000000 in
set_option maxRecDepth 100000 in
theorem kc_X10_isContent {B : KB} {l : Launch} {T : TT} {x1 : Int32} {x2 : Int32} {x3 : Int32} {res : Int32} (h : m_X10_isContent T x1 x2 x3 = some res) : Kt B l 5 yX10_isContent cX10_isContent 4 (some .boolean) T [.ref (B.1 4 0), .int x1, .int x2, .int x3] (some (.int res)) T := by
  refine Kt.of (by decide) (Nat.le_of_ble_eq_true rfl) (fun X hX C E => ?_)
  subst hX
  have C : Cx B X "GriefEngine" cX10_isContent 4 5 := C
  show Wk B X 4 T 0 [(0, .ref (B.1 4 0)), (1, .int x1), (2, .int x2), (3, .int x3)] []
  unfold m_X10_isContent at h
  refine k_aload_n (pc := 0) C dX10_isContent_0 0 rfl ?_
  refine k_iload_n (pc := 1) C dX10_isContent_1 1 rfl ?_
  refine k_iload_n (pc := 2) C dX10_isContent_2 2 rfl ?_
  refine k_iload_n (pc := 3) C dX10_isContent_3 3 rfl ?_
  obtain ⟨z1, e1, h⟩ := bnd h
  refine k_callvI (pc := 4) C lk_X10_283 (by decide) ix_X10 wo_X10 rfl rfl (kc_X10_worthToday e1) dX10_isContent_4 rfl rfl (Nat.le_of_ble_eq_true rfl) ?_
  refine k_aload_n (pc := 7) C dX10_isContent_7 0 rfl ?_
  refine k_iload_n (pc := 8) C dX10_isContent_8 1 rfl ?_
  refine k_iload_n (pc := 9) C dX10_isContent_9 2 rfl ?_
  refine k_if_ne (pc := 10) C 17 dX10_isContent_10 (by decide) h (fun c2 h => ?_) (fun c2 h => ?_)
  · refine k_iconst (pc := 17) (v := (0 : Int32)) C dX10_isContent_17 ciconst_0 ?_
    refine k_sub [3] rfl ?_
    exact k_X10_isContent_b18 C E x3 z1 x1 (0 : Int32) h
  · refine k_iconst (pc := 13) (v := (1 : Int32)) C dX10_isContent_13 ciconst_1 ?_
    refine k_goto (pc := 14) C 18 dX10_isContent_14 (by decide) ?_
    refine k_sub [3] rfl ?_
    exact k_X10_isContent_b18 C E x3 z1 x1 (1 : Int32) h
def m_X10_fares_b104 (rec39 : TT → Int32 → Int32 → Int32 → Int32 → Option (Int32 × TT)) (T : TT) (x1 : Int32) (x2 : Int32) (x3 : Int32) (x4 : Int32) : Option (Int32 × TT) := bT (x4 + (1 : Int32)) (fun y14 => rec39 T x1 x2 x3 y14)
def m_X10_fares_b71 (rec39 : TT → Int32 → Int32 → Int32 → Int32 → Option (Int32 × TT)) (T : TT) (x1 : Int32) (x2 : Int32) (x3 : Int32) (x4 : Int32) (x5 : Int32) (s0 : Int32) : Option (Int32 × TT) := (m_X10_isContent T x1 x5 s0).bind (fun z9 => if z9 = 0 then (m_X10_fares_b104 rec39 T x1 x2 x3 x4) else ((m_X10_isContent T x2 s0 x5).bind (fun z10 => if z10 = 0 then (m_X10_fares_b104 rec39 T x1 x2 x3 x4) else (bT (x3 ||| ((1 : Int32) <<< (x4 &&& 31))) (fun y11 => m_X10_fares_b104 rec39 T x1 x2 y11 x4)))))
def m_X10_fares_b57 (rec39 : TT → Int32 → Int32 → Int32 → Int32 → Option (Int32 × TT)) (T : TT) (x1 : Int32) (x2 : Int32) (x3 : Int32) (x4 : Int32) (s0 : Int32) : Option (Int32 × TT) := if (x4 &&& (2 : Int32)) = 0 then (m_X10_fares_b71 rec39 T x1 x2 x3 x4 s0 (0 : Int32)) else (m_X10_fares_b71 rec39 T x1 x2 x3 x4 s0 (1 : Int32))
def m_X10_fares_h39 (rec39 : TT → Int32 → Int32 → Int32 → Int32 → Option (Int32 × TT)) (T : TT) (x1 : Int32) (x2 : Int32) (x3 : Int32) (x4 : Int32) : Option (Int32 × TT) := if (4 : Int32) ≤ x4 then (some (x3, T)) else (if (x4 &&& (1 : Int32)) = 0 then (m_X10_fares_b57 rec39 T x1 x2 x3 x4 (0 : Int32)) else (m_X10_fares_b57 rec39 T x1 x2 x3 x4 (1 : Int32)))
def m_X10_fares_l39 : Nat → TT → Int32 → Int32 → Int32 → Int32 → Option (Int32 × TT)
  | 0 => fun _ _ _ _ _ => none
  | n + 1 => fun T x1 x2 x3 x4 => m_X10_fares_h39 (m_X10_fares_l39 n) T x1 x2 x3 x4
def m_X10_fares_b27 (T : TT) : Option (Int32 × TT) := (m_X10_refuse T (-2 : Int32)).bind (fun z15 => some (z15.1, z15.2))
def m_X10_fares (T : TT) (x1 : Int32) (x2 : Int32) : Option (Int32 × TT) := (m_X4_has T 0 x1).bind (fun z1 => if z1 = 0 then (m_X10_fares_b27 T) else ((m_X4_has T 0 x2).bind (fun z2 => if z2 = 0 then (m_X10_fares_b27 T) else (if x1 = x2 then (m_X10_fares_b27 T) else (m_X10_fares_l39 FU T x1 x2 (0 : Int32) (0 : Int32))))))
set_option maxHeartbeats 4000000 in
set_option maxRecDepth 100000 in
theorem k_X10_fares_b104 {B : KB} {X : KE} {rec39 : TT → Int32 → Int32 → Int32 → Int32 → Option (Int32 × TT)} {res : Int32 × TT} (C : Cx B X "GriefEngine" cX10_fares 7 6) (E : Cr B X (some .int) (some (.int res.1)) res.2) (hrec39 : ∀ (T : TT) (x1 : Int32) (x2 : Int32) (x3 : Int32) (x4 : Int32), rec39 T x1 x2 x3 x4 = some res → Wk B X 7 T 39 [(0, .ref (B.1 4 0)), (1, .int x1), (2, .int x2), (3, .int x3), (4, .int x4)] []) (T : TT) (x1 : Int32) (x2 : Int32) (x3 : Int32) (x4 : Int32) (h : m_X10_fares_b104 rec39 T x1 x2 x3 x4 = some res) : Wk B X 7 T 104 [(0, .ref (B.1 4 0)), (1, .int x1), (2, .int x2), (3, .int x3), (4, .int x4)] [] := by
  unfold m_X10_fares_b104 at h
  refine k_iincN (pc := 104) (x := x4) (c := (1 : Int32)) C (fun y14 => [(4, .int y14), (0, .ref (B.1 4 0)), (1, .int x1), (2, .int x2), (3, .int x3)]) dX10_fares_104 4 rfl ciconst_1 (by decide) (fun _ => rfl) h (fun y14 h => ?_)
  refine k_goto (pc := 107) C 39 dX10_fares_107 (by decide) ?_
  refine k_sub [1, 2, 3, 4, 0] rfl ?_
  exact hrec39 T x1 x2 x3 y14 h
set_option maxHeartbeats 4000000 in
set_option maxRecDepth 100000 in
theorem k_X10_fares_b71 {B : KB} {X : KE} {rec39 : TT → Int32 → Int32 → Int32 → Int32 → Option (Int32 × TT)} {res : Int32 × TT} (C : Cx B X "GriefEngine" cX10_fares 7 6) (E : Cr B X (some .int) (some (.int res.1)) res.2) (hrec39 : ∀ (T : TT) (x1 : Int32) (x2 : Int32) (x3 : Int32) (x4 : Int32), rec39 T x1 x2 x3 x4 = some res → Wk B X 7 T 39 [(0, .ref (B.1 4 0)), (1, .int x1), (2, .int x2), (3, .int x3), (4, .int x4)] []) (T : TT) (x1 : Int32) (x2 : Int32) (x3 : Int32) (x4 : Int32) (x5 : Int32) (s0 : Int32) (h : m_X10_fares_b71 rec39 T x1 x2 x3 x4 x5 s0 = some res) : Wk B X 7 T 71 [(0, .ref (B.1 4 0)), (1, .int x1), (2, .int x2), (3, .int x3), (4, .int x4), (5, .int x5)] [.int s0] := by
  unfold m_X10_fares_b71 at h
  refine k_istore (pc := 71) C [(6, .int s0), (0, .ref (B.1 4 0)), (1, .int x1), (2, .int x2), (3, .int x3), (4, .int x4), (5, .int x5)] dX10_fares_71 (by decide) rfl ?_
  refine k_aload_n (pc := 73) C dX10_fares_73 1 rfl ?_
  refine k_iload_n (pc := 74) C dX10_fares_74 2 rfl ?_
  refine k_iload (pc := 75) C dX10_fares_75 6 rfl ?_
  refine k_iload (pc := 77) C dX10_fares_77 0 rfl ?_
  obtain ⟨z9, e9, h⟩ := bnd h
  refine k_callvI (pc := 79) C lk_X10_219 (by decide) ix_X10 wo_X10 rfl rfl (kc_X10_isContent e9) dX10_fares_79 rfl rfl (Nat.le_of_ble_eq_true rfl) ?_
  refine k_if_eq (pc := 82) C 104 dX10_fares_82 (by decide) h (fun c13 h => ?_) (fun c13 h => ?_)
  · refine k_sub [1, 2, 3, 4, 5] rfl ?_
    exact k_X10_fares_b104 C E hrec39 T x1 x2 x3 x4 h
  · refine k_aload_n (pc := 85) C dX10_fares_85 1 rfl ?_
    refine k_iload_n (pc := 86) C dX10_fares_86 3 rfl ?_
    refine k_iload (pc := 87) C dX10_fares_87 0 rfl ?_
    refine k_iload (pc := 89) C dX10_fares_89 6 rfl ?_
    obtain ⟨z10, e10, h⟩ := bnd h
    refine k_callvI (pc := 91) C lk_X10_219 (by decide) ix_X10 wo_X10 rfl rfl (kc_X10_isContent e10) dX10_fares_91 rfl rfl (Nat.le_of_ble_eq_true rfl) ?_
    refine k_if_eq (pc := 94) C 104 dX10_fares_94 (by decide) h (fun c12 h => ?_) (fun c12 h => ?_)
    · refine k_sub [1, 2, 3, 4, 5] rfl ?_
      exact k_X10_fares_b104 C E hrec39 T x1 x2 x3 x4 h
    · refine k_iload_n (pc := 97) C dX10_fares_97 4 rfl ?_
      refine k_iconst (pc := 98) (v := (1 : Int32)) C dX10_fares_98 ciconst_1 ?_
      refine k_iload (pc := 99) C dX10_fares_99 5 rfl ?_
      refine k_ishl (pc := 101) C dX10_fares_101 ?_
      refine k_ior (pc := 102) C dX10_fares_102 ?_
      refine k_nI h (fun y11 h => ?_)
      refine k_istore_n (pc := 103) C [(3, .int y11), (6, .int s0), (0, .ref (B.1 4 0)), (1, .int x1), (2, .int x2), (4, .int x4), (5, .int x5)] dX10_fares_103 (by decide) rfl ?_
      refine k_sub [2, 3, 4, 0, 5] rfl ?_
      exact k_X10_fares_b104 C E hrec39 T x1 x2 y11 x4 h
set_option maxHeartbeats 4000000 in
set_option maxRecDepth 100000 in
theorem k_X10_fares_b57 {B : KB} {X : KE} {rec39 : TT → Int32 → Int32 → Int32 → Int32 → Option (Int32 × TT)} {res : Int32 × TT} (C : Cx B X "GriefEngine" cX10_fares 7 6) (E : Cr B X (some .int) (some (.int res.1)) res.2) (hrec39 : ∀ (T : TT) (x1 : Int32) (x2 : Int32) (x3 : Int32) (x4 : Int32), rec39 T x1 x2 x3 x4 = some res → Wk B X 7 T 39 [(0, .ref (B.1 4 0)), (1, .int x1), (2, .int x2), (3, .int x3), (4, .int x4)] []) (T : TT) (x1 : Int32) (x2 : Int32) (x3 : Int32) (x4 : Int32) (s0 : Int32) (h : m_X10_fares_b57 rec39 T x1 x2 x3 x4 s0 = some res) : Wk B X 7 T 57 [(0, .ref (B.1 4 0)), (1, .int x1), (2, .int x2), (3, .int x3), (4, .int x4)] [.int s0] := by
  unfold m_X10_fares_b57 at h
  refine k_istore (pc := 57) C [(5, .int s0), (0, .ref (B.1 4 0)), (1, .int x1), (2, .int x2), (3, .int x3), (4, .int x4)] dX10_fares_57 (by decide) rfl ?_
  refine k_iload (pc := 59) C dX10_fares_59 5 rfl ?_
  refine k_iconst (pc := 61) (v := (2 : Int32)) C dX10_fares_61 ciconst_2 ?_
  refine k_iand (pc := 62) C dX10_fares_62 ?_
  refine k_if_eq (pc := 63) C 70 dX10_fares_63 (by decide) h (fun c8 h => ?_) (fun c8 h => ?_)
  · refine k_iconst (pc := 70) (v := (0 : Int32)) C dX10_fares_70 ciconst_0 ?_
    refine k_sub [1, 2, 3, 4, 5, 0] rfl ?_
    exact k_X10_fares_b71 C E hrec39 T x1 x2 x3 x4 s0 (0 : Int32) h
  · refine k_iconst (pc := 66) (v := (1 : Int32)) C dX10_fares_66 ciconst_1 ?_
    refine k_goto (pc := 67) C 71 dX10_fares_67 (by decide) ?_
    refine k_sub [1, 2, 3, 4, 5, 0] rfl ?_
    exact k_X10_fares_b71 C E hrec39 T x1 x2 x3 x4 s0 (1 : Int32) h
set_option maxHeartbeats 4000000 in
set_option maxRecDepth 100000 in
theorem k_X10_fares_h39 {B : KB} {X : KE} {rec39 : TT → Int32 → Int32 → Int32 → Int32 → Option (Int32 × TT)} {res : Int32 × TT} (C : Cx B X "GriefEngine" cX10_fares 7 6) (E : Cr B X (some .int) (some (.int res.1)) res.2) (hrec39 : ∀ (T : TT) (x1 : Int32) (x2 : Int32) (x3 : Int32) (x4 : Int32), rec39 T x1 x2 x3 x4 = some res → Wk B X 7 T 39 [(0, .ref (B.1 4 0)), (1, .int x1), (2, .int x2), (3, .int x3), (4, .int x4)] []) (T : TT) (x1 : Int32) (x2 : Int32) (x3 : Int32) (x4 : Int32) (h : m_X10_fares_h39 rec39 T x1 x2 x3 x4 = some res) : Wk B X 7 T 39 [(0, .ref (B.1 4 0)), (1, .int x1), (2, .int x2), (3, .int x3), (4, .int x4)] [] := by
  unfold m_X10_fares_h39 at h
  refine k_iload (pc := 39) C dX10_fares_39 4 rfl ?_
  refine k_iconst (pc := 41) (v := (4 : Int32)) C dX10_fares_41 ciconst_4 ?_
  refine k_icmp_ge (pc := 42) C 110 dX10_fares_42 (by decide) h (fun c7 h => ?_) (fun c7 h => ?_)
  · refine k_iload_n (pc := 110) C dX10_fares_110 3 rfl ?_
    exact k_iret (pc := 111) C E (some_1 h) (some_2 h) dX10_fares_111
  · refine k_iload (pc := 45) C dX10_fares_45 4 rfl ?_
    refine k_iconst (pc := 47) (v := (1 : Int32)) C dX10_fares_47 ciconst_1 ?_
    refine k_iand (pc := 48) C dX10_fares_48 ?_
    refine k_if_eq (pc := 49) C 56 dX10_fares_49 (by decide) h (fun c6 h => ?_) (fun c6 h => ?_)
    · refine k_iconst (pc := 56) (v := (0 : Int32)) C dX10_fares_56 ciconst_0 ?_
      refine k_sub [0, 1, 2, 3, 4] rfl ?_
      exact k_X10_fares_b57 C E hrec39 T x1 x2 x3 x4 (0 : Int32) h
    · refine k_iconst (pc := 52) (v := (1 : Int32)) C dX10_fares_52 ciconst_1 ?_
      refine k_goto (pc := 53) C 57 dX10_fares_53 (by decide) ?_
      refine k_sub [0, 1, 2, 3, 4] rfl ?_
      exact k_X10_fares_b57 C E hrec39 T x1 x2 x3 x4 (1 : Int32) h
set_option maxHeartbeats 4000000 in
set_option maxRecDepth 100000 in
theorem k_X10_fares_l39 {B : KB} {X : KE} {res : Int32 × TT} (C : Cx B X "GriefEngine" cX10_fares 7 6) (E : Cr B X (some .int) (some (.int res.1)) res.2) : ∀ (n : Nat) (T : TT) (x1 : Int32) (x2 : Int32) (x3 : Int32) (x4 : Int32) (h : m_X10_fares_l39 n T x1 x2 x3 x4 = some res), Wk B X 7 T 39 [(0, .ref (B.1 4 0)), (1, .int x1), (2, .int x2), (3, .int x3), (4, .int x4)] [] := by
  intro n
  induction n with
  | zero =>
    intro T x1 x2 x3 x4 h
    exact no_some h
  | succ n ih =>
    intro T x1 x2 x3 x4 h
    exact k_X10_fares_h39 C E (fun T x1 x2 x3 x4 h => ih T x1 x2 x3 x4 h) T x1 x2 x3 x4 h
set_option maxHeartbeats 4000000 in
set_option maxRecDepth 100000 in
theorem k_X10_fares_b27 {B : KB} {X : KE} {res : Int32 × TT} (C : Cx B X "GriefEngine" cX10_fares 7 6) (E : Cr B X (some .int) (some (.int res.1)) res.2) (T : TT) (h : m_X10_fares_b27 T = some res) : Wk B X 7 T 27 [(0, .ref (B.1 4 0))] [] := by
  unfold m_X10_fares_b27 at h
  refine k_aload_n (pc := 27) C dX10_fares_27 0 rfl ?_
  refine k_bipush (pc := 28) (v := (-2 : Int32)) C dX10_fares_28 cbipush_m2 ?_
  obtain ⟨z15, e15, h⟩ := bnd h
  refine k_callvI (pc := 30) C lk_X10_73 (by decide) ix_X10 wo_X10 rfl rfl (kc_X10_refuse e15) dX10_fares_30 rfl rfl (Nat.le_of_ble_eq_true rfl) ?_
  exact k_iret (pc := 33) C E (some_1 h) (some_2 h) dX10_fares_33
set_option maxHeartbeats 4000000 in
set_option maxRecDepth 100000 in
theorem kc_X10_fares {B : KB} {l : Launch} {T : TT} {x1 : Int32} {x2 : Int32} {res : Int32 × TT} (h : m_X10_fares T x1 x2 = some res) : Kt B l 6 yX10_fares cX10_fares 7 (some .int) T [.ref (B.1 4 0), .int x1, .int x2] (some (.int res.1)) res.2 := by
  refine Kt.of (by decide) (Nat.le_of_ble_eq_true rfl) (fun X hX C E => ?_)
  subst hX
  have C : Cx B X "GriefEngine" cX10_fares 7 6 := C
  show Wk B X 7 T 0 [(0, .ref (B.1 4 0)), (1, .int x1), (2, .int x2)] []
  unfold m_X10_fares at h
  refine k_aload_n (pc := 0) C dX10_fares_0 0 rfl ?_
  refine gf_X10_12 (pc := 1) C dX10_fares_1 ?_
  refine k_iload_n (pc := 4) C dX10_fares_4 1 rfl ?_
  obtain ⟨z1, e1, h⟩ := bnd h
  refine k_callvI (pc := 5) C lk_X10_132 (by decide) (ix_X4 lt4_0) (wo_X4 lt4_0) rfl rfl (kc_X4_has lt4_0 e1) dX10_fares_5 rfl rfl (Nat.le_of_ble_eq_true rfl) ?_
  refine k_if_eq (pc := 8) C 27 dX10_fares_8 (by decide) h (fun c5 h => ?_) (fun c5 h => ?_)
  · refine k_sub [0] rfl ?_
    exact k_X10_fares_b27 C E T h
  · refine k_aload_n (pc := 11) C dX10_fares_11 0 rfl ?_
    refine gf_X10_12 (pc := 12) C dX10_fares_12 ?_
    refine k_iload_n (pc := 15) C dX10_fares_15 2 rfl ?_
    obtain ⟨z2, e2, h⟩ := bnd h
    refine k_callvI (pc := 16) C lk_X10_132 (by decide) (ix_X4 lt4_0) (wo_X4 lt4_0) rfl rfl (kc_X4_has lt4_0 e2) dX10_fares_16 rfl rfl (Nat.le_of_ble_eq_true rfl) ?_
    refine k_if_eq (pc := 19) C 27 dX10_fares_19 (by decide) h (fun c4 h => ?_) (fun c4 h => ?_)
    · refine k_sub [0] rfl ?_
      exact k_X10_fares_b27 C E T h
    · refine k_iload_n (pc := 22) C dX10_fares_22 1 rfl ?_
      refine k_iload_n (pc := 23) C dX10_fares_23 2 rfl ?_
      refine k_icmp_ne (pc := 24) C 34 dX10_fares_24 (by decide) h (fun c3 h => ?_) (fun c3 h => ?_)
      · refine k_iconst (pc := 34) (v := (0 : Int32)) C dX10_fares_34 ciconst_0 ?_
        refine k_istore_n (pc := 35) C [(3, .int (0 : Int32)), (0, .ref (B.1 4 0)), (1, .int x1), (2, .int x2)] dX10_fares_35 (by decide) rfl ?_
        refine k_iconst (pc := 36) (v := (0 : Int32)) C dX10_fares_36 ciconst_0 ?_
        refine k_istore (pc := 37) C [(4, .int (0 : Int32)), (3, .int (0 : Int32)), (0, .ref (B.1 4 0)), (1, .int x1), (2, .int x2)] dX10_fares_37 (by decide) rfl ?_
        refine k_sub [2, 3, 4, 1, 0] rfl ?_
        exact k_X10_fares_l39 C E FU T x1 x2 (0 : Int32) (0 : Int32) h
      · refine k_sub [0] rfl ?_
        exact k_X10_fares_b27 C E T h
def m_X10_tenTo_h4 (rec4 : Int32 → Int64 → Int32 → Option (Int64)) (x0 : Int32) (x1 : Int64) (x3 : Int32) : Option (Int64) := if x0 ≤ x3 then (some x1) else (if (6 : Int32) ≤ x3 then (some x1) else (bT (x1 * (10 : Int64)) (fun y1 => bT (x3 + (1 : Int32)) (fun y2 => rec4 x0 y1 y2))))
def m_X10_tenTo_l4 : Nat → Int32 → Int64 → Int32 → Option (Int64)
  | 0 => fun _ _ _ => none
  | n + 1 => fun x0 x1 x3 => m_X10_tenTo_h4 (m_X10_tenTo_l4 n) x0 x1 x3
def m_X10_tenTo (x0 : Int32) : Option (Int64) := m_X10_tenTo_l4 FU x0 (1 : Int64) (0 : Int32)
set_option maxHeartbeats 4000000 in
set_option maxRecDepth 100000 in
theorem k_X10_tenTo_h4 {B : KB} {X : KE} {rec4 : Int32 → Int64 → Int32 → Option (Int64)} {T0 : TT} {res : Int64} (C : Cx B X "GriefEngine" cX10_tenTo 4 1) (E : Cr B X (some .long) (some (.long res)) T0) (hrec4 : ∀ (x0 : Int32) (x1 : Int64) (x3 : Int32), rec4 x0 x1 x3 = some res → Wk B X 4 T0 4 [(0, .int x0), (1, .long x1), (3, .int x3)] []) (x0 : Int32) (x1 : Int64) (x3 : Int32) (h : m_X10_tenTo_h4 rec4 x0 x1 x3 = some res) : Wk B X 4 T0 4 [(0, .int x0), (1, .long x1), (3, .int x3)] [] := by
  unfold m_X10_tenTo_h4 at h
  refine k_iload_n (pc := 4) C dX10_tenTo_4 2 rfl ?_
  refine k_iload_n (pc := 5) C dX10_tenTo_5 0 rfl ?_
  refine k_icmp_ge (pc := 6) C 27 dX10_tenTo_6 (by decide) h (fun c4 h => ?_) (fun c4 h => ?_)
  · refine k_lload_n (pc := 27) C dX10_tenTo_27 1 rfl ?_
    exact k_lret (pc := 28) C E (some_i h) rfl dX10_tenTo_28
  · refine k_iload_n (pc := 9) C dX10_tenTo_9 2 rfl ?_
    refine k_bipush (pc := 10) (v := (6 : Int32)) C dX10_tenTo_10 cbipush_6 ?_
    refine k_icmp_ge (pc := 12) C 27 dX10_tenTo_12 (by decide) h (fun c3 h => ?_) (fun c3 h => ?_)
    · refine k_lload_n (pc := 27) C dX10_tenTo_27 1 rfl ?_
      exact k_lret (pc := 28) C E (some_i h) rfl dX10_tenTo_28
    · refine k_lload_n (pc := 15) C dX10_tenTo_15 1 rfl ?_
      refine k_ldc2_w (pc := 16) (v := (10 : Int64)) C dX10_tenTo_16 tw4_2 ?_
      refine k_lmul (pc := 19) C dX10_tenTo_19 ?_
      refine k_nL h (fun y1 h => ?_)
      refine k_lstore_n (pc := 20) C [(1, .long y1), (0, .int x0), (3, .int x3)] dX10_tenTo_20 (by decide) rfl ?_
      refine k_iincN (pc := 21) (x := x3) (c := (1 : Int32)) C (fun y2 => [(3, .int y2), (1, .long y1), (0, .int x0)]) dX10_tenTo_21 2 rfl ciconst_1 (by decide) (fun _ => rfl) h (fun y2 h => ?_)
      refine k_goto (pc := 24) C 4 dX10_tenTo_24 (by decide) ?_
      refine k_sub [2, 1, 0] rfl ?_
      exact hrec4 x0 y1 y2 h
set_option maxHeartbeats 4000000 in
set_option maxRecDepth 100000 in
theorem k_X10_tenTo_l4 {B : KB} {X : KE} {T0 : TT} {res : Int64} (C : Cx B X "GriefEngine" cX10_tenTo 4 1) (E : Cr B X (some .long) (some (.long res)) T0) : ∀ (n : Nat) (x0 : Int32) (x1 : Int64) (x3 : Int32) (h : m_X10_tenTo_l4 n x0 x1 x3 = some res), Wk B X 4 T0 4 [(0, .int x0), (1, .long x1), (3, .int x3)] [] := by
  intro n
  induction n with
  | zero =>
    intro x0 x1 x3 h
    exact no_some h
  | succ n ih =>
    intro x0 x1 x3 h
    exact k_X10_tenTo_h4 C E (fun x0 x1 x3 h => ih x0 x1 x3 h) x0 x1 x3 h
set_option maxHeartbeats 4000000 in
set_option maxRecDepth 100000 in
theorem kc_X10_tenTo {B : KB} {l : Launch} {T : TT} {x0 : Int32} {res : Int64} (h : m_X10_tenTo x0 = some res) : Kt B l 1 yX10_tenTo cX10_tenTo 4 (some .long) T [.int x0] (some (.long res)) T := by
  refine Kt.of (by decide) (Nat.le_of_ble_eq_true rfl) (fun X hX C E => ?_)
  subst hX
  have C : Cx B X "GriefEngine" cX10_tenTo 4 1 := C
  show Wk B X 4 T 0 [(0, .int x0)] []
  unfold m_X10_tenTo at h
  refine k_lconst (pc := 0) (v := (1 : Int64)) C dX10_tenTo_0 (by decide) ?_
  refine k_lstore_n (pc := 1) C [(1, .long (1 : Int64)), (0, .int x0)] dX10_tenTo_1 (by decide) rfl ?_
  refine k_iconst (pc := 2) (v := (0 : Int32)) C dX10_tenTo_2 ciconst_0 ?_
  refine k_istore_n (pc := 3) C [(3, .int (0 : Int32)), (1, .long (1 : Int64)), (0, .int x0)] dX10_tenTo_3 (by decide) rfl ?_
  refine k_sub [2, 1, 0] rfl ?_
  exact k_X10_tenTo_l4 C E FU x0 (1 : Int64) (0 : Int32) h
def m_X10_tenfoldMean_e (self : (Nat × Nat) → Int32 → Int32 → Int32 → Int32 → Option (Int64)) (h0 : Nat × Nat) (x1 : Int32) (x2 : Int32) (x3 : Int32) (x4 : Int32) : Option (Int64) := if x3 ≤ 0 then (some (0 : Int64)) else (if x3 ≤ (6 : Int32) then ((m_X10_seasonOf x1).bind (fun z1 => (v_runs h0 z1 x2).bind (fun z2 => (m_X10_tenTo (x3 - (1 : Int32))).bind (fun z3 => bT ((z2.toInt64) * z3) (fun y4 => (v_left h0 (0 : Int32) x2).bind (fun z5 => (self h0 (x1 + (1 : Int32)) z5 (x3 - (1 : Int32)) x4).bind (fun z6 => (v_left h0 (2 : Int32) x2).bind (fun z7 => (self h0 (x1 + (1 : Int32)) z7 (x3 - (1 : Int32)) x4).bind (fun z8 => some (((((10 : Int32) - x4).toInt64) * (y4 + z6)) + ((x4.toInt64) * z8))))))))))) else (some (0 : Int64)))
def m_X10_tenfoldMean : Nat → (Nat × Nat) → Int32 → Int32 → Int32 → Int32 → Option (Int64)
  | 0 => fun _ _ _ _ _ => none
  | n + 1 => fun h0 x1 x2 x3 x4 => m_X10_tenfoldMean_e (m_X10_tenfoldMean n) h0 x1 x2 x3 x4
set_option maxHeartbeats 4000000 in
set_option maxRecDepth 100000 in
theorem kc0_X10_tenfoldMean {B : KB} {l : Launch} : ∀ (n : Nat) {T : TT} {h0 : Nat × Nat} {x1 : Int32} {x2 : Int32} {x3 : Int32} {x4 : Int32} {res : Int64}, kok h0.1 h0.2 → m_X10_tenfoldMean n h0 x1 x2 x3 x4 = some res → Kt B l (4 + n) yX10_tenfoldMean cX10_tenfoldMean 11 (some .long) T [.ref (B.1 h0.1 h0.2), .int x1, .int x2, .int x3, .int x4] (some (.long res)) T := by
  intro n
  induction n with
  | zero =>
    intro T h0 x1 x2 x3 x4 res hk0 h
    exact no_some h
  | succ n ih =>
    intro T h0 x1 x2 x3 x4 res hk0 h
    refine Kt.of (by decide) (Nat.le_of_ble_eq_true rfl) (fun X hX C E => ?_)
    subst hX
    generalize hdd : 4 + (n + 1) = d at C
    have C : Cx B X "GriefEngine" cX10_tenfoldMean 11 d := C
    have hdS : 4 + n < d ∧ 4 ≤ d := by omega
    have hself := @ih
    skip
    show Wk B X 11 T 0 [(0, .ref (B.1 h0.1 h0.2)), (1, .int x1), (2, .int x2), (3, .int x3), (4, .int x4)] []
    have h : m_X10_tenfoldMean_e (m_X10_tenfoldMean n) h0 x1 x2 x3 x4 = some res := h
    unfold m_X10_tenfoldMean_e at h
    refine k_iload_n (pc := 0) C dX10_tenfoldMean_0 3 rfl ?_
    refine k_if_le (pc := 1) C 10 dX10_tenfoldMean_1 (by decide) h (fun c10 h => ?_) (fun c10 h => ?_)
    · refine k_lconst (pc := 10) (v := (0 : Int64)) C dX10_tenfoldMean_10 (by decide) ?_
      exact k_lret (pc := 11) C E (some_i h) rfl dX10_tenfoldMean_11
    · refine k_iload_n (pc := 4) C dX10_tenfoldMean_4 3 rfl ?_
      refine k_bipush (pc := 5) (v := (6 : Int32)) C dX10_tenfoldMean_5 cbipush_6 ?_
      refine k_icmp_le (pc := 7) C 12 dX10_tenfoldMean_7 (by decide) h (fun c9 h => ?_) (fun c9 h => ?_)
      · refine k_aload_n (pc := 12) C dX10_tenfoldMean_12 0 rfl ?_
        refine k_iload_n (pc := 13) C dX10_tenfoldMean_13 1 rfl ?_
        obtain ⟨z1, e1, h⟩ := bnd h
        refine k_callsI (pc := 14) C lk_X10_157 (by omega) (kc_X10_seasonOf e1) dX10_tenfoldMean_14 rfl rfl (Nat.le_of_ble_eq_true rfl) ?_
        refine k_iload_n (pc := 17) C dX10_tenfoldMean_17 2 rfl ?_
        obtain ⟨z2, e2, h⟩ := bnd h
        refine kv_runs (pc := 18) C lk_X10_160 (by omega) hk0 e2 dX10_tenfoldMean_18 (Nat.le_of_ble_eq_true rfl) ?_
        refine k_i2l (pc := 21) C dX10_tenfoldMean_21 ?_
        refine k_iload_n (pc := 22) C dX10_tenfoldMean_22 3 rfl ?_
        refine k_iconst (pc := 23) (v := (1 : Int32)) C dX10_tenfoldMean_23 ciconst_1 ?_
        refine k_isub (pc := 24) C dX10_tenfoldMean_24 ?_
        obtain ⟨z3, e3, h⟩ := bnd h
        refine k_callsJ (pc := 25) C lk_X10_227 (by omega) (kc_X10_tenTo e3) dX10_tenfoldMean_25 rfl rfl (Nat.le_of_ble_eq_true rfl) ?_
        refine k_lmul (pc := 28) C dX10_tenfoldMean_28 ?_
        refine k_nL h (fun y4 h => ?_)
        refine k_lstore (pc := 29) C [(5, .long y4), (0, .ref (B.1 h0.1 h0.2)), (1, .int x1), (2, .int x2), (3, .int x3), (4, .int x4)] dX10_tenfoldMean_29 (by decide) rfl ?_
        refine k_aload_n (pc := 31) C dX10_tenfoldMean_31 1 rfl ?_
        refine k_iload_n (pc := 32) C dX10_tenfoldMean_32 2 rfl ?_
        refine k_iconst (pc := 33) (v := (1 : Int32)) C dX10_tenfoldMean_33 ciconst_1 ?_
        refine k_iadd (pc := 34) C dX10_tenfoldMean_34 ?_
        refine k_aload_n (pc := 35) C dX10_tenfoldMean_35 1 rfl ?_
        refine k_iconst (pc := 36) (v := (0 : Int32)) C dX10_tenfoldMean_36 ciconst_0 ?_
        refine k_iload_n (pc := 37) C dX10_tenfoldMean_37 3 rfl ?_
        obtain ⟨z5, e5, h⟩ := bnd h
        refine kv_left (pc := 38) C lk_X10_165 (by omega) hk0 e5 dX10_tenfoldMean_38 (Nat.le_of_ble_eq_true rfl) ?_
        refine k_iload_n (pc := 41) C dX10_tenfoldMean_41 4 rfl ?_
        refine k_iconst (pc := 42) (v := (1 : Int32)) C dX10_tenfoldMean_42 ciconst_1 ?_
        refine k_isub (pc := 43) C dX10_tenfoldMean_43 ?_
        refine k_iload (pc := 44) C dX10_tenfoldMean_44 5 rfl ?_
        obtain ⟨z6, e6, h⟩ := bnd h
        refine k_callsJ (pc := 46) C lk_X10_223 (by omega) (hself hk0 e6) dX10_tenfoldMean_46 rfl rfl (Nat.le_of_ble_eq_true rfl) ?_
        refine k_lstore (pc := 49) C [(7, .long z6), (5, .long y4), (0, .ref (B.1 h0.1 h0.2)), (1, .int x1), (2, .int x2), (3, .int x3), (4, .int x4)] dX10_tenfoldMean_49 (by decide) rfl ?_
        refine k_aload_n (pc := 51) C dX10_tenfoldMean_51 2 rfl ?_
        refine k_iload_n (pc := 52) C dX10_tenfoldMean_52 3 rfl ?_
        refine k_iconst (pc := 53) (v := (1 : Int32)) C dX10_tenfoldMean_53 ciconst_1 ?_
        refine k_iadd (pc := 54) C dX10_tenfoldMean_54 ?_
        refine k_aload_n (pc := 55) C dX10_tenfoldMean_55 2 rfl ?_
        refine k_iconst (pc := 56) (v := (2 : Int32)) C dX10_tenfoldMean_56 ciconst_2 ?_
        refine k_iload_n (pc := 57) C dX10_tenfoldMean_57 4 rfl ?_
        obtain ⟨z7, e7, h⟩ := bnd h
        refine kv_left (pc := 58) C lk_X10_165 (by omega) hk0 e7 dX10_tenfoldMean_58 (Nat.le_of_ble_eq_true rfl) ?_
        refine k_iload_n (pc := 61) C dX10_tenfoldMean_61 5 rfl ?_
        refine k_iconst (pc := 62) (v := (1 : Int32)) C dX10_tenfoldMean_62 ciconst_1 ?_
        refine k_isub (pc := 63) C dX10_tenfoldMean_63 ?_
        refine k_iload (pc := 64) C dX10_tenfoldMean_64 6 rfl ?_
        obtain ⟨z8, e8, h⟩ := bnd h
        refine k_callsJ (pc := 66) C lk_X10_223 (by omega) (hself hk0 e8) dX10_tenfoldMean_66 rfl rfl (Nat.le_of_ble_eq_true rfl) ?_
        refine k_lstore (pc := 69) C [(9, .long z8), (7, .long z6), (5, .long y4), (0, .ref (B.1 h0.1 h0.2)), (1, .int x1), (2, .int x2), (3, .int x3), (4, .int x4)] dX10_tenfoldMean_69 (by decide) rfl ?_
        refine k_bipush (pc := 71) (v := (10 : Int32)) C dX10_tenfoldMean_71 cbipush_10 ?_
        refine k_iload (pc := 73) C dX10_tenfoldMean_73 7 rfl ?_
        refine k_isub (pc := 75) C dX10_tenfoldMean_75 ?_
        refine k_i2l (pc := 76) C dX10_tenfoldMean_76 ?_
        refine k_lload (pc := 77) C dX10_tenfoldMean_77 2 rfl ?_
        refine k_lload (pc := 79) C dX10_tenfoldMean_79 1 rfl ?_
        refine k_ladd (pc := 81) C dX10_tenfoldMean_81 ?_
        refine k_lmul (pc := 82) C dX10_tenfoldMean_82 ?_
        refine k_iload (pc := 83) C dX10_tenfoldMean_83 7 rfl ?_
        refine k_i2l (pc := 85) C dX10_tenfoldMean_85 ?_
        refine k_lload (pc := 86) C dX10_tenfoldMean_86 0 rfl ?_
        refine k_lmul (pc := 88) C dX10_tenfoldMean_88 ?_
        refine k_ladd (pc := 89) C dX10_tenfoldMean_89 ?_
        exact k_lret (pc := 90) C E (some_i h) rfl dX10_tenfoldMean_90
      · refine k_lconst (pc := 10) (v := (0 : Int64)) C dX10_tenfoldMean_10 (by decide) ?_
        exact k_lret (pc := 11) C E (some_i h) rfl dX10_tenfoldMean_11
set_option maxHeartbeats 4000000 in
set_option maxRecDepth 100000 in
theorem kc_X10_tenfoldMean {B : KB} {l : Launch} {T : TT} {h0 : Nat × Nat} {x1 : Int32} {x2 : Int32} {x3 : Int32} {x4 : Int32} {res : Int64} (hk0 : kok h0.1 h0.2) (h : m_X10_tenfoldMean 12 h0 x1 x2 x3 x4 = some res) : Kt B l 16 yX10_tenfoldMean cX10_tenfoldMean 11 (some .long) T [.ref (B.1 h0.1 h0.2), .int x1, .int x2, .int x3, .int x4] (some (.long res)) T := kc0_X10_tenfoldMean 12 hk0 h
def m_X10_commonDivisor_h3 (rec3 : Int64 → Int64 → Int32 → Option (Int64)) (x0 : Int64) (x2 : Int64) (x4 : Int32) : Option (Int64) := if (200 : Int32) ≤ x4 then (some x0) else (if (lg_cmp x2 (0 : Int64)) = 0 then (some x0) else (if x2 = 0 then none else (bT (x0 - x0 / x2 * x2) (fun y1 => bT (x4 + (1 : Int32)) (fun y2 => rec3 x2 y1 y2)))))
def m_X10_commonDivisor_l3 : Nat → Int64 → Int64 → Int32 → Option (Int64)
  | 0 => fun _ _ _ => none
  | n + 1 => fun x0 x2 x4 => m_X10_commonDivisor_h3 (m_X10_commonDivisor_l3 n) x0 x2 x4
def m_X10_commonDivisor (x0 : Int64) (x2 : Int64) : Option (Int64) := m_X10_commonDivisor_l3 FU x0 x2 (0 : Int32)
set_option maxHeartbeats 4000000 in
set_option maxRecDepth 100000 in
theorem k_X10_commonDivisor_h3 {B : KB} {X : KE} {rec3 : Int64 → Int64 → Int32 → Option (Int64)} {T0 : TT} {res : Int64} (C : Cx B X "GriefEngine" cX10_commonDivisor 7 1) (E : Cr B X (some .long) (some (.long res)) T0) (hrec3 : ∀ (x0 : Int64) (x2 : Int64) (x4 : Int32), rec3 x0 x2 x4 = some res → Wk B X 7 T0 3 [(0, .long x0), (2, .long x2), (4, .int x4)] []) (x0 : Int64) (x2 : Int64) (x4 : Int32) (h : m_X10_commonDivisor_h3 rec3 x0 x2 x4 = some res) : Wk B X 7 T0 3 [(0, .long x0), (2, .long x2), (4, .int x4)] [] := by
  unfold m_X10_commonDivisor_h3 at h
  refine k_iload (pc := 3) C dX10_commonDivisor_3 2 rfl ?_
  refine k_sipush (pc := 5) (v := (200 : Int32)) C dX10_commonDivisor_5 csipush_200 ?_
  refine k_icmp_ge (pc := 8) C 33 dX10_commonDivisor_8 (by decide) h (fun c4 h => ?_) (fun c4 h => ?_)
  · refine k_lload_n (pc := 33) C dX10_commonDivisor_33 0 rfl ?_
    exact k_lret (pc := 34) C E (some_i h) rfl dX10_commonDivisor_34
  · refine k_lload_n (pc := 11) C dX10_commonDivisor_11 1 rfl ?_
    refine k_lconst (pc := 12) (v := (0 : Int64)) C dX10_commonDivisor_12 (by decide) ?_
    refine k_lcmp (pc := 13) C dX10_commonDivisor_13 ?_
    refine k_if_eq (pc := 14) C 33 dX10_commonDivisor_14 (by decide) h (fun c3 h => ?_) (fun c3 h => ?_)
    · refine k_lload_n (pc := 33) C dX10_commonDivisor_33 0 rfl ?_
      exact k_lret (pc := 34) C E (some_i h) rfl dX10_commonDivisor_34
    · refine k_lload_n (pc := 17) C dX10_commonDivisor_17 0 rfl ?_
      refine k_lload_n (pc := 18) C dX10_commonDivisor_18 1 rfl ?_
      refine k_lrem (pc := 19) C dX10_commonDivisor_19 h (fun h => ?_)
      refine k_nL h (fun y1 h => ?_)
      refine k_lstore (pc := 20) C [(5, .long y1), (0, .long x0), (2, .long x2), (4, .int x4)] dX10_commonDivisor_20 (by decide) rfl ?_
      refine k_lload_n (pc := 22) C dX10_commonDivisor_22 2 rfl ?_
      refine k_lstore_n (pc := 23) C [(0, .long x2), (5, .long y1), (2, .long x2), (4, .int x4)] dX10_commonDivisor_23 (by decide) rfl ?_
      refine k_lload (pc := 24) C dX10_commonDivisor_24 1 rfl ?_
      refine k_lstore_n (pc := 26) C [(2, .long y1), (0, .long x2), (5, .long y1), (4, .int x4)] dX10_commonDivisor_26 (by decide) rfl ?_
      refine k_iincN (pc := 27) (x := x4) (c := (1 : Int32)) C (fun y2 => [(4, .int y2), (2, .long y1), (0, .long x2), (5, .long y1)]) dX10_commonDivisor_27 3 rfl ciconst_1 (by decide) (fun _ => rfl) h (fun y2 h => ?_)
      refine k_goto (pc := 30) C 3 dX10_commonDivisor_30 (by decide) ?_
      refine k_sub [2, 1, 0] rfl ?_
      exact hrec3 x2 y1 y2 h
set_option maxHeartbeats 4000000 in
set_option maxRecDepth 100000 in
theorem k_X10_commonDivisor_l3 {B : KB} {X : KE} {T0 : TT} {res : Int64} (C : Cx B X "GriefEngine" cX10_commonDivisor 7 1) (E : Cr B X (some .long) (some (.long res)) T0) : ∀ (n : Nat) (x0 : Int64) (x2 : Int64) (x4 : Int32) (h : m_X10_commonDivisor_l3 n x0 x2 x4 = some res), Wk B X 7 T0 3 [(0, .long x0), (2, .long x2), (4, .int x4)] [] := by
  intro n
  induction n with
  | zero =>
    intro x0 x2 x4 h
    exact no_some h
  | succ n ih =>
    intro x0 x2 x4 h
    exact k_X10_commonDivisor_h3 C E (fun x0 x2 x4 h => ih x0 x2 x4 h) x0 x2 x4 h
set_option maxHeartbeats 4000000 in
set_option maxRecDepth 100000 in
theorem kc_X10_commonDivisor {B : KB} {l : Launch} {T : TT} {x0 : Int64} {x2 : Int64} {res : Int64} (h : m_X10_commonDivisor x0 x2 = some res) : Kt B l 1 yX10_commonDivisor cX10_commonDivisor 7 (some .long) T [.long x0, .long x2] (some (.long res)) T := by
  refine Kt.of (by decide) (Nat.le_of_ble_eq_true rfl) (fun X hX C E => ?_)
  subst hX
  have C : Cx B X "GriefEngine" cX10_commonDivisor 7 1 := C
  show Wk B X 7 T 0 [(0, .long x0), (2, .long x2)] []
  unfold m_X10_commonDivisor at h
  refine k_iconst (pc := 0) (v := (0 : Int32)) C dX10_commonDivisor_0 ciconst_0 ?_
  refine k_istore (pc := 1) C [(4, .int (0 : Int32)), (0, .long x0), (2, .long x2)] dX10_commonDivisor_1 (by decide) rfl ?_
  refine k_sub [1, 2, 0] rfl ?_
  exact k_X10_commonDivisor_l3 C E FU x0 x2 (0 : Int32) h
def m_X10_setFraction (T : TT) (x1 : Int64) (x3 : Int64) : Option (TT) := (m_X10_commonDivisor x1 x3).bind (fun z1 => if 0 < (lg_cmp z1 (0 : Int64)) then (if z1 = 0 then none else (bT (sL T 4 9 (x1 / z1)) (fun T2 => if z1 = 0 then none else (bT (sL T2 4 10 (x3 / z1)) (fun T3 => some T3))))) else (some T))
set_option maxHeartbeats 4000000 in
set_option maxRecDepth 100000 in
theorem kc_X10_setFraction {B : KB} {l : Launch} {T : TT} {x1 : Int64} {x3 : Int64} {res : TT} (h : m_X10_setFraction T x1 x3 = some res) : Kt B l 2 yX10_setFraction cX10_setFraction 7 none T [.ref (B.1 4 0), .long x1, .long x3] none res := by
  refine Kt.of (by decide) (Nat.le_of_ble_eq_true rfl) (fun X hX C E => ?_)
  subst hX
  have C : Cx B X "GriefEngine" cX10_setFraction 7 2 := C
  show Wk B X 7 T 0 [(0, .ref (B.1 4 0)), (1, .long x1), (3, .long x3)] []
  unfold m_X10_setFraction at h
  refine k_lload_n (pc := 0) C dX10_setFraction_0 1 rfl ?_
  refine k_lload_n (pc := 1) C dX10_setFraction_1 2 rfl ?_
  obtain ⟨z1, e1, h⟩ := bnd h
  refine k_callsJ (pc := 2) C lk_X10_289 (by decide) (kc_X10_commonDivisor e1) dX10_setFraction_2 rfl rfl (Nat.le_of_ble_eq_true rfl) ?_
  refine k_lstore (pc := 5) C [(5, .long z1), (0, .ref (B.1 4 0)), (1, .long x1), (3, .long x3)] dX10_setFraction_5 (by decide) rfl ?_
  refine k_lload (pc := 7) C dX10_setFraction_7 0 rfl ?_
  refine k_lconst (pc := 9) (v := (0 : Int64)) C dX10_setFraction_9 (by decide) ?_
  refine k_lcmp (pc := 10) C dX10_setFraction_10 ?_
  refine k_if_gt (pc := 11) C 15 dX10_setFraction_11 (by decide) h (fun c4 h => ?_) (fun c4 h => ?_)
  · refine k_aload_n (pc := 15) C dX10_setFraction_15 1 rfl ?_
    refine k_lload_n (pc := 16) C dX10_setFraction_16 2 rfl ?_
    refine k_lload (pc := 17) C dX10_setFraction_17 0 rfl ?_
    refine k_ldiv (pc := 19) C dX10_setFraction_19 h (fun h => ?_)
    refine pf_X10_55 (pc := 20) C dX10_setFraction_20 ?_
    refine k_nT h (fun T2 h => ?_)
    refine k_aload_n (pc := 23) C dX10_setFraction_23 1 rfl ?_
    refine k_lload_n (pc := 24) C dX10_setFraction_24 3 rfl ?_
    refine k_lload (pc := 25) C dX10_setFraction_25 0 rfl ?_
    refine k_ldiv (pc := 27) C dX10_setFraction_27 h (fun h => ?_)
    refine pf_X10_59 (pc := 28) C dX10_setFraction_28 ?_
    refine k_nT h (fun T3 h => ?_)
    exact k_vret (pc := 31) C E (some_i h) dX10_setFraction_31
  · exact k_vret (pc := 14) C E (some_i h) dX10_setFraction_14
