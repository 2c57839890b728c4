def m_X5_reckonAfter_b98 (rec5 : TT → Int32 → Option (TT)) (rec11 : TT → Int32 → Int32 → Option (TT)) (T : TT) (x1 : Int32) (x2 : Int32) : Option (TT) := bT (x2 + (1 : Int32)) (fun y17 => rec11 T x1 y17)
def m_X5_reckonAfter_h55 (rec5 : TT → Int32 → Option (TT)) (rec11 : TT → Int32 → Int32 → Option (TT)) (rec55 : TT → Int32 → Int32 → Int32 → Int32 → Option (TT)) (T : TT) (x1 : Int32) (x2 : Int32) (x3 : Int32) (x4 : Int32) : Option (TT) := if (3 : Int32) ≤ x4 then (m_X5_reckonAfter_b98 rec5 rec11 T x1 x2) else (if x3 = 0 then (m_X5_reckonAfter_b98 rec5 rec11 T x1 x2) else (if inb x1 8 then (if inb x1 8 then (if inb x2 100 then ((m_X5_milesBy T x1 x2 x4).bind (fun z12 => if inb x2 100 then bT (sA T 9 ((Int32.toNatClampNeg x1) + 1) (Int32.toNatClampNeg x2) (if (T.1 9 ((Int32.toNatClampNeg x1) + 1) (Int32.toNatClampNeg x2)) < z12 then z12 else (T.1 9 ((Int32.toNatClampNeg x1) + 1) (Int32.toNatClampNeg x2)))) (fun T13 => bT (x4 + (1 : Int32)) (fun y14 => rec55 T13 x1 x2 x3 y14)) else none)) else none) else none) else none))
def m_X5_reckonAfter_l55 (rec5 : TT → Int32 → Option (TT)) (rec11 : TT → Int32 → Int32 → Option (TT)) : Nat → TT → Int32 → Int32 → Int32 → Int32 → Option (TT)
  | 0 => fun _ _ _ _ _ => none
  | n + 1 => fun T x1 x2 x3 x4 => m_X5_reckonAfter_h55 rec5 rec11 (m_X5_reckonAfter_l55 rec5 rec11 n) T x1 x2 x3 x4
def m_X5_reckonAfter_b51 (rec5 : TT → Int32 → Option (TT)) (rec11 : TT → Int32 → Int32 → Option (TT)) (T : TT) (x1 : Int32) (x2 : Int32) (s0 : Int32) : Option (TT) := m_X5_reckonAfter_l55 rec5 rec11 FU T x1 x2 s0 (0 : Int32)
def m_X5_reckonAfter_b50 (rec5 : TT → Int32 → Option (TT)) (rec11 : TT → Int32 → Int32 → Option (TT)) (T : TT) (x1 : Int32) (x2 : Int32) : Option (TT) := m_X5_reckonAfter_b51 rec5 rec11 T x1 x2 (0 : Int32)
def m_X5_reckonAfter_h11 (rec5 : TT → Int32 → Option (TT)) (rec11 : TT → Int32 → Int32 → Option (TT)) (T : TT) (x1 : Int32) (x2 : Int32) : Option (TT) := if (100 : Int32) ≤ x2 then (bT (x1 + (-1 : Int32)) (fun y3 => rec5 T y3)) else (if inb x1 8 then (if inb x2 100 then bT (sA T 9 ((Int32.toNatClampNeg x1) + 1) (Int32.toNatClampNeg x2) (0 : Int32)) (fun T5 => if (T5.2.1 6 5) ≤ x1 then (m_X5_reckonAfter_b50 rec5 rec11 T5 x1 x2) else (if inb x1 8 then (if inb x2 100 then (if (T5.1 8 ((Int32.toNatClampNeg x1) + 1) (Int32.toNatClampNeg x2)) = (-1 : Int32) then (m_X5_reckonAfter_b50 rec5 rec11 T5 x1 x2) else (m_X5_reckonAfter_b51 rec5 rec11 T5 x1 x2 (1 : Int32))) else none) else none)) else none) else none)
def m_X5_reckonAfter_l11 (rec5 : TT → Int32 → Option (TT)) : Nat → TT → Int32 → Int32 → Option (TT)
  | 0 => fun _ _ _ => none
  | n + 1 => fun T x1 x2 => m_X5_reckonAfter_h11 rec5 (m_X5_reckonAfter_l11 rec5 n) T x1 x2
def m_X5_reckonAfter_h5 (rec5 : TT → Int32 → Option (TT)) (T : TT) (x1 : Int32) : Option (TT) := if x1 < 0 then (some T) else (m_X5_reckonAfter_l11 rec5 FU T x1 (0 : Int32))
def m_X5_reckonAfter_l5 : Nat → TT → Int32 → Option (TT)
  | 0 => fun _ _ => none
  | n + 1 => fun T x1 => m_X5_reckonAfter_h5 (m_X5_reckonAfter_l5 n) T x1
def m_X5_reckonAfter (T : TT) : Option (TT) := bT (T.2.1 6 5) (fun y1 => m_X5_reckonAfter_l5 FU T y1)
set_option maxHeartbeats 4000000 in
set_option maxRecDepth 100000 in
theorem k_X5_reckonAfter_b98 {B : KB} {X : KE} {rec5 : TT → Int32 → Option (TT)} {rec11 : TT → Int32 → Int32 → Option (TT)} {res : TT} (C : Cx B X "GriefEngine$Rows" cX5_reckonAfter 5 5) (E : Cr B X none none res) (hrec5 : ∀ (T : TT) (x1 : Int32), rec5 T x1 = some res → Wk B X 5 T 5 [(0, .ref (B.1 6 0)), (1, .int x1)] []) (hrec11 : ∀ (T : TT) (x1 : Int32) (x2 : Int32), rec11 T x1 x2 = some res → Wk B X 5 T 11 [(0, .ref (B.1 6 0)), (1, .int x1), (2, .int x2)] []) (T : TT) (x1 : Int32) (x2 : Int32) (h : m_X5_reckonAfter_b98 rec5 rec11 T x1 x2 = some res) : Wk B X 5 T 98 [(0, .ref (B.1 6 0)), (1, .int x1), (2, .int x2)] [] := by
  unfold m_X5_reckonAfter_b98 at h
  refine k_iincN (pc := 98) (x := x2) (c := (1 : Int32)) C (fun y17 => [(2, .int y17), (0, .ref (B.1 6 0)), (1, .int x1)]) dX5_reckonAfter_98 2 rfl ciconst_1 (by decide) (fun _ => rfl) h (fun y17 h => ?_)
  refine k_goto (pc := 101) C 11 dX5_reckonAfter_101 (by decide) ?_
  refine k_sub [1, 2, 0] rfl ?_
  exact hrec11 T x1 y17 h
set_option maxHeartbeats 4000000 in
set_option maxRecDepth 100000 in
theorem k_X5_reckonAfter_h55 {B : KB} {X : KE} {rec5 : TT → Int32 → Option (TT)} {rec11 : TT → Int32 → Int32 → Option (TT)} {rec55 : TT → Int32 → Int32 → Int32 → Int32 → Option (TT)} {res : TT} (C : Cx B X "GriefEngine$Rows" cX5_reckonAfter 5 5) (E : Cr B X none none res) (hrec5 : ∀ (T : TT) (x1 : Int32), rec5 T x1 = some res → Wk B X 5 T 5 [(0, .ref (B.1 6 0)), (1, .int x1)] []) (hrec11 : ∀ (T : TT) (x1 : Int32) (x2 : Int32), rec11 T x1 x2 = some res → Wk B X 5 T 11 [(0, .ref (B.1 6 0)), (1, .int x1), (2, .int x2)] []) (hrec55 : ∀ (T : TT) (x1 : Int32) (x2 : Int32) (x3 : Int32) (x4 : Int32), rec55 T x1 x2 x3 x4 = some res → Wk B X 5 T 55 [(0, .ref (B.1 6 0)), (1, .int x1), (2, .int x2), (3, .int x3), (4, .int x4)] []) (T : TT) (x1 : Int32) (x2 : Int32) (x3 : Int32) (x4 : Int32) (h : m_X5_reckonAfter_h55 rec5 rec11 rec55 T x1 x2 x3 x4 = some res) : Wk B X 5 T 55 [(0, .ref (B.1 6 0)), (1, .int x1), (2, .int x2), (3, .int x3), (4, .int x4)] [] := by
  unfold m_X5_reckonAfter_h55 at h
  refine k_iload (pc := 55) C dX5_reckonAfter_55 4 rfl ?_
  refine k_iconst (pc := 57) (v := (3 : Int32)) C dX5_reckonAfter_57 ciconst_3 ?_
  refine k_icmp_ge (pc := 58) C 98 dX5_reckonAfter_58 (by decide) h (fun c16 h => ?_) (fun c16 h => ?_)
  · refine k_sub [0, 1, 2] rfl ?_
    exact k_X5_reckonAfter_b98 C E hrec5 hrec11 T x1 x2 h
  · refine k_iload_n (pc := 61) C dX5_reckonAfter_61 3 rfl ?_
    refine k_if_eq (pc := 62) C 98 dX5_reckonAfter_62 (by decide) h (fun c15 h => ?_) (fun c15 h => ?_)
    · refine k_sub [0, 1, 2] rfl ?_
      exact k_X5_reckonAfter_b98 C E hrec5 hrec11 T x1 x2 h
    · refine k_aload_n (pc := 65) C dX5_reckonAfter_65 0 rfl ?_
      refine gf_X5_16 (pc := 66) C dX5_reckonAfter_66 ?_
      refine k_iload_n (pc := 69) C dX5_reckonAfter_69 1 rfl ?_
      refine k_qald (pc := 70) C iq_aft rfl rfl dX5_reckonAfter_70 h (fun hi10 h => ?_)
      refine k_iload_n (pc := 71) C dX5_reckonAfter_71 2 rfl ?_
      refine k_aload_n (pc := 72) C dX5_reckonAfter_72 0 rfl ?_
      refine gf_X5_16 (pc := 73) C dX5_reckonAfter_73 ?_
      refine k_iload_n (pc := 76) C dX5_reckonAfter_76 1 rfl ?_
      refine k_qald (pc := 77) C iq_aft rfl rfl dX5_reckonAfter_77 h (fun hi11 h => ?_)
      refine k_iload_n (pc := 78) C dX5_reckonAfter_78 2 rfl ?_
      refine k_iald (pc := 79) C (ia_9 (inb_lt hi11)) dX5_reckonAfter_79 h (fun h => ?_)
      refine k_aload_n (pc := 80) C dX5_reckonAfter_80 0 rfl ?_
      refine k_iload_n (pc := 81) C dX5_reckonAfter_81 1 rfl ?_
      refine k_iload_n (pc := 82) C dX5_reckonAfter_82 2 rfl ?_
      refine k_iload (pc := 83) C dX5_reckonAfter_83 4 rfl ?_
      obtain ⟨z12, e12, h⟩ := bnd h
      refine k_callvI (pc := 85) C lk_X5_82 (by decide) ix_X5 wo_X5 rfl rfl (kc_X5_milesBy e12) dX5_reckonAfter_85 rfl rfl (Nat.le_of_ble_eq_true rfl) ?_
      refine k_mmax (pc := 88) C (by decide) tw3_78 tw3_14 tw1_17 tw3_15 (Nat.le_of_ble_eq_true rfl) dX5_reckonAfter_88 ?_
      refine k_iast (pc := 91) C (ia_9 (inb_lt hi10)) dX5_reckonAfter_91 h (fun h => ?_)
      refine k_nT h (fun T13 h => ?_)
      refine k_iincN (pc := 92) (x := x4) (c := (1 : Int32)) C (fun y14 => [(4, .int y14), (0, .ref (B.1 6 0)), (1, .int x1), (2, .int x2), (3, .int x3)]) dX5_reckonAfter_92 4 rfl ciconst_1 (by decide) (fun _ => rfl) h (fun y14 h => ?_)
      refine k_goto (pc := 95) C 55 dX5_reckonAfter_95 (by decide) ?_
      refine k_sub [1, 2, 3, 4, 0] rfl ?_
      exact hrec55 T13 x1 x2 x3 y14 h
set_option maxHeartbeats 4000000 in
set_option maxRecDepth 100000 in
theorem k_X5_reckonAfter_l55 {B : KB} {X : KE} {rec5 : TT → Int32 → Option (TT)} {rec11 : TT → Int32 → Int32 → Option (TT)} {res : TT} (C : Cx B X "GriefEngine$Rows" cX5_reckonAfter 5 5) (E : Cr B X none none res) (hrec5 : ∀ (T : TT) (x1 : Int32), rec5 T x1 = some res → Wk B X 5 T 5 [(0, .ref (B.1 6 0)), (1, .int x1)] []) (hrec11 : ∀ (T : TT) (x1 : Int32) (x2 : Int32), rec11 T x1 x2 = some res → Wk B X 5 T 11 [(0, .ref (B.1 6 0)), (1, .int x1), (2, .int x2)] []) : ∀ (n : Nat) (T : TT) (x1 : Int32) (x2 : Int32) (x3 : Int32) (x4 : Int32) (h : m_X5_reckonAfter_l55 rec5 rec11 n T x1 x2 x3 x4 = some res), Wk B X 5 T 55 [(0, .ref (B.1 6 0)), (1, .int x1), (2, .int x2), (3, .int x3), (4, .int x4)] [] := by
  intro n
  induction n with
  | zero =>
    intro T x1 x2 x3 x4 h
    exact no_some h
  | succ n ih =>
    intro T x1 x2 x3 x4 h
    exact k_X5_reckonAfter_h55 C E hrec5 hrec11 (fun T x1 x2 x3 x4 h => ih T x1 x2 x3 x4 h) T x1 x2 x3 x4 h
set_option maxHeartbeats 4000000 in
set_option maxRecDepth 100000 in
theorem k_X5_reckonAfter_b51 {B : KB} {X : KE} {rec5 : TT → Int32 → Option (TT)} {rec11 : TT → Int32 → Int32 → Option (TT)} {res : TT} (C : Cx B X "GriefEngine$Rows" cX5_reckonAfter 5 5) (E : Cr B X none none res) (hrec5 : ∀ (T : TT) (x1 : Int32), rec5 T x1 = some res → Wk B X 5 T 5 [(0, .ref (B.1 6 0)), (1, .int x1)] []) (hrec11 : ∀ (T : TT) (x1 : Int32) (x2 : Int32), rec11 T x1 x2 = some res → Wk B X 5 T 11 [(0, .ref (B.1 6 0)), (1, .int x1), (2, .int x2)] []) (T : TT) (x1 : Int32) (x2 : Int32) (s0 : Int32) (h : m_X5_reckonAfter_b51 rec5 rec11 T x1 x2 s0 = some res) : Wk B X 5 T 51 [(0, .ref (B.1 6 0)), (1, .int x1), (2, .int x2)] [.int s0] := by
  unfold m_X5_reckonAfter_b51 at h
  refine k_istore_n (pc := 51) C [(3, .int s0), (0, .ref (B.1 6 0)), (1, .int x1), (2, .int x2)] dX5_reckonAfter_51 (by decide) rfl ?_
  refine k_iconst (pc := 52) (v := (0 : Int32)) C dX5_reckonAfter_52 ciconst_0 ?_
  refine k_istore (pc := 53) C [(4, .int (0 : Int32)), (3, .int s0), (0, .ref (B.1 6 0)), (1, .int x1), (2, .int x2)] dX5_reckonAfter_53 (by decide) rfl ?_
  refine k_sub [2, 3, 4, 1, 0] rfl ?_
  exact k_X5_reckonAfter_l55 C E hrec5 hrec11 FU T x1 x2 s0 (0 : Int32) h
set_option maxHeartbeats 4000000 in
set_option maxRecDepth 100000 in
theorem k_X5_reckonAfter_b50 {B : KB} {X : KE} {rec5 : TT → Int32 → Option (TT)} {rec11 : TT → Int32 → Int32 → Option (TT)} {res : TT} (C : Cx B X "GriefEngine$Rows" cX5_reckonAfter 5 5) (E : Cr B X none none res) (hrec5 : ∀ (T : TT) (x1 : Int32), rec5 T x1 = some res → Wk B X 5 T 5 [(0, .ref (B.1 6 0)), (1, .int x1)] []) (hrec11 : ∀ (T : TT) (x1 : Int32) (x2 : Int32), rec11 T x1 x2 = some res → Wk B X 5 T 11 [(0, .ref (B.1 6 0)), (1, .int x1), (2, .int x2)] []) (T : TT) (x1 : Int32) (x2 : Int32) (h : m_X5_reckonAfter_b50 rec5 rec11 T x1 x2 = some res) : Wk B X 5 T 50 [(0, .ref (B.1 6 0)), (1, .int x1), (2, .int x2)] [] := by
  unfold m_X5_reckonAfter_b50 at h
  refine k_iconst (pc := 50) (v := (0 : Int32)) C dX5_reckonAfter_50 ciconst_0 ?_
  refine k_sub [0, 1, 2] rfl ?_
  exact k_X5_reckonAfter_b51 C E hrec5 hrec11 T x1 x2 (0 : Int32) h
set_option maxHeartbeats 4000000 in
set_option maxRecDepth 100000 in
theorem k_X5_reckonAfter_h11 {B : KB} {X : KE} {rec5 : TT → Int32 → Option (TT)} {rec11 : TT → Int32 → Int32 → Option (TT)} {res : TT} (C : Cx B X "GriefEngine$Rows" cX5_reckonAfter 5 5) (E : Cr B X none none res) (hrec5 : ∀ (T : TT) (x1 : Int32), rec5 T x1 = some res → Wk B X 5 T 5 [(0, .ref (B.1 6 0)), (1, .int x1)] []) (hrec11 : ∀ (T : TT) (x1 : Int32) (x2 : Int32), rec11 T x1 x2 = some res → Wk B X 5 T 11 [(0, .ref (B.1 6 0)), (1, .int x1), (2, .int x2)] []) (T : TT) (x1 : Int32) (x2 : Int32) (h : m_X5_reckonAfter_h11 rec5 rec11 T x1 x2 = some res) : Wk B X 5 T 11 [(0, .ref (B.1 6 0)), (1, .int x1), (2, .int x2)] [] := by
  unfold m_X5_reckonAfter_h11 at h
  refine k_iload_n (pc := 11) C dX5_reckonAfter_11 2 rfl ?_
  refine k_bipush (pc := 12) (v := (100 : Int32)) C dX5_reckonAfter_12 cbipush_100 ?_
  refine k_icmp_ge (pc := 14) C 104 dX5_reckonAfter_14 (by decide) h (fun c9 h => ?_) (fun c9 h => ?_)
  · refine k_iincN (pc := 104) (x := x1) (c := (-1 : Int32)) C (fun y3 => [(1, .int y3), (0, .ref (B.1 6 0)), (2, .int x2)]) dX5_reckonAfter_104 1 rfl ciconst_m1 (by decide) (fun _ => rfl) h (fun y3 h => ?_)
    refine k_goto (pc := 107) C 5 dX5_reckonAfter_107 (by decide) ?_
    refine k_sub [1, 0] rfl ?_
    exact hrec5 T y3 h
  · refine k_aload_n (pc := 17) C dX5_reckonAfter_17 0 rfl ?_
    refine gf_X5_16 (pc := 18) C dX5_reckonAfter_18 ?_
    refine k_iload_n (pc := 21) C dX5_reckonAfter_21 1 rfl ?_
    refine k_qald (pc := 22) C iq_aft rfl rfl dX5_reckonAfter_22 h (fun hi4 h => ?_)
    refine k_iload_n (pc := 23) C dX5_reckonAfter_23 2 rfl ?_
    refine k_iconst (pc := 24) (v := (0 : Int32)) C dX5_reckonAfter_24 ciconst_0 ?_
    refine k_iast (pc := 25) C (ia_9 (inb_lt hi4)) dX5_reckonAfter_25 h (fun h => ?_)
    refine k_nT h (fun T5 h => ?_)
    refine k_iload_n (pc := 26) C dX5_reckonAfter_26 1 rfl ?_
    refine k_aload_n (pc := 27) C dX5_reckonAfter_27 0 rfl ?_
    refine gf_X5_59 (pc := 28) C dX5_reckonAfter_28 ?_
    refine k_icmp_ge (pc := 31) C 50 dX5_reckonAfter_31 (by decide) h (fun c8 h => ?_) (fun c8 h => ?_)
    · refine k_sub [0, 1, 2] rfl ?_
      exact k_X5_reckonAfter_b50 C E hrec5 hrec11 T5 x1 x2 h
    · refine k_aload_n (pc := 34) C dX5_reckonAfter_34 0 rfl ?_
      refine gf_X5_11 (pc := 35) C dX5_reckonAfter_35 ?_
      refine k_iload_n (pc := 38) C dX5_reckonAfter_38 1 rfl ?_
      refine k_qald (pc := 39) C iq_bef rfl rfl dX5_reckonAfter_39 h (fun hi6 h => ?_)
      refine k_iload_n (pc := 40) C dX5_reckonAfter_40 2 rfl ?_
      refine k_iald (pc := 41) C (ia_8 (inb_lt hi6)) dX5_reckonAfter_41 h (fun h => ?_)
      refine k_iconst (pc := 42) (v := (-1 : Int32)) C dX5_reckonAfter_42 ciconst_m1 ?_
      refine k_icmp_eq (pc := 43) C 50 dX5_reckonAfter_43 (by decide) h (fun c7 h => ?_) (fun c7 h => ?_)
      · refine k_sub [0, 1, 2] rfl ?_
        exact k_X5_reckonAfter_b50 C E hrec5 hrec11 T5 x1 x2 h
      · refine k_iconst (pc := 46) (v := (1 : Int32)) C dX5_reckonAfter_46 ciconst_1 ?_
        refine k_goto (pc := 47) C 51 dX5_reckonAfter_47 (by decide) ?_
        refine k_sub [0, 1, 2] rfl ?_
        exact k_X5_reckonAfter_b51 C E hrec5 hrec11 T5 x1 x2 (1 : Int32) h
set_option maxHeartbeats 4000000 in
set_option maxRecDepth 100000 in
theorem k_X5_reckonAfter_l11 {B : KB} {X : KE} {rec5 : TT → Int32 → Option (TT)} {res : TT} (C : Cx B X "GriefEngine$Rows" cX5_reckonAfter 5 5) (E : Cr B X none none res) (hrec5 : ∀ (T : TT) (x1 : Int32), rec5 T x1 = some res → Wk B X 5 T 5 [(0, .ref (B.1 6 0)), (1, .int x1)] []) : ∀ (n : Nat) (T : TT) (x1 : Int32) (x2 : Int32) (h : m_X5_reckonAfter_l11 rec5 n T x1 x2 = some res), Wk B X 5 T 11 [(0, .ref (B.1 6 0)), (1, .int x1), (2, .int x2)] [] := by
  intro n
  induction n with
  | zero =>
    intro T x1 x2 h
    exact no_some h
  | succ n ih =>
    intro T x1 x2 h
    exact k_X5_reckonAfter_h11 C E hrec5 (fun T x1 x2 h => ih T x1 x2 h) T x1 x2 h
set_option maxHeartbeats 4000000 in
set_option maxRecDepth 100000 in
theorem k_X5_reckonAfter_h5 {B : KB} {X : KE} {rec5 : TT → Int32 → Option (TT)} {res : TT} (C : Cx B X "GriefEngine$Rows" cX5_reckonAfter 5 5) (E : Cr B X none none res) (hrec5 : ∀ (T : TT) (x1 : Int32), rec5 T x1 = some res → Wk B X 5 T 5 [(0, .ref (B.1 6 0)), (1, .int x1)] []) (T : TT) (x1 : Int32) (h : m_X5_reckonAfter_h5 rec5 T x1 = some res) : Wk B X 5 T 5 [(0, .ref (B.1 6 0)), (1, .int x1)] [] := by
  unfold m_X5_reckonAfter_h5 at h
  refine k_iload_n (pc := 5) C dX5_reckonAfter_5 1 rfl ?_
  refine k_if_lt (pc := 6) C 110 dX5_reckonAfter_6 (by decide) h (fun c2 h => ?_) (fun c2 h => ?_)
  · exact k_vret (pc := 110) C E (some_i h) dX5_reckonAfter_110
  · refine k_iconst (pc := 9) (v := (0 : Int32)) C dX5_reckonAfter_9 ciconst_0 ?_
    refine k_istore_n (pc := 10) C [(2, .int (0 : Int32)), (0, .ref (B.1 6 0)), (1, .int x1)] dX5_reckonAfter_10 (by decide) rfl ?_
    refine k_sub [1, 2, 0] rfl ?_
    exact k_X5_reckonAfter_l11 C E hrec5 FU T x1 (0 : Int32) h
set_option maxHeartbeats 4000000 in
set_option maxRecDepth 100000 in
theorem k_X5_reckonAfter_l5 {B : KB} {X : KE} {res : TT} (C : Cx B X "GriefEngine$Rows" cX5_reckonAfter 5 5) (E : Cr B X none none res) : ∀ (n : Nat) (T : TT) (x1 : Int32) (h : m_X5_reckonAfter_l5 n T x1 = some res), Wk B X 5 T 5 [(0, .ref (B.1 6 0)), (1, .int x1)] [] := by
  intro n
  induction n with
  | zero =>
    intro T x1 h
    exact no_some h
  | succ n ih =>
    intro T x1 h
    exact k_X5_reckonAfter_h5 C E (fun T x1 h => ih T x1 h) T x1 h
set_option maxHeartbeats 4000000 in
set_option maxRecDepth 100000 in
theorem kc_X5_reckonAfter {B : KB} {l : Launch} {T : TT} {res : TT} (h : m_X5_reckonAfter T = some res) : Kt B l 5 yX5_reckonAfter cX5_reckonAfter 5 none T [.ref (B.1 6 0)] none res := by
  refine Kt.of (by decide) (Nat.le_of_ble_eq_true rfl) (fun X hX C E => ?_)
  subst hX
  have C : Cx B X "GriefEngine$Rows" cX5_reckonAfter 5 5 := C
  show Wk B X 5 T 0 [(0, .ref (B.1 6 0))] []
  unfold m_X5_reckonAfter at h
  refine k_aload_n (pc := 0) C dX5_reckonAfter_0 0 rfl ?_
  refine gf_X5_59 (pc := 1) C dX5_reckonAfter_1 ?_
  refine k_nI h (fun y1 h => ?_)
  refine k_istore_n (pc := 4) C [(1, .int y1), (0, .ref (B.1 6 0))] dX5_reckonAfter_4 (by decide) rfl ?_
  refine k_sub [1, 0] rfl ?_
  exact k_X5_reckonAfter_l5 C E FU T y1 h
def m_X5_reckon (T : TT) (g : Nat) (x2 : Int32) (x3 : Int32) : Option (TT) := (m_X4_has T g x2).bind (fun z1 => if z1 = 0 then (some T) else ((m_X4_kindOf T g x2).bind (fun z2 => bT (sR T 6 z2) (fun T3 => bT (sI T3 6 3 (T3.2.1 g 8)) (fun T4 => if inb x2 6 then (bT (sI T4 6 4 (if (0 : Int32) < (if (T4.1 g 3 (Int32.toNatClampNeg x2)) < (99 : Int32) then (T4.1 g 3 (Int32.toNatClampNeg x2)) else (99 : Int32)) then (if (T4.1 g 3 (Int32.toNatClampNeg x2)) < (99 : Int32) then (T4.1 g 3 (Int32.toNatClampNeg x2)) else (99 : Int32)) else (0 : Int32))) (fun T5 => bT (sI T5 6 5 (if (0 : Int32) < (if x3 < (7 : Int32) then x3 else (7 : Int32)) then (if x3 < (7 : Int32) then x3 else (7 : Int32)) else (0 : Int32))) (fun T6 => (m_X5_reckonBefore T6).bind (fun z7 => (m_X5_reckonAfter z7).bind (fun z8 => some z8))))) else none)))))
set_option maxHeartbeats 4000000 in
set_option maxRecDepth 100000 in
theorem kc_X5_reckon {B : KB} {l : Launch} {T : TT} {g : Nat} {x2 : Int32} {x3 : Int32} {res : TT} (hg : g < 4) (h : m_X5_reckon T g x2 x3 = some res) : Kt B l 6 yX5_reckon cX5_reckon 4 none T [.ref (B.1 6 0), .ref (B.1 g 0), .int x2, .int x3] none res := by
  refine Kt.of (by decide) (Nat.le_of_ble_eq_true rfl) (fun X hX C E => ?_)
  subst hX
  have C : Cx B X "GriefEngine$Rows" cX5_reckon 4 6 := C
  show Wk B X 4 T 0 [(0, .ref (B.1 6 0)), (1, .ref (B.1 g 0)), (2, .int x2), (3, .int x3)] []
  unfold m_X5_reckon at h
  refine k_aload_n (pc := 0) C dX5_reckon_0 1 rfl ?_
  refine k_iload_n (pc := 1) C dX5_reckon_1 2 rfl ?_
  obtain ⟨z1, e1, h⟩ := bnd h
  refine k_callvI (pc := 2) C lk_X5_26 (by decide) (ix_X4 hg) (wo_X4 hg) rfl rfl (kc_X4_has hg e1) dX5_reckon_2 rfl rfl (Nat.le_of_ble_eq_true rfl) ?_
  refine k_if_ne (pc := 5) C 9 dX5_reckon_5 (by decide) h (fun c9 h => ?_) (fun c9 h => ?_)
  · refine k_aload_n (pc := 9) C dX5_reckon_9 0 rfl ?_
    refine k_aload_n (pc := 10) C dX5_reckon_10 1 rfl ?_
    refine k_iload_n (pc := 11) C dX5_reckon_11 2 rfl ?_
    obtain ⟨z2, e2, h⟩ := bnd h
    have hz2 := kr_X4_kindOf hg e2
    refine k_callvA (pc := 12) C lk_X5_32 (by decide) (ix_X4 hg) (wo_X4 hg) rfl rfl (kc_X4_kindOf hg e2) dX5_reckon_12 rfl rfl (Nat.le_of_ble_eq_true rfl) ?_
    refine pf_X5_22 (pc := 15) C hz2 dX5_reckon_15 ?_
    refine k_nT h (fun T3 h => ?_)
    refine k_aload_n (pc := 18) C dX5_reckon_18 0 rfl ?_
    refine k_aload_n (pc := 19) C dX5_reckon_19 1 rfl ?_
    refine gf_X5_36 (pc := 20) C hg dX5_reckon_20 ?_
    refine pf_X5_40 (pc := 23) C dX5_reckon_23 ?_
    refine k_nT h (fun T4 h => ?_)
    refine k_aload_n (pc := 26) C dX5_reckon_26 0 rfl ?_
    refine k_iconst (pc := 27) (v := (0 : Int32)) C dX5_reckon_27 ciconst_0 ?_
    refine k_bipush (pc := 28) (v := (99 : Int32)) C dX5_reckon_28 cbipush_99 ?_
    refine k_aload_n (pc := 30) C dX5_reckon_30 1 rfl ?_
    refine gf_X5_43 (pc := 31) C hg dX5_reckon_31 ?_
    refine k_iload_n (pc := 34) C dX5_reckon_34 2 rfl ?_
    refine k_iald (pc := 35) C (ia_R3 hg) dX5_reckon_35 h (fun h => ?_)
    refine k_mmin (pc := 36) C (by decide) tw3_77 tw2_184 tw1_17 tw2_185 (Nat.le_of_ble_eq_true rfl) dX5_reckon_36 ?_
    refine k_mmax (pc := 39) C (by decide) tw3_78 tw3_14 tw1_17 tw3_15 (Nat.le_of_ble_eq_true rfl) dX5_reckon_39 ?_
    refine pf_X5_56 (pc := 42) C dX5_reckon_42 ?_
    refine k_nT h (fun T5 h => ?_)
    refine k_aload_n (pc := 45) C dX5_reckon_45 0 rfl ?_
    refine k_iconst (pc := 46) (v := (0 : Int32)) C dX5_reckon_46 ciconst_0 ?_
    refine k_bipush (pc := 47) (v := (7 : Int32)) C dX5_reckon_47 cbipush_7 ?_
    refine k_iload_n (pc := 49) C dX5_reckon_49 3 rfl ?_
    refine k_mmin (pc := 50) C (by decide) tw3_77 tw2_184 tw1_17 tw2_185 (Nat.le_of_ble_eq_true rfl) dX5_reckon_50 ?_
    refine k_mmax (pc := 53) C (by decide) tw3_78 tw3_14 tw1_17 tw3_15 (Nat.le_of_ble_eq_true rfl) dX5_reckon_53 ?_
    refine pf_X5_59 (pc := 56) C dX5_reckon_56 ?_
    refine k_nT h (fun T6 h => ?_)
    refine k_aload_n (pc := 59) C dX5_reckon_59 0 rfl ?_
    obtain ⟨z7, e7, h⟩ := bnd h
    refine k_callvV (pc := 60) C lk_X5_62 (by decide) ix_X5 wo_X5 rfl rfl (kc_X5_reckonBefore e7) dX5_reckon_60 rfl rfl (Nat.le_of_ble_eq_true rfl) ?_
    refine k_aload_n (pc := 63) C dX5_reckon_63 0 rfl ?_
    obtain ⟨z8, e8, h⟩ := bnd h
    refine k_callvV (pc := 64) C lk_X5_65 (by decide) ix_X5 wo_X5 rfl rfl (kc_X5_reckonAfter e8) dX5_reckon_64 rfl rfl (Nat.le_of_ble_eq_true rfl) ?_
    exact k_vret (pc := 67) C E (some_i h) dX5_reckon_67
  · exact k_vret (pc := 8) C E (some_i h) dX5_reckon_8
def m_X5_mostMiles (T : TT) : Option (Int32) := if inb (0 : Int32) 8 then (if inb (T.2.1 6 4) 100 then (some (T.1 9 ((Int32.toNatClampNeg (0 : Int32)) + 1) (Int32.toNatClampNeg (T.2.1 6 4)))) else none) else none
set_option maxHeartbeats 4000000 in
set_option maxRecDepth 100000 in
theorem kc_X5_mostMiles {B : KB} {l : Launch} {T : TT} {res : Int32} (h : m_X5_mostMiles T = some res) : Kt B l 1 yX5_mostMiles cX5_mostMiles 1 (some .int) T [.ref (B.1 6 0)] (some (.int res)) T := by
  refine Kt.of (by decide) (Nat.le_of_ble_eq_true rfl) (fun X hX C E => ?_)
  subst hX
  have C : Cx B X "GriefEngine$Rows" cX5_mostMiles 1 1 := C
  show Wk B X 1 T 0 [(0, .ref (B.1 6 0))] []
  unfold m_X5_mostMiles at h
  refine k_aload_n (pc := 0) C dX5_mostMiles_0 0 rfl ?_
  refine gf_X5_16 (pc := 1) C dX5_mostMiles_1 ?_
  refine k_iconst (pc := 4) (v := (0 : Int32)) C dX5_mostMiles_4 ciconst_0 ?_
  refine k_qald (pc := 5) C iq_aft rfl rfl dX5_mostMiles_5 h (fun hi1 h => ?_)
  refine k_aload_n (pc := 6) C dX5_mostMiles_6 0 rfl ?_
  refine gf_X5_56 (pc := 7) C dX5_mostMiles_7 ?_
  refine k_iald (pc := 10) C (ia_9 (inb_lt hi1)) dX5_mostMiles_10 h (fun h => ?_)
  exact k_iret (pc := 11) C E (some_i h) rfl dX5_mostMiles_11
def m_X5_firstBestChoice_h2 (T : TT) (rec2 : Int32 → Int32 → Int32 → Option (Int32)) (x1 : Int32) (x2 : Int32) (x3 : Int32) : Option (Int32) := if (2 : Int32) ≤ x3 then (some (2 : Int32)) else ((m_X5_milesBy T x1 x2 x3).bind (fun z1 => if inb x1 8 then (if inb x2 100 then (if z1 = (T.1 9 ((Int32.toNatClampNeg x1) + 1) (Int32.toNatClampNeg x2)) then (some x3) else (bT (x3 + (1 : Int32)) (fun y3 => rec2 x1 x2 y3))) else none) else none))
def m_X5_firstBestChoice_l2 (T : TT) : Nat → Int32 → Int32 → Int32 → Option (Int32)
  | 0 => fun _ _ _ => none
  | n + 1 => fun x1 x2 x3 => m_X5_firstBestChoice_h2 T (m_X5_firstBestChoice_l2 T n) x1 x2 x3
def m_X5_firstBestChoice (T : TT) (x1 : Int32) (x2 : Int32) : Option (Int32) := m_X5_firstBestChoice_l2 T FU x1 x2 (0 : Int32)
set_option maxHeartbeats 4000000 in
set_option maxRecDepth 100000 in
theorem k_X5_firstBestChoice_h2 {B : KB} {X : KE} {T : TT} {rec2 : Int32 → Int32 → Int32 → Option (Int32)} {res : Int32} (C : Cx B X "GriefEngine$Rows" cX5_firstBestChoice 4 5) (E : Cr B X (some .int) (some (.int res)) T) (hrec2 : ∀ (x1 : Int32) (x2 : Int32) (x3 : Int32), rec2 x1 x2 x3 = some res → Wk B X 4 T 2 [(0, .ref (B.1 6 0)), (1, .int x1), (2, .int x2), (3, .int x3)] []) (x1 : Int32) (x2 : Int32) (x3 : Int32) (h : m_X5_firstBestChoice_h2 T rec2 x1 x2 x3 = some res) : Wk B X 4 T 2 [(0, .ref (B.1 6 0)), (1, .int x1), (2, .int x2), (3, .int x3)] [] := by
  unfold m_X5_firstBestChoice_h2 at h
  refine k_iload_n (pc := 2) C dX5_firstBestChoice_2 3 rfl ?_
  refine k_iconst (pc := 3) (v := (2 : Int32)) C dX5_firstBestChoice_3 ciconst_2 ?_
  refine k_icmp_ge (pc := 4) C 33 dX5_firstBestChoice_4 (by decide) h (fun c5 h => ?_) (fun c5 h => ?_)
  · refine k_iconst (pc := 33) (v := (2 : Int32)) C dX5_firstBestChoice_33 ciconst_2 ?_
    exact k_iret (pc := 34) C E (some_i h) rfl dX5_firstBestChoice_34
  · refine k_aload_n (pc := 7) C dX5_firstBestChoice_7 0 rfl ?_
    refine k_iload_n (pc := 8) C dX5_firstBestChoice_8 1 rfl ?_
    refine k_iload_n (pc := 9) C dX5_firstBestChoice_9 2 rfl ?_
    refine k_iload_n (pc := 10) C dX5_firstBestChoice_10 3 rfl ?_
    obtain ⟨z1, e1, h⟩ := bnd h
    refine k_callvI (pc := 11) C lk_X5_82 (by decide) ix_X5 wo_X5 rfl rfl (kc_X5_milesBy e1) dX5_firstBestChoice_11 rfl rfl (Nat.le_of_ble_eq_true rfl) ?_
    refine k_aload_n (pc := 14) C dX5_firstBestChoice_14 0 rfl ?_
    refine gf_X5_16 (pc := 15) C dX5_firstBestChoice_15 ?_
    refine k_iload_n (pc := 18) C dX5_firstBestChoice_18 1 rfl ?_
    refine k_qald (pc := 19) C iq_aft rfl rfl dX5_firstBestChoice_19 h (fun hi2 h => ?_)
    refine k_iload_n (pc := 20) C dX5_firstBestChoice_20 2 rfl ?_
    refine k_iald (pc := 21) C (ia_9 (inb_lt hi2)) dX5_firstBestChoice_21 h (fun h => ?_)
    refine k_icmp_ne (pc := 22) C 27 dX5_firstBestChoice_22 (by decide) h (fun c4 h => ?_) (fun c4 h => ?_)
    · refine k_iincN (pc := 27) (x := x3) (c := (1 : Int32)) C (fun y3 => [(3, .int y3), (0, .ref (B.1 6 0)), (1, .int x1), (2, .int x2)]) dX5_firstBestChoice_27 3 rfl ciconst_1 (by decide) (fun _ => rfl) h (fun y3 h => ?_)
      refine k_goto (pc := 30) C 2 dX5_firstBestChoice_30 (by decide) ?_
      refine k_sub [1, 2, 3, 0] rfl ?_
      exact hrec2 x1 x2 y3 h
    · refine k_iload_n (pc := 25) C dX5_firstBestChoice_25 3 rfl ?_
      exact k_iret (pc := 26) C E (some_i h) rfl dX5_firstBestChoice_26
set_option maxHeartbeats 4000000 in
set_option maxRecDepth 100000 in
theorem k_X5_firstBestChoice_l2 {B : KB} {X : KE} {T : TT} {res : Int32} (C : Cx B X "GriefEngine$Rows" cX5_firstBestChoice 4 5) (E : Cr B X (some .int) (some (.int res)) T) : ∀ (n : Nat) (x1 : Int32) (x2 : Int32) (x3 : Int32) (h : m_X5_firstBestChoice_l2 T n x1 x2 x3 = some res), Wk B X 4 T 2 [(0, .ref (B.1 6 0)), (1, .int x1), (2, .int x2), (3, .int x3)] [] := by
  intro n
  induction n with
  | zero =>
    intro x1 x2 x3 h
    exact no_some h
  | succ n ih =>
    intro x1 x2 x3 h
    exact k_X5_firstBestChoice_h2 C E (fun x1 x2 x3 h => ih x1 x2 x3 h) x1 x2 x3 h
set_option maxHeartbeats 4000000 in
set_option maxRecDepth 100000 in
theorem kc_X5_firstBestChoice {B : KB} {l : Launch} {T : TT} {x1 : Int32} {x2 : Int32} {res : Int32} (h : m_X5_firstBestChoice T x1 x2 = some res) : Kt B l 5 yX5_firstBestChoice cX5_firstBestChoice 4 (some .int) T [.ref (B.1 6 0), .int x1, .int x2] (some (.int res)) T := by
  refine Kt.of (by decide) (Nat.le_of_ble_eq_true rfl) (fun X hX C E => ?_)
  subst hX
  have C : Cx B X "GriefEngine$Rows" cX5_firstBestChoice 4 5 := C
  show Wk B X 4 T 0 [(0, .ref (B.1 6 0)), (1, .int x1), (2, .int x2)] []
  unfold m_X5_firstBestChoice at h
  refine k_iconst (pc := 0) (v := (0 : Int32)) C dX5_firstBestChoice_0 ciconst_0 ?_
  refine k_istore_n (pc := 1) C [(3, .int (0 : Int32)), (0, .ref (B.1 6 0)), (1, .int x1), (2, .int x2)] dX5_firstBestChoice_1 (by decide) rfl ?_
  refine k_sub [1, 2, 3, 0] rfl ?_
  exact k_X5_firstBestChoice_l2 C E FU x1 x2 (0 : Int32) h
def m_X5_choiceOf_h10 (T : TT) (rec10 : Int32 → Int32 → Int32 → Int32 → Option (Int32)) (x1 : Int32) (x2 : Int32) (x3 : Int32) (x4 : Int32) : Option (Int32) := if x1 < x4 then (some x3) else (if (T.2.1 6 5) ≤ x4 then (some x3) else ((m_X5_firstBestChoice T x4 x2).bind (fun z2 => (v_left (T.2.2.2 6) z2 x2).bind (fun z4 => bT (x4 + (1 : Int32)) (fun y5 => rec10 x1 z4 z2 y5)))))
def m_X5_choiceOf_l10 (T : TT) : Nat → Int32 → Int32 → Int32 → Int32 → Option (Int32)
  | 0 => fun _ _ _ _ => none
  | n + 1 => fun x1 x2 x3 x4 => m_X5_choiceOf_h10 T (m_X5_choiceOf_l10 T n) x1 x2 x3 x4
def m_X5_choiceOf (T : TT) (x1 : Int32) : Option (Int32) := bT (T.2.1 6 4) (fun y1 => m_X5_choiceOf_l10 T FU x1 y1 (-1 : Int32) (0 : Int32))
set_option maxHeartbeats 4000000 in
set_option maxRecDepth 100000 in
theorem k_X5_choiceOf_h10 {B : KB} {X : KE} {T : TT} {rec10 : Int32 → Int32 → Int32 → Int32 → Option (Int32)} {res : Int32} (C : Cx B X "GriefEngine$Rows" cX5_choiceOf 5 6) (E : Cr B X (some .int) (some (.int res)) T) (hrec10 : ∀ (x1 : Int32) (x2 : Int32) (x3 : Int32) (x4 : Int32), rec10 x1 x2 x3 x4 = some res → Wk B X 5 T 10 [(0, .ref (B.1 6 0)), (1, .int x1), (2, .int x2), (3, .int x3), (4, .int x4)] []) (x1 : Int32) (x2 : Int32) (x3 : Int32) (x4 : Int32) (h : m_X5_choiceOf_h10 T rec10 x1 x2 x3 x4 = some res) : Wk B X 5 T 10 [(0, .ref (B.1 6 0)), (1, .int x1), (2, .int x2), (3, .int x3), (4, .int x4)] [] := by
  unfold m_X5_choiceOf_h10 at h
  refine k_iload (pc := 10) C dX5_choiceOf_10 4 rfl ?_
  refine k_iload_n (pc := 12) C dX5_choiceOf_12 1 rfl ?_
  refine k_icmp_gt (pc := 13) C 49 dX5_choiceOf_13 (by decide) h (fun c7 h => ?_) (fun c7 h => ?_)
  · refine k_iload_n (pc := 49) C dX5_choiceOf_49 3 rfl ?_
    exact k_iret (pc := 50) C E (some_i h) rfl dX5_choiceOf_50
  · refine k_iload (pc := 16) C dX5_choiceOf_16 4 rfl ?_
    refine k_aload_n (pc := 18) C dX5_choiceOf_18 0 rfl ?_
    refine gf_X5_59 (pc := 19) C dX5_choiceOf_19 ?_
    refine k_icmp_ge (pc := 22) C 49 dX5_choiceOf_22 (by decide) h (fun c6 h => ?_) (fun c6 h => ?_)
    · refine k_iload_n (pc := 49) C dX5_choiceOf_49 3 rfl ?_
      exact k_iret (pc := 50) C E (some_i h) rfl dX5_choiceOf_50
    · refine k_aload_n (pc := 25) C dX5_choiceOf_25 0 rfl ?_
      refine k_iload (pc := 26) C dX5_choiceOf_26 4 rfl ?_
      refine k_iload_n (pc := 28) C dX5_choiceOf_28 2 rfl ?_
      obtain ⟨z2, e2, h⟩ := bnd h
      refine k_callvI (pc := 29) C lk_X5_86 (by decide) ix_X5 wo_X5 rfl rfl (kc_X5_firstBestChoice e2) dX5_choiceOf_29 rfl rfl (Nat.le_of_ble_eq_true rfl) ?_
      refine k_istore_n (pc := 32) C [(3, .int z2), (0, .ref (B.1 6 0)), (1, .int x1), (2, .int x2), (4, .int x4)] dX5_choiceOf_32 (by decide) rfl ?_
      refine k_aload_n (pc := 33) C dX5_choiceOf_33 1 rfl ?_
      refine gf_X5_22 (pc := 34) C dX5_choiceOf_34 (fun hq3 => ?_)
      refine k_iload_n (pc := 37) C dX5_choiceOf_37 0 rfl ?_
      refine k_iload_n (pc := 38) C dX5_choiceOf_38 3 rfl ?_
      obtain ⟨z4, e4, h⟩ := bnd h
      refine kv_left (pc := 39) C lk_X5_72 (by decide) hq3 e4 dX5_choiceOf_39 (Nat.le_of_ble_eq_true rfl) ?_
      refine k_istore_n (pc := 42) C [(2, .int z4), (3, .int z2), (0, .ref (B.1 6 0)), (1, .int x1), (4, .int x4)] dX5_choiceOf_42 (by decide) rfl ?_
      refine k_iincN (pc := 43) (x := x4) (c := (1 : Int32)) C (fun y5 => [(4, .int y5), (2, .int z4), (3, .int z2), (0, .ref (B.1 6 0)), (1, .int x1)]) dX5_choiceOf_43 4 rfl ciconst_1 (by decide) (fun _ => rfl) h (fun y5 h => ?_)
      refine k_goto (pc := 46) C 10 dX5_choiceOf_46 (by decide) ?_
      refine k_sub [3, 4, 1, 2, 0] rfl ?_
      exact hrec10 x1 z4 z2 y5 h
set_option maxHeartbeats 4000000 in
set_option maxRecDepth 100000 in
theorem k_X5_choiceOf_l10 {B : KB} {X : KE} {T : TT} {res : Int32} (C : Cx B X "GriefEngine$Rows" cX5_choiceOf 5 6) (E : Cr B X (some .int) (some (.int res)) T) : ∀ (n : Nat) (x1 : Int32) (x2 : Int32) (x3 : Int32) (x4 : Int32) (h : m_X5_choiceOf_l10 T n x1 x2 x3 x4 = some res), Wk B X 5 T 10 [(0, .ref (B.1 6 0)), (1, .int x1), (2, .int x2), (3, .int x3), (4, .int x4)] [] := by
  intro n
  induction n with
  | zero =>
    intro x1 x2 x3 x4 h
    exact no_some h
  | succ n ih =>
    intro x1 x2 x3 x4 h
    exact k_X5_choiceOf_h10 C E (fun x1 x2 x3 x4 h => ih x1 x2 x3 x4 h) x1 x2 x3 x4 h
set_option maxHeartbeats 4000000 in
set_option maxRecDepth 100000 in
theorem kc_X5_choiceOf {B : KB} {l : Launch} {T : TT} {x1 : Int32} {res : Int32} (h : m_X5_choiceOf T x1 = some res) : Kt B l 6 yX5_choiceOf cX5_choiceOf 5 (some .int) T [.ref (B.1 6 0), .int x1] (some (.int res)) T := by
  refine Kt.of (by decide) (Nat.le_of_ble_eq_true rfl) (fun X hX C E => ?_)
  subst hX
  have C : Cx B X "GriefEngine$Rows" cX5_choiceOf 5 6 := C
  show Wk B X 5 T 0 [(0, .ref (B.1 6 0)), (1, .int x1)] []
  unfold m_X5_choiceOf at h
  refine k_aload_n (pc := 0) C dX5_choiceOf_0 0 rfl ?_
  refine gf_X5_56 (pc := 1) C dX5_choiceOf_1 ?_
  refine k_nI h (fun y1 h => ?_)
  refine k_istore_n (pc := 4) C [(2, .int y1), (0, .ref (B.1 6 0)), (1, .int x1)] dX5_choiceOf_4 (by decide) rfl ?_
  refine k_iconst (pc := 5) (v := (-1 : Int32)) C dX5_choiceOf_5 ciconst_m1 ?_
  refine k_istore_n (pc := 6) C [(3, .int (-1 : Int32)), (2, .int y1), (0, .ref (B.1 6 0)), (1, .int x1)] dX5_choiceOf_6 (by decide) rfl ?_
  refine k_iconst (pc := 7) (v := (0 : Int32)) C dX5_choiceOf_7 ciconst_0 ?_
  refine k_istore (pc := 8) C [(4, .int (0 : Int32)), (3, .int (-1 : Int32)), (2, .int y1), (0, .ref (B.1 6 0)), (1, .int x1)] dX5_choiceOf_8 (by decide) rfl ?_
  refine k_sub [3, 4, 2, 1, 0] rfl ?_
  exact k_X5_choiceOf_l10 C E FU x1 y1 (-1 : Int32) (0 : Int32) h
def m_X5_fewestDaysFor_h12 (T : TT) (rec2 : Int32 → Int32 → Option (Int32)) (rec12 : Int32 → Int32 → Int32 → Option (Int32)) (x1 : Int32) (x2 : Int32) (x3 : Int32) : Option (Int32) := if (100 : Int32) ≤ x3 then (bT (x2 + (1 : Int32)) (fun y2 => rec2 x1 y2)) else (if inb x2 8 then (if inb x3 100 then (if (T.1 8 ((Int32.toNatClampNeg x2) + 1) (Int32.toNatClampNeg x3)) < x1 then (bT (x3 + (1 : Int32)) (fun y4 => rec12 x1 x2 y4)) else (some x2)) else none) else none)
def m_X5_fewestDaysFor_l12 (T : TT) (rec2 : Int32 → Int32 → Option (Int32)) : Nat → Int32 → Int32 → Int32 → Option (Int32)
  | 0 => fun _ _ _ => none
  | n + 1 => fun x1 x2 x3 => m_X5_fewestDaysFor_h12 T rec2 (m_X5_fewestDaysFor_l12 T rec2 n) x1 x2 x3
def m_X5_fewestDaysFor_h2 (T : TT) (rec2 : Int32 → Int32 → Option (Int32)) (x1 : Int32) (x2 : Int32) : Option (Int32) := if (T.2.1 6 5) < x2 then (some (-1 : Int32)) else (m_X5_fewestDaysFor_l12 T rec2 FU x1 x2 (0 : Int32))
def m_X5_fewestDaysFor_l2 (T : TT) : Nat → Int32 → Int32 → Option (Int32)
  | 0 => fun _ _ => none
  | n + 1 => fun x1 x2 => m_X5_fewestDaysFor_h2 T (m_X5_fewestDaysFor_l2 T n) x1 x2
def m_X5_fewestDaysFor (T : TT) (x1 : Int32) : Option (Int32) := m_X5_fewestDaysFor_l2 T FU x1 (1 : Int32)
set_option maxHeartbeats 4000000 in
set_option maxRecDepth 100000 in
theorem k_X5_fewestDaysFor_h12 {B : KB} {X : KE} {T : TT} {rec2 : Int32 → Int32 → Option (Int32)} {rec12 : Int32 → Int32 → Int32 → Option (Int32)} {res : Int32} (C : Cx B X "GriefEngine$Rows" cX5_fewestDaysFor 4 1) (E : Cr B X (some .int) (some (.int res)) T) (hrec2 : ∀ (x1 : Int32) (x2 : Int32), rec2 x1 x2 = some res → Wk B X 4 T 2 [(0, .ref (B.1 6 0)), (1, .int x1), (2, .int x2)] []) (hrec12 : ∀ (x1 : Int32) (x2 : Int32) (x3 : Int32), rec12 x1 x2 x3 = some res → Wk B X 4 T 12 [(0, .ref (B.1 6 0)), (1, .int x1), (2, .int x2), (3, .int x3)] []) (x1 : Int32) (x2 : Int32) (x3 : Int32) (h : m_X5_fewestDaysFor_h12 T rec2 rec12 x1 x2 x3 = some res) : Wk B X 4 T 12 [(0, .ref (B.1 6 0)), (1, .int x1), (2, .int x2), (3, .int x3)] [] := by
  unfold m_X5_fewestDaysFor_h12 at h
  refine k_iload_n (pc := 12) C dX5_fewestDaysFor_12 3 rfl ?_
  refine k_bipush (pc := 13) (v := (100 : Int32)) C dX5_fewestDaysFor_13 cbipush_100 ?_
  refine k_icmp_ge (pc := 15) C 38 dX5_fewestDaysFor_15 (by decide) h (fun c6 h => ?_) (fun c6 h => ?_)
  · refine k_iincN (pc := 38) (x := x2) (c := (1 : Int32)) C (fun y2 => [(2, .int y2), (0, .ref (B.1 6 0)), (1, .int x1), (3, .int x3)]) dX5_fewestDaysFor_38 2 rfl ciconst_1 (by decide) (fun _ => rfl) h (fun y2 h => ?_)
    refine k_goto (pc := 41) C 2 dX5_fewestDaysFor_41 (by decide) ?_
    refine k_sub [1, 2, 0] rfl ?_
    exact hrec2 x1 y2 h
  · refine k_aload_n (pc := 18) C dX5_fewestDaysFor_18 0 rfl ?_
    refine gf_X5_11 (pc := 19) C dX5_fewestDaysFor_19 ?_
    refine k_iload_n (pc := 22) C dX5_fewestDaysFor_22 2 rfl ?_
    refine k_qald (pc := 23) C iq_bef rfl rfl dX5_fewestDaysFor_23 h (fun hi3 h => ?_)
    refine k_iload_n (pc := 24) C dX5_fewestDaysFor_24 3 rfl ?_
    refine k_iald (pc := 25) C (ia_8 (inb_lt hi3)) dX5_fewestDaysFor_25 h (fun h => ?_)
    refine k_iload_n (pc := 26) C dX5_fewestDaysFor_26 1 rfl ?_
    refine k_icmp_lt (pc := 27) C 32 dX5_fewestDaysFor_27 (by decide) h (fun c5 h => ?_) (fun c5 h => ?_)
    · refine k_iincN (pc := 32) (x := x3) (c := (1 : Int32)) C (fun y4 => [(3, .int y4), (0, .ref (B.1 6 0)), (1, .int x1), (2, .int x2)]) dX5_fewestDaysFor_32 3 rfl ciconst_1 (by decide) (fun _ => rfl) h (fun y4 h => ?_)
      refine k_goto (pc := 35) C 12 dX5_fewestDaysFor_35 (by decide) ?_
      refine k_sub [1, 2, 3, 0] rfl ?_
      exact hrec12 x1 x2 y4 h
    · refine k_iload_n (pc := 30) C dX5_fewestDaysFor_30 2 rfl ?_
      exact k_iret (pc := 31) C E (some_i h) rfl dX5_fewestDaysFor_31
set_option maxHeartbeats 4000000 in
set_option maxRecDepth 100000 in
theorem k_X5_fewestDaysFor_l12 {B : KB} {X : KE} {T : TT} {rec2 : Int32 → Int32 → Option (Int32)} {res : Int32} (C : Cx B X "GriefEngine$Rows" cX5_fewestDaysFor 4 1) (E : Cr B X (some .int) (some (.int res)) T) (hrec2 : ∀ (x1 : Int32) (x2 : Int32), rec2 x1 x2 = some res → Wk B X 4 T 2 [(0, .ref (B.1 6 0)), (1, .int x1), (2, .int x2)] []) : ∀ (n : Nat) (x1 : Int32) (x2 : Int32) (x3 : Int32) (h : m_X5_fewestDaysFor_l12 T rec2 n x1 x2 x3 = some res), Wk B X 4 T 12 [(0, .ref (B.1 6 0)), (1, .int x1), (2, .int x2), (3, .int x3)] [] := by
  intro n
  induction n with
  | zero =>
    intro x1 x2 x3 h
    exact no_some h
  | succ n ih =>
    intro x1 x2 x3 h
    exact k_X5_fewestDaysFor_h12 C E hrec2 (fun x1 x2 x3 h => ih x1 x2 x3 h) x1 x2 x3 h
set_option maxHeartbeats 4000000 in
set_option maxRecDepth 100000 in
theorem k_X5_fewestDaysFor_h2 {B : KB} {X : KE} {T : TT} {rec2 : Int32 → Int32 → Option (Int32)} {res : Int32} (C : Cx B X "GriefEngine$Rows" cX5_fewestDaysFor 4 1) (E : Cr B X (some .int) (some (.int res)) T) (hrec2 : ∀ (x1 : Int32) (x2 : Int32), rec2 x1 x2 = some res → Wk B X 4 T 2 [(0, .ref (B.1 6 0)), (1, .int x1), (2, .int x2)] []) (x1 : Int32) (x2 : Int32) (h : m_X5_fewestDaysFor_h2 T rec2 x1 x2 = some res) : Wk B X 4 T 2 [(0, .ref (B.1 6 0)), (1, .int x1), (2, .int x2)] [] := by
  unfold m_X5_fewestDaysFor_h2 at h
  refine k_iload_n (pc := 2) C dX5_fewestDaysFor_2 2 rfl ?_
  refine k_aload_n (pc := 3) C dX5_fewestDaysFor_3 0 rfl ?_
  refine gf_X5_59 (pc := 4) C dX5_fewestDaysFor_4 ?_
  refine k_icmp_gt (pc := 7) C 44 dX5_fewestDaysFor_7 (by decide) h (fun c1 h => ?_) (fun c1 h => ?_)
  · refine k_iconst (pc := 44) (v := (-1 : Int32)) C dX5_fewestDaysFor_44 ciconst_m1 ?_
    exact k_iret (pc := 45) C E (some_i h) rfl dX5_fewestDaysFor_45
  · refine k_iconst (pc := 10) (v := (0 : Int32)) C dX5_fewestDaysFor_10 ciconst_0 ?_
    refine k_istore_n (pc := 11) C [(3, .int (0 : Int32)), (0, .ref (B.1 6 0)), (1, .int x1), (2, .int x2)] dX5_fewestDaysFor_11 (by decide) rfl ?_
    refine k_sub [1, 2, 3, 0] rfl ?_
    exact k_X5_fewestDaysFor_l12 C E hrec2 FU x1 x2 (0 : Int32) h
set_option maxHeartbeats 4000000 in
set_option maxRecDepth 100000 in
theorem k_X5_fewestDaysFor_l2 {B : KB} {X : KE} {T : TT} {res : Int32} (C : Cx B X "GriefEngine$Rows" cX5_fewestDaysFor 4 1) (E : Cr B X (some .int) (some (.int res)) T) : ∀ (n : Nat) (x1 : Int32) (x2 : Int32) (h : m_X5_fewestDaysFor_l2 T n x1 x2 = some res), Wk B X 4 T 2 [(0, .ref (B.1 6 0)), (1, .int x1), (2, .int x2)] [] := by
  intro n
  induction n with
  | zero =>
    intro x1 x2 h
    exact no_some h
  | succ n ih =>
    intro x1 x2 h
    exact k_X5_fewestDaysFor_h2 C E (fun x1 x2 h => ih x1 x2 h) x1 x2 h
set_option maxHeartbeats 4000000 in
set_option maxRecDepth 100000 in
theorem kc_X5_fewestDaysFor {B : KB} {l : Launch} {T : TT} {x1 : Int32} {res : Int32} (h : m_X5_fewestDaysFor T x1 = some res) : Kt B l 1 yX5_fewestDaysFor cX5_fewestDaysFor 4 (some .int) T [.ref (B.1 6 0), .int x1] (some (.int res)) T := by
  refine Kt.of (by decide) (Nat.le_of_ble_eq_true rfl) (fun X hX C E => ?_)
  subst hX
  have C : Cx B X "GriefEngine$Rows" cX5_fewestDaysFor 4 1 := C
  show Wk B X 4 T 0 [(0, .ref (B.1 6 0)), (1, .int x1)] []
  unfold m_X5_fewestDaysFor at h
  refine k_iconst (pc := 0) (v := (1 : Int32)) C dX5_fewestDaysFor_0 ciconst_1 ?_
  refine k_istore_n (pc := 1) C [(2, .int (1 : Int32)), (0, .ref (B.1 6 0)), (1, .int x1)] dX5_fewestDaysFor_1 (by decide) rfl ?_
  refine k_sub [1, 2, 0] rfl ?_
  exact k_X5_fewestDaysFor_l2 C E FU x1 (1 : Int32) h
def m_X5_farthestTurnAt_b46 (T : TT) (rec4 : Int32 → Int32 → Int32 → Option (Int32)) (x1 : Int32) (x2 : Int32) (x3 : Int32) : Option (Int32) := bT (x3 + (1 : Int32)) (fun y7 => rec4 x1 x2 y7)
def m_X5_farthestTurnAt_h4 (T : TT) (rec4 : Int32 → Int32 → Int32 → Option (Int32)) (x1 : Int32) (x2 : Int32) (x3 : Int32) : Option (Int32) := if (100 : Int32) ≤ x3 then (some x2) else (if inb x1 8 then (if inb x3 100 then (if (T.1 8 ((Int32.toNatClampNeg x1) + 1) (Int32.toNatClampNeg x3)) = (-1 : Int32) then (m_X5_farthestTurnAt_b46 T rec4 x1 x2 x3) else (if inb x1 8 then (if inb x3 100 then (if inb x1 8 then (if inb x3 100 then (bT (if x2 < (if (T.1 9 ((Int32.toNatClampNeg x1) + 1) (Int32.toNatClampNeg x3)) < (T.1 8 ((Int32.toNatClampNeg x1) + 1) (Int32.toNatClampNeg x3)) then (T.1 9 ((Int32.toNatClampNeg x1) + 1) (Int32.toNatClampNeg x3)) else (T.1 8 ((Int32.toNatClampNeg x1) + 1) (Int32.toNatClampNeg x3))) then (if (T.1 9 ((Int32.toNatClampNeg x1) + 1) (Int32.toNatClampNeg x3)) < (T.1 8 ((Int32.toNatClampNeg x1) + 1) (Int32.toNatClampNeg x3)) then (T.1 9 ((Int32.toNatClampNeg x1) + 1) (Int32.toNatClampNeg x3)) else (T.1 8 ((Int32.toNatClampNeg x1) + 1) (Int32.toNatClampNeg x3))) else x2) (fun y4 => m_X5_farthestTurnAt_b46 T rec4 x1 y4 x3)) else none) else none) else none) else none)) else none) else none)
def m_X5_farthestTurnAt_l4 (T : TT) : Nat → Int32 → Int32 → Int32 → Option (Int32)
  | 0 => fun _ _ _ => none
  | n + 1 => fun x1 x2 x3 => m_X5_farthestTurnAt_h4 T (m_X5_farthestTurnAt_l4 T n) x1 x2 x3
def m_X5_farthestTurnAt (T : TT) (x1 : Int32) : Option (Int32) := m_X5_farthestTurnAt_l4 T FU x1 (0 : Int32) (0 : Int32)
set_option maxHeartbeats 4000000 in
set_option maxRecDepth 100000 in
theorem k_X5_farthestTurnAt_b46 {B : KB} {X : KE} {T : TT} {rec4 : Int32 → Int32 → Int32 → Option (Int32)} {res : Int32} (C : Cx B X "GriefEngine$Rows" cX5_farthestTurnAt 4 1) (E : Cr B X (some .int) (some (.int res)) T) (hrec4 : ∀ (x1 : Int32) (x2 : Int32) (x3 : Int32), rec4 x1 x2 x3 = some res → Wk B X 4 T 4 [(0, .ref (B.1 6 0)), (1, .int x1), (2, .int x2), (3, .int x3)] []) (x1 : Int32) (x2 : Int32) (x3 : Int32) (h : m_X5_farthestTurnAt_b46 T rec4 x1 x2 x3 = some res) : Wk B X 4 T 46 [(0, .ref (B.1 6 0)), (1, .int x1), (2, .int x2), (3, .int x3)] [] := by
  unfold m_X5_farthestTurnAt_b46 at h
  refine k_iincN (pc := 46) (x := x3) (c := (1 : Int32)) C (fun y7 => [(3, .int y7), (0, .ref (B.1 6 0)), (1, .int x1), (2, .int x2)]) dX5_farthestTurnAt_46 3 rfl ciconst_1 (by decide) (fun _ => rfl) h (fun y7 h => ?_)
  refine k_goto (pc := 49) C 4 dX5_farthestTurnAt_49 (by decide) ?_
  refine k_sub [1, 2, 3, 0] rfl ?_
  exact hrec4 x1 x2 y7 h
set_option maxHeartbeats 4000000 in
set_option maxRecDepth 100000 in
theorem k_X5_farthestTurnAt_h4 {B : KB} {X : KE} {T : TT} {rec4 : Int32 → Int32 → Int32 → Option (Int32)} {res : Int32} (C : Cx B X "GriefEngine$Rows" cX5_farthestTurnAt 4 1) (E : Cr B X (some .int) (some (.int res)) T) (hrec4 : ∀ (x1 : Int32) (x2 : Int32) (x3 : Int32), rec4 x1 x2 x3 = some res → Wk B X 4 T 4 [(0, .ref (B.1 6 0)), (1, .int x1), (2, .int x2), (3, .int x3)] []) (x1 : Int32) (x2 : Int32) (x3 : Int32) (h : m_X5_farthestTurnAt_h4 T rec4 x1 x2 x3 = some res) : Wk B X 4 T 4 [(0, .ref (B.1 6 0)), (1, .int x1), (2, .int x2), (3, .int x3)] [] := by
  unfold m_X5_farthestTurnAt_h4 at h
  refine k_iload_n (pc := 4) C dX5_farthestTurnAt_4 3 rfl ?_
  refine k_bipush (pc := 5) (v := (100 : Int32)) C dX5_farthestTurnAt_5 cbipush_100 ?_
  refine k_icmp_ge (pc := 7) C 52 dX5_farthestTurnAt_7 (by decide) h (fun c6 h => ?_) (fun c6 h => ?_)
  · refine k_iload_n (pc := 52) C dX5_farthestTurnAt_52 2 rfl ?_
    exact k_iret (pc := 53) C E (some_i h) rfl dX5_farthestTurnAt_53
  · refine k_aload_n (pc := 10) C dX5_farthestTurnAt_10 0 rfl ?_
    refine gf_X5_11 (pc := 11) C dX5_farthestTurnAt_11 ?_
    refine k_iload_n (pc := 14) C dX5_farthestTurnAt_14 1 rfl ?_
    refine k_qald (pc := 15) C iq_bef rfl rfl dX5_farthestTurnAt_15 h (fun hi1 h => ?_)
    refine k_iload_n (pc := 16) C dX5_farthestTurnAt_16 3 rfl ?_
    refine k_iald (pc := 17) C (ia_8 (inb_lt hi1)) dX5_farthestTurnAt_17 h (fun h => ?_)
    refine k_iconst (pc := 18) (v := (-1 : Int32)) C dX5_farthestTurnAt_18 ciconst_m1 ?_
    refine k_icmp_eq (pc := 19) C 46 dX5_farthestTurnAt_19 (by decide) h (fun c5 h => ?_) (fun c5 h => ?_)
    · refine k_sub [0, 1, 2, 3] rfl ?_
      exact k_X5_farthestTurnAt_b46 C E hrec4 x1 x2 x3 h
    · refine k_iload_n (pc := 22) C dX5_farthestTurnAt_22 2 rfl ?_
      refine k_aload_n (pc := 23) C dX5_farthestTurnAt_23 0 rfl ?_
      refine gf_X5_11 (pc := 24) C dX5_farthestTurnAt_24 ?_
      refine k_iload_n (pc := 27) C dX5_farthestTurnAt_27 1 rfl ?_
      refine k_qald (pc := 28) C iq_bef rfl rfl dX5_farthestTurnAt_28 h (fun hi2 h => ?_)
      refine k_iload_n (pc := 29) C dX5_farthestTurnAt_29 3 rfl ?_
      refine k_iald (pc := 30) C (ia_8 (inb_lt hi2)) dX5_farthestTurnAt_30 h (fun h => ?_)
      refine k_aload_n (pc := 31) C dX5_farthestTurnAt_31 0 rfl ?_
      refine gf_X5_16 (pc := 32) C dX5_farthestTurnAt_32 ?_
      refine k_iload_n (pc := 35) C dX5_farthestTurnAt_35 1 rfl ?_
      refine k_qald (pc := 36) C iq_aft rfl rfl dX5_farthestTurnAt_36 h (fun hi3 h => ?_)
      refine k_iload_n (pc := 37) C dX5_farthestTurnAt_37 3 rfl ?_
      refine k_iald (pc := 38) C (ia_9 (inb_lt hi3)) dX5_farthestTurnAt_38 h (fun h => ?_)
      refine k_mmin (pc := 39) C (by decide) tw3_77 tw2_184 tw1_17 tw2_185 (Nat.le_of_ble_eq_true rfl) dX5_farthestTurnAt_39 ?_
      refine k_mmax (pc := 42) C (by decide) tw3_78 tw3_14 tw1_17 tw3_15 (Nat.le_of_ble_eq_true rfl) dX5_farthestTurnAt_42 ?_
      refine k_nI h (fun y4 h => ?_)
      refine k_istore_n (pc := 45) C [(2, .int y4), (0, .ref (B.1 6 0)), (1, .int x1), (3, .int x3)] dX5_farthestTurnAt_45 (by decide) rfl ?_
      refine k_sub [1, 2, 0, 3] rfl ?_
      exact k_X5_farthestTurnAt_b46 C E hrec4 x1 y4 x3 h
set_option maxHeartbeats 4000000 in
set_option maxRecDepth 100000 in
theorem k_X5_farthestTurnAt_l4 {B : KB} {X : KE} {T : TT} {res : Int32} (C : Cx B X "GriefEngine$Rows" cX5_farthestTurnAt 4 1) (E : Cr B X (some .int) (some (.int res)) T) : ∀ (n : Nat) (x1 : Int32) (x2 : Int32) (x3 : Int32) (h : m_X5_farthestTurnAt_l4 T n x1 x2 x3 = some res), Wk B X 4 T 4 [(0, .ref (B.1 6 0)), (1, .int x1), (2, .int x2), (3, .int x3)] [] := by
  intro n
  induction n with
  | zero =>
    intro x1 x2 x3 h
    exact no_some h
  | succ n ih =>
    intro x1 x2 x3 h
    exact k_X5_farthestTurnAt_h4 C E (fun x1 x2 x3 h => ih x1 x2 x3 h) x1 x2 x3 h
set_option maxHeartbeats 4000000 in
set_option maxRecDepth 100000 in
theorem kc_X5_farthestTurnAt {B : KB} {l : Launch} {T : TT} {x1 : Int32} {res : Int32} (h : m_X5_farthestTurnAt T x1 = some res) : Kt B l 1 yX5_farthestTurnAt cX5_farthestTurnAt 4 (some .int) T [.ref (B.1 6 0), .int x1] (some (.int res)) T := by
  refine Kt.of (by decide) (Nat.le_of_ble_eq_true rfl) (fun X hX C E => ?_)
  subst hX
  have C : Cx B X "GriefEngine$Rows" cX5_farthestTurnAt 4 1 := C
  show Wk B X 4 T 0 [(0, .ref (B.1 6 0)), (1, .int x1)] []
  unfold m_X5_farthestTurnAt at h
  refine k_iconst (pc := 0) (v := (0 : Int32)) C dX5_farthestTurnAt_0 ciconst_0 ?_
  refine k_istore_n (pc := 1) C [(2, .int (0 : Int32)), (0, .ref (B.1 6 0)), (1, .int x1)] dX5_farthestTurnAt_1 (by decide) rfl ?_
  refine k_iconst (pc := 2) (v := (0 : Int32)) C dX5_farthestTurnAt_2 ciconst_0 ?_
  refine k_istore_n (pc := 3) C [(3, .int (0 : Int32)), (2, .int (0 : Int32)), (0, .ref (B.1 6 0)), (1, .int x1)] dX5_farthestTurnAt_3 (by decide) rfl ?_
  refine k_sub [2, 3, 1, 0] rfl ?_
  exact k_X5_farthestTurnAt_l4 C E FU x1 (0 : Int32) (0 : Int32) h
def m_X5_farthestTurn_h4 (T : TT) (rec4 : Int32 → Int32 → Option (Int32)) (x1 : Int32) (x2 : Int32) : Option (Int32) := if (T.2.1 6 5) ≤ x2 then (some x1) else ((m_X5_farthestTurnAt T x2).bind (fun z1 => bT (if x1 < z1 then z1 else x1) (fun y2 => bT (x2 + (1 : Int32)) (fun y3 => rec4 y2 y3))))
def m_X5_farthestTurn_l4 (T : TT) : Nat → Int32 → Int32 → Option (Int32)
  | 0 => fun _ _ => none
  | n + 1 => fun x1 x2 => m_X5_farthestTurn_h4 T (m_X5_farthestTurn_l4 T n) x1 x2
def m_X5_farthestTurn (T : TT) : Option (Int32) := m_X5_farthestTurn_l4 T FU (0 : Int32) (1 : Int32)
set_option maxHeartbeats 4000000 in
set_option maxRecDepth 100000 in
theorem k_X5_farthestTurn_h4 {B : KB} {X : KE} {T : TT} {rec4 : Int32 → Int32 → Option (Int32)} {res : Int32} (C : Cx B X "GriefEngine$Rows" cX5_farthestTurn 3 2) (E : Cr B X (some .int) (some (.int res)) T) (hrec4 : ∀ (x1 : Int32) (x2 : Int32), rec4 x1 x2 = some res → Wk B X 3 T 4 [(0, .ref (B.1 6 0)), (1, .int x1), (2, .int x2)] []) (x1 : Int32) (x2 : Int32) (h : m_X5_farthestTurn_h4 T rec4 x1 x2 = some res) : Wk B X 3 T 4 [(0, .ref (B.1 6 0)), (1, .int x1), (2, .int x2)] [] := by
  unfold m_X5_farthestTurn_h4 at h
  refine k_iload_n (pc := 4) C dX5_farthestTurn_4 2 rfl ?_
  refine k_aload_n (pc := 5) C dX5_farthestTurn_5 0 rfl ?_
  refine gf_X5_59 (pc := 6) C dX5_farthestTurn_6 ?_
  refine k_icmp_ge (pc := 9) C 28 dX5_farthestTurn_9 (by decide) h (fun c4 h => ?_) (fun c4 h => ?_)
  · refine k_iload_n (pc := 28) C dX5_farthestTurn_28 1 rfl ?_
    exact k_iret (pc := 29) C E (some_i h) rfl dX5_farthestTurn_29
  · refine k_iload_n (pc := 12) C dX5_farthestTurn_12 1 rfl ?_
    refine k_aload_n (pc := 13) C dX5_farthestTurn_13 0 rfl ?_
    refine k_iload_n (pc := 14) C dX5_farthestTurn_14 2 rfl ?_
    obtain ⟨z1, e1, h⟩ := bnd h
    refine k_callvI (pc := 15) C lk_X5_89 (by decide) ix_X5 wo_X5 rfl rfl (kc_X5_farthestTurnAt e1) dX5_farthestTurn_15 rfl rfl (Nat.le_of_ble_eq_true rfl) ?_
    refine k_mmax (pc := 18) C (by decide) tw3_78 tw3_14 tw1_17 tw3_15 (Nat.le_of_ble_eq_true rfl) dX5_farthestTurn_18 ?_
    refine k_nI h (fun y2 h => ?_)
    refine k_istore_n (pc := 21) C [(1, .int y2), (0, .ref (B.1 6 0)), (2, .int x2)] dX5_farthestTurn_21 (by decide) rfl ?_
    refine k_iincN (pc := 22) (x := x2) (c := (1 : Int32)) C (fun y3 => [(2, .int y3), (1, .int y2), (0, .ref (B.1 6 0))]) dX5_farthestTurn_22 2 rfl ciconst_1 (by decide) (fun _ => rfl) h (fun y3 h => ?_)
    refine k_goto (pc := 25) C 4 dX5_farthestTurn_25 (by decide) ?_
    refine k_sub [2, 1, 0] rfl ?_
    exact hrec4 y2 y3 h
set_option maxHeartbeats 4000000 in
set_option maxRecDepth 100000 in
theorem k_X5_farthestTurn_l4 {B : KB} {X : KE} {T : TT} {res : Int32} (C : Cx B X "GriefEngine$Rows" cX5_farthestTurn 3 2) (E : Cr B X (some .int) (some (.int res)) T) : ∀ (n : Nat) (x1 : Int32) (x2 : Int32) (h : m_X5_farthestTurn_l4 T n x1 x2 = some res), Wk B X 3 T 4 [(0, .ref (B.1 6 0)), (1, .int x1), (2, .int x2)] [] := by
  intro n
  induction n with
  | zero =>
    intro x1 x2 h
    exact no_some h
  | succ n ih =>
    intro x1 x2 h
    exact k_X5_farthestTurn_h4 C E (fun x1 x2 h => ih x1 x2 h) x1 x2 h
set_option maxHeartbeats 4000000 in
set_option maxRecDepth 100000 in
theorem kc_X5_farthestTurn {B : KB} {l : Launch} {T : TT} {res : Int32} (h : m_X5_farthestTurn T = some res) : Kt B l 2 yX5_farthestTurn cX5_farthestTurn 3 (some .int) T [.ref (B.1 6 0)] (some (.int res)) T := by
  refine Kt.of (by decide) (Nat.le_of_ble_eq_true rfl) (fun X hX C E => ?_)
  subst hX
  have C : Cx B X "GriefEngine$Rows" cX5_farthestTurn 3 2 := C
  show Wk B X 3 T 0 [(0, .ref (B.1 6 0))] []
  unfold m_X5_farthestTurn at h
  refine k_iconst (pc := 0) (v := (0 : Int32)) C dX5_farthestTurn_0 ciconst_0 ?_
  refine k_istore_n (pc := 1) C [(1, .int (0 : Int32)), (0, .ref (B.1 6 0))] dX5_farthestTurn_1 (by decide) rfl ?_
  refine k_iconst (pc := 2) (v := (1 : Int32)) C dX5_farthestTurn_2 ciconst_1 ?_
  refine k_istore_n (pc := 3) C [(2, .int (1 : Int32)), (1, .int (0 : Int32)), (0, .ref (B.1 6 0))] dX5_farthestTurn_3 (by decide) rfl ?_
  refine k_sub [2, 1, 0] rfl ?_
  exact k_X5_farthestTurn_l4 C E FU (0 : Int32) (1 : Int32) h
def m_X5_firstTurnAt_h2 (T : TT) (rec2 : Int32 → Int32 → Option (Int32)) (x1 : Int32) (x2 : Int32) : Option (Int32) := if (T.2.1 6 5) ≤ x2 then (some (-1 : Int32)) else ((m_X5_farthestTurnAt T x2).bind (fun z1 => if z1 = x1 then (some x2) else (bT (x2 + (1 : Int32)) (fun y2 => rec2 x1 y2))))
def m_X5_firstTurnAt_l2 (T : TT) : Nat → Int32 → Int32 → Option (Int32)
  | 0 => fun _ _ => none
  | n + 1 => fun x1 x2 => m_X5_firstTurnAt_h2 T (m_X5_firstTurnAt_l2 T n) x1 x2
def m_X5_firstTurnAt (T : TT) (x1 : Int32) : Option (Int32) := m_X5_firstTurnAt_l2 T FU x1 (1 : Int32)
set_option maxHeartbeats 4000000 in
set_option maxRecDepth 100000 in
theorem k_X5_firstTurnAt_h2 {B : KB} {X : KE} {T : TT} {rec2 : Int32 → Int32 → Option (Int32)} {res : Int32} (C : Cx B X "GriefEngine$Rows" cX5_firstTurnAt 3 2) (E : Cr B X (some .int) (some (.int res)) T) (hrec2 : ∀ (x1 : Int32) (x2 : Int32), rec2 x1 x2 = some res → Wk B X 3 T 2 [(0, .ref (B.1 6 0)), (1, .int x1), (2, .int x2)] []) (x1 : Int32) (x2 : Int32) (h : m_X5_firstTurnAt_h2 T rec2 x1 x2 = some res) : Wk B X 3 T 2 [(0, .ref (B.1 6 0)), (1, .int x1), (2, .int x2)] [] := by
  unfold m_X5_firstTurnAt_h2 at h
  refine k_iload_n (pc := 2) C dX5_firstTurnAt_2 2 rfl ?_
  refine k_aload_n (pc := 3) C dX5_firstTurnAt_3 0 rfl ?_
  refine gf_X5_59 (pc := 4) C dX5_firstTurnAt_4 ?_
  refine k_icmp_ge (pc := 7) C 27 dX5_firstTurnAt_7 (by decide) h (fun c4 h => ?_) (fun c4 h => ?_)
  · refine k_iconst (pc := 27) (v := (-1 : Int32)) C dX5_firstTurnAt_27 ciconst_m1 ?_
    exact k_iret (pc := 28) C E (some_i h) rfl dX5_firstTurnAt_28
  · refine k_aload_n (pc := 10) C dX5_firstTurnAt_10 0 rfl ?_
    refine k_iload_n (pc := 11) C dX5_firstTurnAt_11 2 rfl ?_
    obtain ⟨z1, e1, h⟩ := bnd h
    refine k_callvI (pc := 12) C lk_X5_89 (by decide) ix_X5 wo_X5 rfl rfl (kc_X5_farthestTurnAt e1) dX5_firstTurnAt_12 rfl rfl (Nat.le_of_ble_eq_true rfl) ?_
    refine k_iload_n (pc := 15) C dX5_firstTurnAt_15 1 rfl ?_
    refine k_icmp_ne (pc := 16) C 21 dX5_firstTurnAt_16 (by decide) h (fun c3 h => ?_) (fun c3 h => ?_)
    · refine k_iincN (pc := 21) (x := x2) (c := (1 : Int32)) C (fun y2 => [(2, .int y2), (0, .ref (B.1 6 0)), (1, .int x1)]) dX5_firstTurnAt_21 2 rfl ciconst_1 (by decide) (fun _ => rfl) h (fun y2 h => ?_)
      refine k_goto (pc := 24) C 2 dX5_firstTurnAt_24 (by decide) ?_
      refine k_sub [1, 2, 0] rfl ?_
      exact hrec2 x1 y2 h
    · refine k_iload_n (pc := 19) C dX5_firstTurnAt_19 2 rfl ?_
      exact k_iret (pc := 20) C E (some_i h) rfl dX5_firstTurnAt_20
set_option maxHeartbeats 4000000 in
set_option maxRecDepth 100000 in
theorem k_X5_firstTurnAt_l2 {B : KB} {X : KE} {T : TT} {res : Int32} (C : Cx B X "GriefEngine$Rows" cX5_firstTurnAt 3 2) (E : Cr B X (some .int) (some (.int res)) T) : ∀ (n : Nat) (x1 : Int32) (x2 : Int32) (h : m_X5_firstTurnAt_l2 T n x1 x2 = some res), Wk B X 3 T 2 [(0, .ref (B.1 6 0)), (1, .int x1), (2, .int x2)] [] := by
  intro n
  induction n with
  | zero =>
    intro x1 x2 h
    exact no_some h
  | succ n ih =>
    intro x1 x2 h
    exact k_X5_firstTurnAt_h2 C E (fun x1 x2 h => ih x1 x2 h) x1 x2 h
set_option maxHeartbeats 4000000 in
set_option maxRecDepth 100000 in
theorem kc_X5_firstTurnAt {B : KB} {l : Launch} {T : TT} {x1 : Int32} {res : Int32} (h : m_X5_firstTurnAt T x1 = some res) : Kt B l 2 yX5_firstTurnAt cX5_firstTurnAt 3 (some .int) T [.ref (B.1 6 0), .int x1] (some (.int res)) T := by
  refine Kt.of (by decide) (Nat.le_of_ble_eq_true rfl) (fun X hX C E => ?_)
  subst hX
  have C : Cx B X "GriefEngine$Rows" cX5_firstTurnAt 3 2 := C
  show Wk B X 3 T 0 [(0, .ref (B.1 6 0)), (1, .int x1)] []
  unfold m_X5_firstTurnAt at h
  refine k_iconst (pc := 0) (v := (1 : Int32)) C dX5_firstTurnAt_0 ciconst_1 ?_
  refine k_istore_n (pc := 1) C [(2, .int (1 : Int32)), (0, .ref (B.1 6 0)), (1, .int x1)] dX5_firstTurnAt_1 (by decide) rfl ?_
  refine k_sub [1, 2, 0] rfl ?_
  exact k_X5_firstTurnAt_l2 C E FU x1 (1 : Int32) h
def m_X9_append (T : TT) (x1 : Int32) : Option (Int32 × TT) := if (T.2.1 5 1) < (150 : Int32) then (if inb (T.2.1 5 1) 150 then bT (sA T 5 1 (Int32.toNatClampNeg (T.2.1 5 1)) (vp_nar .byte (x1.toInt8.toInt32))) (fun T1 => bT (sI T1 5 1 ((T1.2.1 5 1) + (1 : Int32))) (fun T2 => some ((T2.2.1 5 1), T2))) else none) else (some ((-4 : Int32), T))
set_option maxHeartbeats 4000000 in
set_option maxRecDepth 100000 in
theorem kc_X9_append {B : KB} {l : Launch} {T : TT} {x1 : Int32} {res : Int32 × TT} (h : m_X9_append T x1 = some res) : Kt B l 1 yX9_append cX9_append 2 (some .int) T [.ref (B.1 5 0), .int x1] (some (.int res.1)) res.2 := by
  refine Kt.of (by decide) (Nat.le_of_ble_eq_true rfl) (fun X hX C E => ?_)
  subst hX
  have C : Cx B X "GriefEngine$Text" cX9_append 2 1 := C
  show Wk B X 2 T 0 [(0, .ref (B.1 5 0)), (1, .int x1)] []
  unfold m_X9_append at h
  refine k_aload_n (pc := 0) C dX9_append_0 0 rfl ?_
  refine gf_X9_15 (pc := 1) C dX9_append_1 ?_
  refine k_sipush (pc := 4) (v := (150 : Int32)) C dX9_append_4 csipush_150 ?_
  refine k_icmp_lt (pc := 7) C 13 dX9_append_7 (by decide) h (fun c3 h => ?_) (fun c3 h => ?_)
  · refine k_aload_n (pc := 13) C dX9_append_13 0 rfl ?_
    refine gf_X9_9 (pc := 14) C dX9_append_14 ?_
    refine k_aload_n (pc := 17) C dX9_append_17 0 rfl ?_
    refine gf_X9_15 (pc := 18) C dX9_append_18 ?_
    refine k_iload_n (pc := 21) C dX9_append_21 1 rfl ?_
    refine k_i2b (pc := 22) C dX9_append_22 ?_
    refine k_bast (pc := 23) C ia_5_1 dX9_append_23 h (fun h => ?_)
    refine k_nT h (fun T1 h => ?_)
    refine k_aload_n (pc := 24) C dX9_append_24 0 rfl ?_
    refine k_dup (pc := 25) C dX9_append_25 rfl ?_
    refine gf_X9_15 (pc := 26) C dX9_append_26 ?_
    refine k_iconst (pc := 29) (v := (1 : Int32)) C dX9_append_29 ciconst_1 ?_
    refine k_iadd (pc := 30) C dX9_append_30 ?_
    refine pf_X9_15 (pc := 31) C dX9_append_31 ?_
    refine k_nT h (fun T2 h => ?_)
    refine k_aload_n (pc := 34) C dX9_append_34 0 rfl ?_
    refine gf_X9_15 (pc := 35) C dX9_append_35 ?_
    exact k_iret (pc := 38) C E (some_1 h) (some_2 h) dX9_append_38
  · refine k_bipush (pc := 10) (v := (-4 : Int32)) C dX9_append_10 cbipush_m4 ?_
    exact k_iret (pc := 12) C E (some_1 h) (some_2 h) dX9_append_12
def m_X9_isBetween (T : TT) (x1 : Int32) (x2 : Int32) (x3 : Int32) : Option (Int32) := if x1 < 0 then (some (0 : Int32)) else (if (T.2.1 5 1) ≤ x1 then (some (0 : Int32)) else (if inb x1 150 then (if (T.1 5 1 (Int32.toNatClampNeg x1)) < x2 then (some (0 : Int32)) else (if inb x1 150 then (if x3 < (T.1 5 1 (Int32.toNatClampNeg x1)) then (some (0 : Int32)) else (some (1 : Int32))) else none)) else none))
set_option maxHeartbeats 4000000 in
set_option maxRecDepth 100000 in
theorem kc_X9_isBetween {B : KB} {l : Launch} {T : TT} {x1 : Int32} {x2 : Int32} {x3 : Int32} {res : Int32} (h : m_X9_isBetween T x1 x2 x3 = some res) : Kt B l 1 yX9_isBetween cX9_isBetween 4 (some .boolean) T [.ref (B.1 5 0), .int x1, .int x2, .int x3] (some (.int res)) T := by
  refine Kt.of (by decide) (Nat.le_of_ble_eq_true rfl) (fun X hX C E => ?_)
  subst hX
  have C : Cx B X "GriefEngine$Text" cX9_isBetween 4 1 := C
  show Wk B X 4 T 0 [(0, .ref (B.1 5 0)), (1, .int x1), (2, .int x2), (3, .int x3)] []
  unfold m_X9_isBetween at h
  refine k_iload_n (pc := 0) C dX9_isBetween_0 1 rfl ?_
  refine k_if_lt (pc := 1) C 36 dX9_isBetween_1 (by decide) h (fun c4 h => ?_) (fun c4 h => ?_)
  · refine k_iconst (pc := 36) (v := (0 : Int32)) C dX9_isBetween_36 ciconst_0 ?_
    exact k_zret (pc := 37) C E rfl (some_i h) rfl dX9_isBetween_37
  · refine k_iload_n (pc := 4) C dX9_isBetween_4 1 rfl ?_
    refine k_aload_n (pc := 5) C dX9_isBetween_5 0 rfl ?_
    refine gf_X9_15 (pc := 6) C dX9_isBetween_6 ?_
    refine k_icmp_ge (pc := 9) C 36 dX9_isBetween_9 (by decide) h (fun c3 h => ?_) (fun c3 h => ?_)
    · refine k_iconst (pc := 36) (v := (0 : Int32)) C dX9_isBetween_36 ciconst_0 ?_
      exact k_zret (pc := 37) C E rfl (some_i h) rfl dX9_isBetween_37
    · refine k_aload_n (pc := 12) C dX9_isBetween_12 0 rfl ?_
      refine gf_X9_9 (pc := 13) C dX9_isBetween_13 ?_
      refine k_iload_n (pc := 16) C dX9_isBetween_16 1 rfl ?_
      refine k_bald (pc := 17) C ia_5_1 dX9_isBetween_17 h (fun h => ?_)
      refine k_iload_n (pc := 18) C dX9_isBetween_18 2 rfl ?_
      refine k_icmp_lt (pc := 19) C 36 dX9_isBetween_19 (by decide) h (fun c2 h => ?_) (fun c2 h => ?_)
      · refine k_iconst (pc := 36) (v := (0 : Int32)) C dX9_isBetween_36 ciconst_0 ?_
        exact k_zret (pc := 37) C E rfl (some_i h) rfl dX9_isBetween_37
      · refine k_aload_n (pc := 22) C dX9_isBetween_22 0 rfl ?_
        refine gf_X9_9 (pc := 23) C dX9_isBetween_23 ?_
        refine k_iload_n (pc := 26) C dX9_isBetween_26 1 rfl ?_
        refine k_bald (pc := 27) C ia_5_1 dX9_isBetween_27 h (fun h => ?_)
        refine k_iload_n (pc := 28) C dX9_isBetween_28 3 rfl ?_
        refine k_icmp_gt (pc := 29) C 36 dX9_isBetween_29 (by decide) h (fun c1 h => ?_) (fun c1 h => ?_)
        · refine k_iconst (pc := 36) (v := (0 : Int32)) C dX9_isBetween_36 ciconst_0 ?_
          exact k_zret (pc := 37) C E rfl (some_i h) rfl dX9_isBetween_37
        · refine k_iconst (pc := 32) (v := (1 : Int32)) C dX9_isBetween_32 ciconst_1 ?_
          refine k_goto (pc := 33) C 37 dX9_isBetween_33 (by decide) ?_
          exact k_zret (pc := 37) C E rfl (some_i h) rfl dX9_isBetween_37
def m_X9_runEnd_h3 (T : TT) (rec3 : Int32 → Int32 → Int32 → Option (Int32)) (x2 : Int32) (x3 : Int32) (x4 : Int32) : Option (Int32) := if (T.2.1 5 1) ≤ x4 then (some x4) else ((m_X9_isBetween T x4 x2 x3).bind (fun z1 => if z1 = 0 then (some x4) else (bT (x4 + (1 : Int32)) (fun y2 => rec3 x2 x3 y2))))
def m_X9_runEnd_l3 (T : TT) : Nat → Int32 → Int32 → Int32 → Option (Int32)
  | 0 => fun _ _ _ => none
  | n + 1 => fun x2 x3 x4 => m_X9_runEnd_h3 T (m_X9_runEnd_l3 T n) x2 x3 x4
def m_X9_runEnd (T : TT) (x1 : Int32) (x2 : Int32) (x3 : Int32) : Option (Int32) := m_X9_runEnd_l3 T FU x2 x3 x1
set_option maxHeartbeats 4000000 in
set_option maxRecDepth 100000 in
theorem k_X9_runEnd_h3 {B : KB} {X : KE} {T : TT} {rec3 : Int32 → Int32 → Int32 → Option (Int32)} {res : Int32} (C : Cx B X "GriefEngine$Text" cX9_runEnd 5 2) (E : Cr B X (some .int) (some (.int res)) T) (hrec3 : ∀ (x2 : Int32) (x3 : Int32) (x4 : Int32), rec3 x2 x3 x4 = some res → Wk B X 5 T 3 [(0, .ref (B.1 5 0)), (2, .int x2), (3, .int x3), (4, .int x4)] []) (x2 : Int32) (x3 : Int32) (x4 : Int32) (h : m_X9_runEnd_h3 T rec3 x2 x3 x4 = some res) : Wk B X 5 T 3 [(0, .ref (B.1 5 0)), (2, .int x2), (3, .int x3), (4, .int x4)] [] := by
  unfold m_X9_runEnd_h3 at h
  refine k_iload (pc := 3) C dX9_runEnd_3 3 rfl ?_
  refine k_aload_n (pc := 5) C dX9_runEnd_5 0 rfl ?_
  refine gf_X9_15 (pc := 6) C dX9_runEnd_6 ?_
  refine k_icmp_ge (pc := 9) C 29 dX9_runEnd_9 (by decide) h (fun c4 h => ?_) (fun c4 h => ?_)
  · refine k_iload (pc := 29) C dX9_runEnd_29 3 rfl ?_
    exact k_iret (pc := 31) C E (some_i h) rfl dX9_runEnd_31
  · refine k_aload_n (pc := 12) C dX9_runEnd_12 0 rfl ?_
    refine k_iload (pc := 13) C dX9_runEnd_13 3 rfl ?_
    refine k_iload_n (pc := 15) C dX9_runEnd_15 1 rfl ?_
    refine k_iload_n (pc := 16) C dX9_runEnd_16 2 rfl ?_
    obtain ⟨z1, e1, h⟩ := bnd h
    refine k_callvI (pc := 17) C lk_X9_69 (by decide) ix_X9 wo_X9 rfl rfl (kc_X9_isBetween e1) dX9_runEnd_17 rfl rfl (Nat.le_of_ble_eq_true rfl) ?_
    refine k_if_eq (pc := 20) C 29 dX9_runEnd_20 (by decide) h (fun c3 h => ?_) (fun c3 h => ?_)
    · refine k_iload (pc := 29) C dX9_runEnd_29 3 rfl ?_
      exact k_iret (pc := 31) C E (some_i h) rfl dX9_runEnd_31
    · refine k_iincN (pc := 23) (x := x4) (c := (1 : Int32)) C (fun y2 => [(4, .int y2), (0, .ref (B.1 5 0)), (2, .int x2), (3, .int x3)]) dX9_runEnd_23 3 rfl ciconst_1 (by decide) (fun _ => rfl) h (fun y2 h => ?_)
      refine k_goto (pc := 26) C 3 dX9_runEnd_26 (by decide) ?_
      refine k_sub [1, 2, 3, 0] rfl ?_
      exact hrec3 x2 x3 y2 h
set_option maxHeartbeats 4000000 in
set_option maxRecDepth 100000 in
theorem k_X9_runEnd_l3 {B : KB} {X : KE} {T : TT} {res : Int32} (C : Cx B X "GriefEngine$Text" cX9_runEnd 5 2) (E : Cr B X (some .int) (some (.int res)) T) : ∀ (n : Nat) (x2 : Int32) (x3 : Int32) (x4 : Int32) (h : m_X9_runEnd_l3 T n x2 x3 x4 = some res), Wk B X 5 T 3 [(0, .ref (B.1 5 0)), (2, .int x2), (3, .int x3), (4, .int x4)] [] := by
  intro n
  induction n with
  | zero =>
    intro x2 x3 x4 h
    exact no_some h
  | succ n ih =>
    intro x2 x3 x4 h
    exact k_X9_runEnd_h3 C E (fun x2 x3 x4 h => ih x2 x3 x4 h) x2 x3 x4 h
set_option maxHeartbeats 4000000 in
set_option maxRecDepth 100000 in
theorem kc_X9_runEnd {B : KB} {l : Launch} {T : TT} {x1 : Int32} {x2 : Int32} {x3 : Int32} {res : Int32} (h : m_X9_runEnd T x1 x2 x3 = some res) : Kt B l 2 yX9_runEnd cX9_runEnd 5 (some .int) T [.ref (B.1 5 0), .int x1, .int x2, .int x3] (some (.int res)) T := by
  refine Kt.of (by decide) (Nat.le_of_ble_eq_true rfl) (fun X hX C E => ?_)
  subst hX
  have C : Cx B X "GriefEngine$Text" cX9_runEnd 5 2 := C
  show Wk B X 5 T 0 [(0, .ref (B.1 5 0)), (1, .int x1), (2, .int x2), (3, .int x3)] []
  unfold m_X9_runEnd at h
  refine k_iload_n (pc := 0) C dX9_runEnd_0 1 rfl ?_
  refine k_istore (pc := 1) C [(4, .int x1), (0, .ref (B.1 5 0)), (1, .int x1), (2, .int x2), (3, .int x3)] dX9_runEnd_1 (by decide) rfl ?_
  refine k_sub [1, 3, 4, 0] rfl ?_
  exact k_X9_runEnd_l3 C E FU x2 x3 x1 h
