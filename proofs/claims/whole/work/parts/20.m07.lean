def m_X10_starts_b31 (T : TT) : Option (Int32 × TT) := (m_X10_refuse T (-2 : Int32)).bind (fun z11 => some (z11.1, z11.2))
def m_X10_starts (T : TT) (x1 : Int32) (x2 : Int32) (x3 : Int32) : Option (Int32 × TT) := (m_X4_has T 0 x1).bind (fun z1 => if z1 = 0 then (m_X10_starts_b31 T) else ((m_X10_within x2 (0 : Int32) (6 : Int32)).bind (fun z2 => if z2 = 0 then (m_X10_starts_b31 T) else ((m_X10_within x3 (0 : Int32) (10 : Int32)).bind (fun z3 => if z3 = 0 then (m_X10_starts_b31 T) else ((m_X4_kindOf T 0 x1).bind (fun z4 => if inb x1 6 then ((m_X10_tenfoldMean 12 z4 (T.2.1 0 8) (T.1 0 3 (Int32.toNatClampNeg x1)) x2 x3).bind (fun z5 => (m_X10_tenTo x2).bind (fun z6 => (m_X10_setFraction T z5 z6).bind (fun z7 => some ((1 : Int32), z7))))) else none)))))))
set_option maxHeartbeats 4000000 in
set_option maxRecDepth 100000 in
theorem k_X10_starts_b31 {B : KB} {X : KE} {res : Int32 × TT} (C : Cx B X "GriefEngine" cX10_starts 6 17) (E : Cr B X (some .int) (some (.int res.1)) res.2) (T : TT) (h : m_X10_starts_b31 T = some res) : Wk B X 6 T 31 [(0, .ref (B.1 4 0))] [] := by
  unfold m_X10_starts_b31 at h
  refine k_aload_n (pc := 31) C dX10_starts_31 0 rfl ?_
  refine k_bipush (pc := 32) (v := (-2 : Int32)) C dX10_starts_32 cbipush_m2 ?_
  obtain ⟨z11, e11, h⟩ := bnd h
  refine k_callvI (pc := 34) C lk_X10_73 (by decide) ix_X10 wo_X10 rfl rfl (kc_X10_refuse e11) dX10_starts_34 rfl rfl (Nat.le_of_ble_eq_true rfl) ?_
  exact k_iret (pc := 37) C E (some_1 h) (some_2 h) dX10_starts_37
set_option maxHeartbeats 4000000 in
set_option maxRecDepth 100000 in
theorem kc_X10_starts {B : KB} {l : Launch} {T : TT} {x1 : Int32} {x2 : Int32} {x3 : Int32} {res : Int32 × TT} (h : m_X10_starts T x1 x2 x3 = some res) : Kt B l 17 yX10_starts cX10_starts 6 (some .int) T [.ref (B.1 4 0), .int x1, .int x2, .int x3] (some (.int res.1)) res.2 := by
  refine Kt.of (by decide) (Nat.le_of_ble_eq_true rfl) (fun X hX C E => ?_)
  subst hX
  have C : Cx B X "GriefEngine" cX10_starts 6 17 := C
  show Wk B X 6 T 0 [(0, .ref (B.1 4 0)), (1, .int x1), (2, .int x2), (3, .int x3)] []
  unfold m_X10_starts at h
  refine k_aload_n (pc := 0) C dX10_starts_0 0 rfl ?_
  refine gf_X10_12 (pc := 1) C dX10_starts_1 ?_
  refine k_iload_n (pc := 4) C dX10_starts_4 1 rfl ?_
  obtain ⟨z1, e1, h⟩ := bnd h
  refine k_callvI (pc := 5) C lk_X10_132 (by decide) (ix_X4 lt4_0) (wo_X4 lt4_0) rfl rfl (kc_X4_has lt4_0 e1) dX10_starts_5 rfl rfl (Nat.le_of_ble_eq_true rfl) ?_
  refine k_if_eq (pc := 8) C 31 dX10_starts_8 (by decide) h (fun c10 h => ?_) (fun c10 h => ?_)
  · refine k_sub [0] rfl ?_
    exact k_X10_starts_b31 C E T h
  · refine k_iload_n (pc := 11) C dX10_starts_11 2 rfl ?_
    refine k_iconst (pc := 12) (v := (0 : Int32)) C dX10_starts_12 ciconst_0 ?_
    refine k_bipush (pc := 13) (v := (6 : Int32)) C dX10_starts_13 cbipush_6 ?_
    obtain ⟨z2, e2, h⟩ := bnd h
    refine k_callsI (pc := 15) C lk_X10_69 (by decide) (kc_X10_within e2) dX10_starts_15 rfl rfl (Nat.le_of_ble_eq_true rfl) ?_
    refine k_if_eq (pc := 18) C 31 dX10_starts_18 (by decide) h (fun c9 h => ?_) (fun c9 h => ?_)
    · refine k_sub [0] rfl ?_
      exact k_X10_starts_b31 C E T h
    · refine k_iload_n (pc := 21) C dX10_starts_21 3 rfl ?_
      refine k_iconst (pc := 22) (v := (0 : Int32)) C dX10_starts_22 ciconst_0 ?_
      refine k_bipush (pc := 23) (v := (10 : Int32)) C dX10_starts_23 cbipush_10 ?_
      obtain ⟨z3, e3, h⟩ := bnd h
      refine k_callsI (pc := 25) C lk_X10_69 (by decide) (kc_X10_within e3) dX10_starts_25 rfl rfl (Nat.le_of_ble_eq_true rfl) ?_
      refine k_if_ne (pc := 28) C 38 dX10_starts_28 (by decide) h (fun c8 h => ?_) (fun c8 h => ?_)
      · refine k_aload_n (pc := 38) C dX10_starts_38 0 rfl ?_
        refine gf_X10_12 (pc := 39) C dX10_starts_39 ?_
        refine k_iload_n (pc := 42) C dX10_starts_42 1 rfl ?_
        obtain ⟨z4, e4, h⟩ := bnd h
        have hz4 := kr_X4_kindOf lt4_0 e4
        refine k_callvA (pc := 43) C lk_X10_153 (by decide) (ix_X4 lt4_0) (wo_X4 lt4_0) rfl rfl (kc_X4_kindOf lt4_0 e4) dX10_starts_43 rfl rfl (Nat.le_of_ble_eq_true rfl) ?_
        refine k_aload_n (pc := 46) C dX10_starts_46 0 rfl ?_
        refine gf_X10_12 (pc := 47) C dX10_starts_47 ?_
        refine gf_X10_141 (pc := 50) C lt4_0 dX10_starts_50 ?_
        refine k_aload_n (pc := 53) C dX10_starts_53 0 rfl ?_
        refine gf_X10_12 (pc := 54) C dX10_starts_54 ?_
        refine gf_X10_147 (pc := 57) C lt4_0 dX10_starts_57 ?_
        refine k_iload_n (pc := 60) C dX10_starts_60 1 rfl ?_
        refine k_iald (pc := 61) C (ia_R3 lt4_0) dX10_starts_61 h (fun h => ?_)
        refine k_iload_n (pc := 62) C dX10_starts_62 2 rfl ?_
        refine k_iload_n (pc := 63) C dX10_starts_63 3 rfl ?_
        obtain ⟨z5, e5, h⟩ := bnd h
        refine k_callsJ (pc := 64) C lk_X10_223 (by decide) (kc_X10_tenfoldMean hz4 e5) dX10_starts_64 rfl rfl (Nat.le_of_ble_eq_true rfl) ?_
        refine k_lstore (pc := 67) C [(4, .long z5), (0, .ref (B.1 4 0)), (1, .int x1), (2, .int x2), (3, .int x3)] dX10_starts_67 (by decide) rfl ?_
        refine k_aload_n (pc := 69) C dX10_starts_69 1 rfl ?_
        refine k_lload (pc := 70) C dX10_starts_70 0 rfl ?_
        refine k_iload_n (pc := 72) C dX10_starts_72 3 rfl ?_
        obtain ⟨z6, e6, h⟩ := bnd h
        refine k_callsJ (pc := 73) C lk_X10_227 (by decide) (kc_X10_tenTo e6) dX10_starts_73 rfl rfl (Nat.le_of_ble_eq_true rfl) ?_
        obtain ⟨z7, e7, h⟩ := bnd h
        refine k_callvV (pc := 76) C lk_X10_231 (by decide) ix_X10 wo_X10 rfl rfl (kc_X10_setFraction e7) dX10_starts_76 rfl rfl (Nat.le_of_ble_eq_true rfl) ?_
        refine k_iconst (pc := 79) (v := (1 : Int32)) C dX10_starts_79 ciconst_1 ?_
        exact k_iret (pc := 80) C E (some_1 h) (some_2 h) dX10_starts_80
      · refine k_sub [0] rfl ?_
        exact k_X10_starts_b31 C E T h
def m_X10_years_h56 (rec47 : TT → Int32 → Int64 → Int32 → Int32 → Option (Int32 × TT)) (rec56 : TT → Int32 → Int64 → Int32 → Int32 → Int32 → Option (Int32 × TT)) (T : TT) (x2 : Int32) (x3 : Int64) (x5 : Int32) (x6 : Int32) (x7 : Int32) : Option (Int32 × TT) := if (T.2.1 1 7) ≤ x7 then (bT (sI T 1 8 ((T.2.1 1 8) + (1 : Int32))) (fun T8 => bT (x6 + (1 : Int32)) (fun y9 => rec47 T8 x2 x3 x5 y9))) else (bT (((x3 * (1103515245 : Int64)) + (12345 : Int64)) - ((x3 * (1103515245 : Int64)) + (12345 : Int64)) / (2147483648 : Int64) * (2147483648 : Int64)) (fun y10 => (m_X4_act T 1 x7 (((y10 / (65536 : Int64)) - (y10 / (65536 : Int64)) / (3 : Int64) * (3 : Int64)).toInt32)).bind (fun z11 => bT (x5 + z11.1) (fun y12 => bT (x7 + (1 : Int32)) (fun y13 => rec56 z11.2 x2 y10 y12 x6 y13)))))
def m_X10_years_l56 (rec47 : TT → Int32 → Int64 → Int32 → Int32 → Option (Int32 × TT)) : Nat → TT → Int32 → Int64 → Int32 → Int32 → Int32 → Option (Int32 × TT)
  | 0 => fun _ _ _ _ _ _ => none
  | n + 1 => fun T x2 x3 x5 x6 x7 => m_X10_years_h56 rec47 (m_X10_years_l56 rec47 n) T x2 x3 x5 x6 x7
def m_X10_years_h47 (rec47 : TT → Int32 → Int64 → Int32 → Int32 → Option (Int32 × TT)) (T : TT) (x2 : Int32) (x3 : Int64) (x5 : Int32) (x6 : Int32) : Option (Int32 × TT) := if x2 ≤ x6 then (some (x5, T)) else (m_X10_years_l56 rec47 FU T x2 x3 x5 x6 (0 : Int32))
def m_X10_years_l47 : Nat → TT → Int32 → Int64 → Int32 → Int32 → Option (Int32 × TT)
  | 0 => fun _ _ _ _ _ => none
  | n + 1 => fun T x2 x3 x5 x6 => m_X10_years_h47 (m_X10_years_l47 n) T x2 x3 x5 x6
def m_X10_years_b20 (T : TT) : Option (Int32 × TT) := (m_X10_refuse T (-2 : Int32)).bind (fun z15 => some (z15.1, z15.2))
def m_X10_years (T : TT) (x1 : Int32) (x2 : Int32) : Option (Int32 × TT) := (m_X10_within x1 (0 : Int32) (999999 : Int32)).bind (fun z1 => if z1 = 0 then (m_X10_years_b20 T) else ((m_X10_within x2 (0 : Int32) (60 : Int32)).bind (fun z2 => if z2 = 0 then (m_X10_years_b20 T) else ((m_X4_copyFrom T 1 0).bind (fun z3 => bT (x1.toInt64) (fun y4 => m_X10_years_l47 FU z3 x2 y4 (0 : Int32) (0 : Int32)))))))
set_option maxHeartbeats 4000000 in
set_option maxRecDepth 100000 in
theorem k_X10_years_h56 {B : KB} {X : KE} {rec47 : TT → Int32 → Int64 → Int32 → Int32 → Option (Int32 × TT)} {rec56 : TT → Int32 → Int64 → Int32 → Int32 → Int32 → Option (Int32 × TT)} {res : Int32 × TT} (C : Cx B X "GriefEngine" cX10_years 8 5) (E : Cr B X (some .int) (some (.int res.1)) res.2) (hrec47 : ∀ (T : TT) (x2 : Int32) (x3 : Int64) (x5 : Int32) (x6 : Int32), rec47 T x2 x3 x5 x6 = some res → Wk B X 8 T 47 [(0, .ref (B.1 4 0)), (2, .int x2), (3, .long x3), (5, .int x5), (6, .int x6)] []) (hrec56 : ∀ (T : TT) (x2 : Int32) (x3 : Int64) (x5 : Int32) (x6 : Int32) (x7 : Int32), rec56 T x2 x3 x5 x6 x7 = some res → Wk B X 8 T 56 [(0, .ref (B.1 4 0)), (2, .int x2), (3, .long x3), (5, .int x5), (6, .int x6), (7, .int x7)] []) (T : TT) (x2 : Int32) (x3 : Int64) (x5 : Int32) (x6 : Int32) (x7 : Int32) (h : m_X10_years_h56 rec47 rec56 T x2 x3 x5 x6 x7 = some res) : Wk B X 8 T 56 [(0, .ref (B.1 4 0)), (2, .int x2), (3, .long x3), (5, .int x5), (6, .int x6), (7, .int x7)] [] := by
  unfold m_X10_years_h56 at h
  refine k_iload (pc := 56) C dX10_years_56 5 rfl ?_
  refine k_aload_n (pc := 58) C dX10_years_58 0 rfl ?_
  refine gf_X10_16 (pc := 59) C dX10_years_59 ?_
  refine gf_X10_62 (pc := 62) C lt4_1 dX10_years_62 ?_
  refine k_icmp_ge (pc := 65) C 112 dX10_years_65 (by decide) h (fun c14 h => ?_) (fun c14 h => ?_)
  · refine k_aload_n (pc := 112) C dX10_years_112 0 rfl ?_
    refine gf_X10_16 (pc := 113) C dX10_years_113 ?_
    refine k_dup (pc := 116) C dX10_years_116 rfl ?_
    refine gf_X10_141 (pc := 117) C lt4_1 dX10_years_117 ?_
    refine k_iconst (pc := 120) (v := (1 : Int32)) C dX10_years_120 ciconst_1 ?_
    refine k_iadd (pc := 121) C dX10_years_121 ?_
    refine pf_X10_141 (pc := 122) C lt4_1 dX10_years_122 ?_
    refine k_nT h (fun T8 h => ?_)
    refine k_iincN (pc := 125) (x := x6) (c := (1 : Int32)) C (fun y9 => [(6, .int y9), (0, .ref (B.1 4 0)), (2, .int x2), (3, .long x3), (5, .int x5), (7, .int x7)]) dX10_years_125 4 rfl ciconst_1 (by decide) (fun _ => rfl) h (fun y9 h => ?_)
    refine k_goto (pc := 128) C 47 dX10_years_128 (by decide) ?_
    refine k_sub [1, 2, 3, 4, 0] rfl ?_
    exact hrec47 T8 x2 x3 x5 y9 h
  · refine k_lload_n (pc := 68) C dX10_years_68 2 rfl ?_
    refine k_ldc2_w (pc := 69) (v := (1103515245 : Int64)) C dX10_years_69 tw4_15 ?_
    refine k_lmul (pc := 72) C dX10_years_72 ?_
    refine k_ldc2_w (pc := 73) (v := (12345 : Int64)) C dX10_years_73 tw4_16 ?_
    refine k_ladd (pc := 76) C dX10_years_76 ?_
    refine k_ldc2_w (pc := 77) (v := (2147483648 : Int64)) C dX10_years_77 tw4_17 ?_
    refine k_lremc (pc := 80) C dX10_years_80 (by decide) ?_
    refine k_nL h (fun y10 h => ?_)
    refine k_lstore_n (pc := 81) C [(3, .long y10), (0, .ref (B.1 4 0)), (2, .int x2), (5, .int x5), (6, .int x6), (7, .int x7)] dX10_years_81 (by decide) rfl ?_
    refine k_iload (pc := 82) C dX10_years_82 3 rfl ?_
    refine k_aload_n (pc := 84) C dX10_years_84 1 rfl ?_
    refine gf_X10_16 (pc := 85) C dX10_years_85 ?_
    refine k_iload (pc := 88) C dX10_years_88 5 rfl ?_
    refine k_lload_n (pc := 90) C dX10_years_90 0 rfl ?_
    refine k_ldc2_w (pc := 91) (v := (65536 : Int64)) C dX10_years_91 tw4_18 ?_
    refine k_ldivc (pc := 94) C dX10_years_94 (by decide) ?_
    refine k_ldc2_w (pc := 95) (v := (3 : Int64)) C dX10_years_95 tw4_19 ?_
    refine k_lremc (pc := 98) C dX10_years_98 (by decide) ?_
    refine k_l2i (pc := 99) C dX10_years_99 ?_
    obtain ⟨z11, e11, h⟩ := bnd h
    refine k_callvI (pc := 100) C lk_X10_246 (by decide) (ix_X4 lt4_1) (wo_X4 lt4_1) rfl rfl (kc_X4_act lt4_1 e11) dX10_years_100 rfl rfl (Nat.le_of_ble_eq_true rfl) ?_
    refine k_iadd (pc := 103) C dX10_years_103 ?_
    refine k_nI h (fun y12 h => ?_)
    refine k_istore (pc := 104) C [(5, .int y12), (3, .long y10), (0, .ref (B.1 4 0)), (2, .int x2), (6, .int x6), (7, .int x7)] dX10_years_104 (by decide) rfl ?_
    refine k_iincN (pc := 106) (x := x7) (c := (1 : Int32)) C (fun y13 => [(7, .int y13), (5, .int y12), (3, .long y10), (0, .ref (B.1 4 0)), (2, .int x2), (6, .int x6)]) dX10_years_106 5 rfl ciconst_1 (by decide) (fun _ => rfl) h (fun y13 h => ?_)
    refine k_goto (pc := 109) C 56 dX10_years_109 (by decide) ?_
    refine k_sub [3, 4, 2, 1, 5, 0] rfl ?_
    exact hrec56 z11.2 x2 y10 y12 x6 y13 h
set_option maxHeartbeats 4000000 in
set_option maxRecDepth 100000 in
theorem k_X10_years_l56 {B : KB} {X : KE} {rec47 : TT → Int32 → Int64 → Int32 → Int32 → Option (Int32 × TT)} {res : Int32 × TT} (C : Cx B X "GriefEngine" cX10_years 8 5) (E : Cr B X (some .int) (some (.int res.1)) res.2) (hrec47 : ∀ (T : TT) (x2 : Int32) (x3 : Int64) (x5 : Int32) (x6 : Int32), rec47 T x2 x3 x5 x6 = some res → Wk B X 8 T 47 [(0, .ref (B.1 4 0)), (2, .int x2), (3, .long x3), (5, .int x5), (6, .int x6)] []) : ∀ (n : Nat) (T : TT) (x2 : Int32) (x3 : Int64) (x5 : Int32) (x6 : Int32) (x7 : Int32) (h : m_X10_years_l56 rec47 n T x2 x3 x5 x6 x7 = some res), Wk B X 8 T 56 [(0, .ref (B.1 4 0)), (2, .int x2), (3, .long x3), (5, .int x5), (6, .int x6), (7, .int x7)] [] := by
  intro n
  induction n with
  | zero =>
    intro T x2 x3 x5 x6 x7 h
    exact no_some h
  | succ n ih =>
    intro T x2 x3 x5 x6 x7 h
    exact k_X10_years_h56 C E hrec47 (fun T x2 x3 x5 x6 x7 h => ih T x2 x3 x5 x6 x7 h) T x2 x3 x5 x6 x7 h
set_option maxHeartbeats 4000000 in
set_option maxRecDepth 100000 in
theorem k_X10_years_h47 {B : KB} {X : KE} {rec47 : TT → Int32 → Int64 → Int32 → Int32 → Option (Int32 × TT)} {res : Int32 × TT} (C : Cx B X "GriefEngine" cX10_years 8 5) (E : Cr B X (some .int) (some (.int res.1)) res.2) (hrec47 : ∀ (T : TT) (x2 : Int32) (x3 : Int64) (x5 : Int32) (x6 : Int32), rec47 T x2 x3 x5 x6 = some res → Wk B X 8 T 47 [(0, .ref (B.1 4 0)), (2, .int x2), (3, .long x3), (5, .int x5), (6, .int x6)] []) (T : TT) (x2 : Int32) (x3 : Int64) (x5 : Int32) (x6 : Int32) (h : m_X10_years_h47 rec47 T x2 x3 x5 x6 = some res) : Wk B X 8 T 47 [(0, .ref (B.1 4 0)), (2, .int x2), (3, .long x3), (5, .int x5), (6, .int x6)] [] := by
  unfold m_X10_years_h47 at h
  refine k_iload (pc := 47) C dX10_years_47 4 rfl ?_
  refine k_iload_n (pc := 49) C dX10_years_49 1 rfl ?_
  refine k_icmp_ge (pc := 50) C 131 dX10_years_50 (by decide) h (fun c7 h => ?_) (fun c7 h => ?_)
  · refine k_iload (pc := 131) C dX10_years_131 3 rfl ?_
    exact k_iret (pc := 133) C E (some_1 h) (some_2 h) dX10_years_133
  · refine k_iconst (pc := 53) (v := (0 : Int32)) C dX10_years_53 ciconst_0 ?_
    refine k_istore (pc := 54) C [(7, .int (0 : Int32)), (0, .ref (B.1 4 0)), (2, .int x2), (3, .long x3), (5, .int x5), (6, .int x6)] dX10_years_54 (by decide) rfl ?_
    refine k_sub [1, 2, 3, 4, 5, 0] rfl ?_
    exact k_X10_years_l56 C E hrec47 FU T x2 x3 x5 x6 (0 : Int32) h
set_option maxHeartbeats 4000000 in
set_option maxRecDepth 100000 in
theorem k_X10_years_l47 {B : KB} {X : KE} {res : Int32 × TT} (C : Cx B X "GriefEngine" cX10_years 8 5) (E : Cr B X (some .int) (some (.int res.1)) res.2) : ∀ (n : Nat) (T : TT) (x2 : Int32) (x3 : Int64) (x5 : Int32) (x6 : Int32) (h : m_X10_years_l47 n T x2 x3 x5 x6 = some res), Wk B X 8 T 47 [(0, .ref (B.1 4 0)), (2, .int x2), (3, .long x3), (5, .int x5), (6, .int x6)] [] := by
  intro n
  induction n with
  | zero =>
    intro T x2 x3 x5 x6 h
    exact no_some h
  | succ n ih =>
    intro T x2 x3 x5 x6 h
    exact k_X10_years_h47 C E (fun T x2 x3 x5 x6 h => ih T x2 x3 x5 x6 h) T x2 x3 x5 x6 h
set_option maxHeartbeats 4000000 in
set_option maxRecDepth 100000 in
theorem k_X10_years_b20 {B : KB} {X : KE} {res : Int32 × TT} (C : Cx B X "GriefEngine" cX10_years 8 5) (E : Cr B X (some .int) (some (.int res.1)) res.2) (T : TT) (h : m_X10_years_b20 T = some res) : Wk B X 8 T 20 [(0, .ref (B.1 4 0))] [] := by
  unfold m_X10_years_b20 at h
  refine k_aload_n (pc := 20) C dX10_years_20 0 rfl ?_
  refine k_bipush (pc := 21) (v := (-2 : Int32)) C dX10_years_21 cbipush_m2 ?_
  obtain ⟨z15, e15, h⟩ := bnd h
  refine k_callvI (pc := 23) C lk_X10_73 (by decide) ix_X10 wo_X10 rfl rfl (kc_X10_refuse e15) dX10_years_23 rfl rfl (Nat.le_of_ble_eq_true rfl) ?_
  exact k_iret (pc := 26) C E (some_1 h) (some_2 h) dX10_years_26
set_option maxHeartbeats 4000000 in
set_option maxRecDepth 100000 in
theorem kc_X10_years {B : KB} {l : Launch} {T : TT} {x1 : Int32} {x2 : Int32} {res : Int32 × TT} (h : m_X10_years T x1 x2 = some res) : Kt B l 5 yX10_years cX10_years 8 (some .int) T [.ref (B.1 4 0), .int x1, .int x2] (some (.int res.1)) res.2 := by
  refine Kt.of (by decide) (Nat.le_of_ble_eq_true rfl) (fun X hX C E => ?_)
  subst hX
  have C : Cx B X "GriefEngine" cX10_years 8 5 := C
  show Wk B X 8 T 0 [(0, .ref (B.1 4 0)), (1, .int x1), (2, .int x2)] []
  unfold m_X10_years at h
  refine k_iload_n (pc := 0) C dX10_years_0 1 rfl ?_
  refine k_iconst (pc := 1) (v := (0 : Int32)) C dX10_years_1 ciconst_0 ?_
  refine k_ldc (pc := 2) (v := (999999 : Int32)) C dX10_years_2 tw4_14 ?_
  obtain ⟨z1, e1, h⟩ := bnd h
  refine k_callsI (pc := 4) C lk_X10_69 (by decide) (kc_X10_within e1) dX10_years_4 rfl rfl (Nat.le_of_ble_eq_true rfl) ?_
  refine k_if_eq (pc := 7) C 20 dX10_years_7 (by decide) h (fun c6 h => ?_) (fun c6 h => ?_)
  · refine k_sub [0] rfl ?_
    exact k_X10_years_b20 C E T h
  · refine k_iload_n (pc := 10) C dX10_years_10 2 rfl ?_
    refine k_iconst (pc := 11) (v := (0 : Int32)) C dX10_years_11 ciconst_0 ?_
    refine k_bipush (pc := 12) (v := (60 : Int32)) C dX10_years_12 cbipush_60 ?_
    obtain ⟨z2, e2, h⟩ := bnd h
    refine k_callsI (pc := 14) C lk_X10_69 (by decide) (kc_X10_within e2) dX10_years_14 rfl rfl (Nat.le_of_ble_eq_true rfl) ?_
    refine k_if_ne (pc := 17) C 27 dX10_years_17 (by decide) h (fun c5 h => ?_) (fun c5 h => ?_)
    · refine k_aload_n (pc := 27) C dX10_years_27 0 rfl ?_
      refine gf_X10_16 (pc := 28) C dX10_years_28 ?_
      refine k_aload_n (pc := 31) C dX10_years_31 0 rfl ?_
      refine gf_X10_12 (pc := 32) C dX10_years_32 ?_
      obtain ⟨z3, e3, h⟩ := bnd h
      refine k_callvV (pc := 35) C lk_X10_121 (by decide) (ix_X4 lt4_1) (wo_X4 lt4_1) rfl rfl (kc_X4_copyFrom lt4_1 lt4_0 e3) dX10_years_35 rfl rfl (Nat.le_of_ble_eq_true rfl) ?_
      refine k_iload_n (pc := 38) C dX10_years_38 1 rfl ?_
      refine k_i2l (pc := 39) C dX10_years_39 ?_
      refine k_nL h (fun y4 h => ?_)
      refine k_lstore_n (pc := 40) C [(3, .long y4), (0, .ref (B.1 4 0)), (1, .int x1), (2, .int x2)] dX10_years_40 (by decide) rfl ?_
      refine k_iconst (pc := 41) (v := (0 : Int32)) C dX10_years_41 ciconst_0 ?_
      refine k_istore (pc := 42) C [(5, .int (0 : Int32)), (3, .long y4), (0, .ref (B.1 4 0)), (1, .int x1), (2, .int x2)] dX10_years_42 (by decide) rfl ?_
      refine k_iconst (pc := 44) (v := (0 : Int32)) C dX10_years_44 ciconst_0 ?_
      refine k_istore (pc := 45) C [(6, .int (0 : Int32)), (5, .int (0 : Int32)), (3, .long y4), (0, .ref (B.1 4 0)), (1, .int x1), (2, .int x2)] dX10_years_45 (by decide) rfl ?_
      refine k_sub [3, 5, 2, 1, 0] rfl ?_
      exact k_X10_years_l47 C E FU z3 x2 y4 (0 : Int32) (0 : Int32) h
    · refine k_sub [0] rfl ?_
      exact k_X10_years_b20 C E T h
def m_X10_part (T : TT) (x1 : Int32) : Option (Int64 × TT) := (m_X10_within x1 (0 : Int32) (1 : Int32)).bind (fun z1 => if z1 = 0 then ((m_X10_refuse T (-2 : Int32)).bind (fun z3 => some ((z3.1.toInt64), z3.2))) else (if x1 = 0 then (some ((T.2.2.1 4 9), T)) else (some ((T.2.2.1 4 10), T))))
set_option maxHeartbeats 4000000 in
set_option maxRecDepth 100000 in
theorem kc_X10_part {B : KB} {l : Launch} {T : TT} {x1 : Int32} {res : Int64 × TT} (h : m_X10_part T x1 = some res) : Kt B l 2 yX10_part cX10_part 2 (some .long) T [.ref (B.1 4 0), .int x1] (some (.long res.1)) res.2 := by
  refine Kt.of (by decide) (Nat.le_of_ble_eq_true rfl) (fun X hX C E => ?_)
  subst hX
  have C : Cx B X "GriefEngine" cX10_part 2 2 := C
  show Wk B X 2 T 0 [(0, .ref (B.1 4 0)), (1, .int x1)] []
  unfold m_X10_part at h
  refine k_iload_n (pc := 0) C dX10_part_0 1 rfl ?_
  refine k_iconst (pc := 1) (v := (0 : Int32)) C dX10_part_1 ciconst_0 ?_
  refine k_iconst (pc := 2) (v := (1 : Int32)) C dX10_part_2 ciconst_1 ?_
  obtain ⟨z1, e1, h⟩ := bnd h
  refine k_callsI (pc := 3) C lk_X10_69 (by decide) (kc_X10_within e1) dX10_part_3 rfl rfl (Nat.le_of_ble_eq_true rfl) ?_
  refine k_if_ne (pc := 6) C 17 dX10_part_6 (by decide) h (fun c4 h => ?_) (fun c4 h => ?_)
  · refine k_iload_n (pc := 17) C dX10_part_17 1 rfl ?_
    refine k_if_ne (pc := 18) C 28 dX10_part_18 (by decide) h (fun c2 h => ?_) (fun c2 h => ?_)
    · refine k_aload_n (pc := 28) C dX10_part_28 0 rfl ?_
      refine gf_X10_59 (pc := 29) C dX10_part_29 ?_
      exact k_lret (pc := 32) C E (some_1 h) (some_2 h) dX10_part_32
    · refine k_aload_n (pc := 21) C dX10_part_21 0 rfl ?_
      refine gf_X10_55 (pc := 22) C dX10_part_22 ?_
      refine k_goto (pc := 25) C 32 dX10_part_25 (by decide) ?_
      exact k_lret (pc := 32) C E (some_1 h) (some_2 h) dX10_part_32
  · refine k_aload_n (pc := 9) C dX10_part_9 0 rfl ?_
    refine k_bipush (pc := 10) (v := (-2 : Int32)) C dX10_part_10 cbipush_m2 ?_
    obtain ⟨z3, e3, h⟩ := bnd h
    refine k_callvI (pc := 12) C lk_X10_73 (by decide) ix_X10 wo_X10 rfl rfl (kc_X10_refuse e3) dX10_part_12 rfl rfl (Nat.le_of_ble_eq_true rfl) ?_
    refine k_i2l (pc := 15) C dX10_part_15 ?_
    exact k_lret (pc := 16) C E (some_1 h) (some_2 h) dX10_part_16
def m_X10_image (T : TT) (x1 : Int32) : Option (Int32 × TT) := (m_X10_within x1 (0 : Int32) (1 : Int32)).bind (fun z1 => if z1 = 0 then ((m_X10_refuse T (-2 : Int32)).bind (fun z5 => some (z5.1, z5.2))) else (if inb x1 2 then ((m_X4_copyFrom T (2 + (Int32.toNatClampNeg x1)) 0).bind (fun z3 => if inb x1 2 then bT (sA z3 4 2 (Int32.toNatClampNeg x1) (vp_nar .boolean (1 : Int32))) (fun T4 => some ((1 : Int32), T4)) else none)) else none))
set_option maxHeartbeats 4000000 in
set_option maxRecDepth 100000 in
theorem kc_X10_image {B : KB} {l : Launch} {T : TT} {x1 : Int32} {res : Int32 × TT} (h : m_X10_image T x1 = some res) : Kt B l 2 yX10_image cX10_image 2 (some .int) T [.ref (B.1 4 0), .int x1] (some (.int res.1)) res.2 := by
  refine Kt.of (by decide) (Nat.le_of_ble_eq_true rfl) (fun X hX C E => ?_)
  subst hX
  have C : Cx B X "GriefEngine" cX10_image 2 2 := C
  show Wk B X 2 T 0 [(0, .ref (B.1 4 0)), (1, .int x1)] []
  unfold m_X10_image at h
  refine k_iload_n (pc := 0) C dX10_image_0 1 rfl ?_
  refine k_iconst (pc := 1) (v := (0 : Int32)) C dX10_image_1 ciconst_0 ?_
  refine k_iconst (pc := 2) (v := (1 : Int32)) C dX10_image_2 ciconst_1 ?_
  obtain ⟨z1, e1, h⟩ := bnd h
  refine k_callsI (pc := 3) C lk_X10_69 (by decide) (kc_X10_within e1) dX10_image_3 rfl rfl (Nat.le_of_ble_eq_true rfl) ?_
  refine k_if_ne (pc := 6) C 16 dX10_image_6 (by decide) h (fun c6 h => ?_) (fun c6 h => ?_)
  · refine k_aload_n (pc := 16) C dX10_image_16 0 rfl ?_
    refine gf_X10_19 (pc := 17) C dX10_image_17 ?_
    refine k_iload_n (pc := 20) C dX10_image_20 1 rfl ?_
    refine k_qald (pc := 21) C iq_img rfl rfl dX10_image_21 h (fun hi2 h => ?_)
    refine k_aload_n (pc := 22) C dX10_image_22 0 rfl ?_
    refine gf_X10_12 (pc := 23) C dX10_image_23 ?_
    obtain ⟨z3, e3, h⟩ := bnd h
    refine k_callvV (pc := 26) C lk_X10_121 (by decide) (ix_X4 (img_R hi2)) (wo_X4 (img_R hi2)) rfl rfl (kc_X4_copyFrom (img_R hi2) lt4_0 e3) dX10_image_26 rfl rfl (Nat.le_of_ble_eq_true rfl) ?_
    refine k_aload_n (pc := 29) C dX10_image_29 0 rfl ?_
    refine gf_X10_23 (pc := 30) C dX10_image_30 ?_
    refine k_iload_n (pc := 33) C dX10_image_33 1 rfl ?_
    refine k_iconst (pc := 34) (v := (1 : Int32)) C dX10_image_34 ciconst_1 ?_
    refine k_zast (pc := 35) C ia_4_2 dX10_image_35 h (fun h => ?_)
    refine k_nT h (fun T4 h => ?_)
    refine k_iconst (pc := 36) (v := (1 : Int32)) C dX10_image_36 ciconst_1 ?_
    exact k_iret (pc := 37) C E (some_1 h) (some_2 h) dX10_image_37
  · refine k_aload_n (pc := 9) C dX10_image_9 0 rfl ?_
    refine k_bipush (pc := 10) (v := (-2 : Int32)) C dX10_image_10 cbipush_m2 ?_
    obtain ⟨z5, e5, h⟩ := bnd h
    refine k_callvI (pc := 12) C lk_X10_73 (by decide) ix_X10 wo_X10 rfl rfl (kc_X10_refuse e5) dX10_image_12 rfl rfl (Nat.le_of_ble_eq_true rfl) ?_
    exact k_iret (pc := 15) C E (some_1 h) (some_2 h) dX10_image_15
def m_X10_from (T : TT) (x1 : Int32) : Option (Int32 × TT) := (m_X10_within x1 (0 : Int32) (1 : Int32)).bind (fun z1 => if z1 = 0 then ((m_X10_refuse T (-2 : Int32)).bind (fun z6 => some (z6.1, z6.2))) else (if inb x1 2 then (if (T.1 4 2 (Int32.toNatClampNeg x1)) = 0 then ((m_X10_refuse T (-3 : Int32)).bind (fun z4 => some (z4.1, z4.2))) else (if inb x1 2 then ((m_X4_copyFrom T 0 (2 + (Int32.toNatClampNeg x1))).bind (fun z3 => some ((1 : Int32), z3))) else none)) else none))
set_option maxHeartbeats 4000000 in
set_option maxRecDepth 100000 in
theorem kc_X10_from {B : KB} {l : Launch} {T : TT} {x1 : Int32} {res : Int32 × TT} (h : m_X10_from T x1 = some res) : Kt B l 2 yX10_from cX10_from 2 (some .int) T [.ref (B.1 4 0), .int x1] (some (.int res.1)) res.2 := by
  refine Kt.of (by decide) (Nat.le_of_ble_eq_true rfl) (fun X hX C E => ?_)
  subst hX
  have C : Cx B X "GriefEngine" cX10_from 2 2 := C
  show Wk B X 2 T 0 [(0, .ref (B.1 4 0)), (1, .int x1)] []
  unfold m_X10_from at h
  refine k_iload_n (pc := 0) C dX10_from_0 1 rfl ?_
  refine k_iconst (pc := 1) (v := (0 : Int32)) C dX10_from_1 ciconst_0 ?_
  refine k_iconst (pc := 2) (v := (1 : Int32)) C dX10_from_2 ciconst_1 ?_
  obtain ⟨z1, e1, h⟩ := bnd h
  refine k_callsI (pc := 3) C lk_X10_69 (by decide) (kc_X10_within e1) dX10_from_3 rfl rfl (Nat.le_of_ble_eq_true rfl) ?_
  refine k_if_ne (pc := 6) C 16 dX10_from_6 (by decide) h (fun c7 h => ?_) (fun c7 h => ?_)
  · refine k_aload_n (pc := 16) C dX10_from_16 0 rfl ?_
    refine gf_X10_23 (pc := 17) C dX10_from_17 ?_
    refine k_iload_n (pc := 20) C dX10_from_20 1 rfl ?_
    refine k_zald (pc := 21) C ia_4_2 dX10_from_21 h (fun h => ?_)
    refine k_if_ne (pc := 22) C 32 dX10_from_22 (by decide) h (fun c5 h => ?_) (fun c5 h => ?_)
    · refine k_aload_n (pc := 32) C dX10_from_32 0 rfl ?_
      refine gf_X10_12 (pc := 33) C dX10_from_33 ?_
      refine k_aload_n (pc := 36) C dX10_from_36 0 rfl ?_
      refine gf_X10_19 (pc := 37) C dX10_from_37 ?_
      refine k_iload_n (pc := 40) C dX10_from_40 1 rfl ?_
      refine k_qald (pc := 41) C iq_img rfl rfl dX10_from_41 h (fun hi2 h => ?_)
      obtain ⟨z3, e3, h⟩ := bnd h
      refine k_callvV (pc := 42) C lk_X10_121 (by decide) (ix_X4 lt4_0) (wo_X4 lt4_0) rfl rfl (kc_X4_copyFrom lt4_0 (img_R hi2) e3) dX10_from_42 rfl rfl (Nat.le_of_ble_eq_true rfl) ?_
      refine k_iconst (pc := 45) (v := (1 : Int32)) C dX10_from_45 ciconst_1 ?_
      exact k_iret (pc := 46) C E (some_1 h) (some_2 h) dX10_from_46
    · refine k_aload_n (pc := 25) C dX10_from_25 0 rfl ?_
      refine k_bipush (pc := 26) (v := (-3 : Int32)) C dX10_from_26 cbipush_m3 ?_
      obtain ⟨z4, e4, h⟩ := bnd h
      refine k_callvI (pc := 28) C lk_X10_73 (by decide) ix_X10 wo_X10 rfl rfl (kc_X10_refuse e4) dX10_from_28 rfl rfl (Nat.le_of_ble_eq_true rfl) ?_
      exact k_iret (pc := 31) C E (some_1 h) (some_2 h) dX10_from_31
  · refine k_aload_n (pc := 9) C dX10_from_9 0 rfl ?_
    refine k_bipush (pc := 10) (v := (-2 : Int32)) C dX10_from_10 cbipush_m2 ?_
    obtain ⟨z6, e6, h⟩ := bnd h
    refine k_callvI (pc := 12) C lk_X10_73 (by decide) ix_X10 wo_X10 rfl rfl (kc_X10_refuse e6) dX10_from_12 rfl rfl (Nat.le_of_ble_eq_true rfl) ?_
    exact k_iret (pc := 15) C E (some_1 h) (some_2 h) dX10_from_15
def m_X10_status (T : TT) (x1 : Int32) : Option (Int32 × TT) := (m_X10_within x1 (0 : Int32) (2 : Int32)).bind (fun z1 => if z1 = 0 then ((m_X10_refuse T (-2 : Int32)).bind (fun z2 => some ((-1 : Int32), z2.2))) else (if inb x1 3 then (some ((T.1 4 4 (Int32.toNatClampNeg x1)), T)) else none))
set_option maxHeartbeats 4000000 in
set_option maxRecDepth 100000 in
theorem kc_X10_status {B : KB} {l : Launch} {T : TT} {x1 : Int32} {res : Int32 × TT} (h : m_X10_status T x1 = some res) : Kt B l 2 yX10_status cX10_status 2 (some .int) T [.ref (B.1 4 0), .int x1] (some (.int res.1)) res.2 := by
  refine Kt.of (by decide) (Nat.le_of_ble_eq_true rfl) (fun X hX C E => ?_)
  subst hX
  have C : Cx B X "GriefEngine" cX10_status 2 2 := C
  show Wk B X 2 T 0 [(0, .ref (B.1 4 0)), (1, .int x1)] []
  unfold m_X10_status at h
  refine k_iload_n (pc := 0) C dX10_status_0 1 rfl ?_
  refine k_iconst (pc := 1) (v := (0 : Int32)) C dX10_status_1 ciconst_0 ?_
  refine k_iconst (pc := 2) (v := (2 : Int32)) C dX10_status_2 ciconst_2 ?_
  obtain ⟨z1, e1, h⟩ := bnd h
  refine k_callsI (pc := 3) C lk_X10_69 (by decide) (kc_X10_within e1) dX10_status_3 rfl rfl (Nat.le_of_ble_eq_true rfl) ?_
  refine k_if_ne (pc := 6) C 18 dX10_status_6 (by decide) h (fun c3 h => ?_) (fun c3 h => ?_)
  · refine k_aload_n (pc := 18) C dX10_status_18 0 rfl ?_
    refine gf_X10_52 (pc := 19) C dX10_status_19 ?_
    refine k_iload_n (pc := 22) C dX10_status_22 1 rfl ?_
    refine k_iald (pc := 23) C ia_4_4 dX10_status_23 h (fun h => ?_)
    exact k_iret (pc := 24) C E (some_1 h) (some_2 h) dX10_status_24
  · refine k_aload_n (pc := 9) C dX10_status_9 0 rfl ?_
    refine k_bipush (pc := 10) (v := (-2 : Int32)) C dX10_status_10 cbipush_m2 ?_
    obtain ⟨z2, e2, h⟩ := bnd h
    refine k_callvI (pc := 12) C lk_X10_73 (by decide) ix_X10 wo_X10 rfl rfl (kc_X10_refuse e2) dX10_status_12 rfl rfl (Nat.le_of_ble_eq_true rfl) ?_
    refine k_pop (pc := 15) C dX10_status_15 rfl ?_
    refine k_iconst (pc := 16) (v := (-1 : Int32)) C dX10_status_16 ciconst_m1 ?_
    exact k_iret (pc := 17) C E (some_1 h) (some_2 h) dX10_status_17
def m_X10_count (T : TT) (x1 : Int32) : Option (Int32 × TT) := if x1 = (0 : Int32) then (some ((T.2.1 0 7), T)) else (if x1 = (1 : Int32) then (some ((T.2.1 0 8), T)) else (if x1 = (2 : Int32) then ((m_X4_sumOf T 0 0 3 6).bind (fun z4 => some (z4, T))) else (if x1 = (3 : Int32) then ((m_X4_sumOf T 0 0 4 6).bind (fun z6 => some (z6, T))) else (if x1 = (4 : Int32) then (some ((T.2.1 0 9), T)) else (if x1 = (5 : Int32) then (some ((T.2.1 0 10), T)) else (if x1 = (6 : Int32) then (some ((T.2.1 0 11), T)) else (if x1 = (7 : Int32) then (some ((T.2.1 5 1), T)) else ((m_X10_refuse T (-2 : Int32)).bind (fun z11 => some (z11.1, z11.2))))))))))
set_option maxHeartbeats 4000000 in
set_option maxRecDepth 100000 in
theorem kc_X10_count {B : KB} {l : Launch} {T : TT} {x1 : Int32} {res : Int32 × TT} (h : m_X10_count T x1 = some res) : Kt B l 2 yX10_count cX10_count 2 (some .int) T [.ref (B.1 4 0), .int x1] (some (.int res.1)) res.2 := by
  refine Kt.of (by decide) (Nat.le_of_ble_eq_true rfl) (fun X hX C E => ?_)
  subst hX
  have C : Cx B X "GriefEngine" cX10_count 2 2 := C
  show Wk B X 2 T 0 [(0, .ref (B.1 4 0)), (1, .int x1)] []
  unfold m_X10_count at h
  refine k_iload_n (pc := 0) C dX10_count_0 1 rfl ?_
  by_cases c1 : x1 = (0 : Int32)
  · rw [if_pos c1] at h
    refine k_tabIn (pc := 1) C 48 (0 : Int32) dX10_count_1 c1 (by decide) (by decide) rfl (by decide) ?_
    refine k_aload_n (pc := 48) C dX10_count_48 0 rfl ?_
    refine gf_X10_12 (pc := 49) C dX10_count_49 ?_
    refine gf_X10_62 (pc := 52) C lt4_0 dX10_count_52 ?_
    exact k_iret (pc := 55) C E (some_1 h) (some_2 h) dX10_count_55
  · rw [if_neg c1] at h
    by_cases c2 : x1 = (1 : Int32)
    · rw [if_pos c2] at h
      refine k_tabIn (pc := 1) C 56 (1 : Int32) dX10_count_1 c2 (by decide) (by decide) rfl (by decide) ?_
      refine k_aload_n (pc := 56) C dX10_count_56 0 rfl ?_
      refine gf_X10_12 (pc := 57) C dX10_count_57 ?_
      refine gf_X10_141 (pc := 60) C lt4_0 dX10_count_60 ?_
      exact k_iret (pc := 63) C E (some_1 h) (some_2 h) dX10_count_63
    · rw [if_neg c2] at h
      by_cases c3 : x1 = (2 : Int32)
      · rw [if_pos c3] at h
        refine k_tabIn (pc := 1) C 64 (2 : Int32) dX10_count_1 c3 (by decide) (by decide) rfl (by decide) ?_
        refine k_aload_n (pc := 64) C dX10_count_64 0 rfl ?_
        refine gf_X10_12 (pc := 65) C dX10_count_65 ?_
        refine k_aload_n (pc := 68) C dX10_count_68 0 rfl ?_
        refine gf_X10_12 (pc := 69) C dX10_count_69 ?_
        refine gf_X10_147 (pc := 72) C lt4_0 dX10_count_72 ?_
        obtain ⟨z4, e4, h⟩ := bnd h
        refine k_callvI (pc := 75) C lk_X10_249 (by decide) (ix_X4 lt4_0) (wo_X4 lt4_0) rfl rfl (kc_X4_sumOf lt4_0 (ia_R3 lt4_0) e4) dX10_count_75 rfl rfl (Nat.le_of_ble_eq_true rfl) ?_
        exact k_iret (pc := 78) C E (some_1 h) (some_2 h) dX10_count_78
      · rw [if_neg c3] at h
        by_cases c5 : x1 = (3 : Int32)
        · rw [if_pos c5] at h
          refine k_tabIn (pc := 1) C 79 (3 : Int32) dX10_count_1 c5 (by decide) (by decide) rfl (by decide) ?_
          refine k_aload_n (pc := 79) C dX10_count_79 0 rfl ?_
          refine gf_X10_12 (pc := 80) C dX10_count_80 ?_
          refine k_aload_n (pc := 83) C dX10_count_83 0 rfl ?_
          refine gf_X10_12 (pc := 84) C dX10_count_84 ?_
          refine gf_X10_150 (pc := 87) C lt4_0 dX10_count_87 ?_
          obtain ⟨z6, e6, h⟩ := bnd h
          refine k_callvI (pc := 90) C lk_X10_249 (by decide) (ix_X4 lt4_0) (wo_X4 lt4_0) rfl rfl (kc_X4_sumOf lt4_0 (ia_R4 lt4_0) e6) dX10_count_90 rfl rfl (Nat.le_of_ble_eq_true rfl) ?_
          exact k_iret (pc := 93) C E (some_1 h) (some_2 h) dX10_count_93
        · rw [if_neg c5] at h
          by_cases c7 : x1 = (4 : Int32)
          · rw [if_pos c7] at h
            refine k_tabIn (pc := 1) C 94 (4 : Int32) dX10_count_1 c7 (by decide) (by decide) rfl (by decide) ?_
            refine k_aload_n (pc := 94) C dX10_count_94 0 rfl ?_
            refine gf_X10_12 (pc := 95) C dX10_count_95 ?_
            refine gf_X10_203 (pc := 98) C lt4_0 dX10_count_98 ?_
            exact k_iret (pc := 101) C E (some_1 h) (some_2 h) dX10_count_101
          · rw [if_neg c7] at h
            by_cases c8 : x1 = (5 : Int32)
            · rw [if_pos c8] at h
              refine k_tabIn (pc := 1) C 102 (5 : Int32) dX10_count_1 c8 (by decide) (by decide) rfl (by decide) ?_
              refine k_aload_n (pc := 102) C dX10_count_102 0 rfl ?_
              refine gf_X10_12 (pc := 103) C dX10_count_103 ?_
              refine gf_X10_206 (pc := 106) C lt4_0 dX10_count_106 ?_
              exact k_iret (pc := 109) C E (some_1 h) (some_2 h) dX10_count_109
            · rw [if_neg c8] at h
              by_cases c9 : x1 = (6 : Int32)
              · rw [if_pos c9] at h
                refine k_tabIn (pc := 1) C 110 (6 : Int32) dX10_count_1 c9 (by decide) (by decide) rfl (by decide) ?_
                refine k_aload_n (pc := 110) C dX10_count_110 0 rfl ?_
                refine gf_X10_12 (pc := 111) C dX10_count_111 ?_
                refine gf_X10_135 (pc := 114) C lt4_0 dX10_count_114 ?_
                exact k_iret (pc := 117) C E (some_1 h) (some_2 h) dX10_count_117
              · rw [if_neg c9] at h
                by_cases c10 : x1 = (7 : Int32)
                · rw [if_pos c10] at h
                  refine k_tabIn (pc := 1) C 118 (7 : Int32) dX10_count_1 c10 (by decide) (by decide) rfl (by decide) ?_
                  refine k_aload_n (pc := 118) C dX10_count_118 0 rfl ?_
                  refine gf_X10_30 (pc := 119) C dX10_count_119 ?_
                  refine gf_X10_87 (pc := 122) C dX10_count_122 ?_
                  exact k_iret (pc := 125) C E (some_1 h) (some_2 h) dX10_count_125
                · rw [if_neg c10] at h
                  have n1 : x1.toInt ≠ 0 := ne_toInt c1
                  have n2 : x1.toInt ≠ 1 := ne_toInt c2
                  have n3 : x1.toInt ≠ 2 := ne_toInt c3
                  have n5 : x1.toInt ≠ 3 := ne_toInt c5
                  have n7 : x1.toInt ≠ 4 := ne_toInt c7
                  have n8 : x1.toInt ≠ 5 := ne_toInt c8
                  have n9 : x1.toInt ≠ 6 := ne_toInt c9
                  have n10 : x1.toInt ≠ 7 := ne_toInt c10
                  refine k_tabOut (pc := 1) C 126 dX10_count_1 (by omega) (by decide) ?_
                  refine k_aload_n (pc := 126) C dX10_count_126 0 rfl ?_
                  refine k_bipush (pc := 127) (v := (-2 : Int32)) C dX10_count_127 cbipush_m2 ?_
                  obtain ⟨z11, e11, h⟩ := bnd h
                  refine k_callvI (pc := 129) C lk_X10_73 (by decide) ix_X10 wo_X10 rfl rfl (kc_X10_refuse e11) dX10_count_129 rfl rfl (Nat.le_of_ble_eq_true rfl) ?_
                  exact k_iret (pc := 132) C E (some_1 h) (some_2 h) dX10_count_132
def m_X10_digest_b202 (T : TT) (x1 : Int64) : Option (Int64 × TT) := bT (((31 : Int64) * x1) + (T.2.2.1 4 9)) (fun y18 => some ((((31 : Int64) * y18) + (T.2.2.1 4 10)), T))
def m_X10_digest_h154 (rec154 : TT → Int64 → Int32 → Option (Int64 × TT)) (T : TT) (x1 : Int64) (x3 : Int32) : Option (Int64 × TT) := if ((T.2.1 0 10) * (3 : Int32)) ≤ x3 then (m_X10_digest_b202 T x1) else (if (12 : Int32) ≤ x3 then (m_X10_digest_b202 T x1) else (if inb x3 12 then (bT (((31 : Int64) * x1) + ((T.1 0 6 (Int32.toNatClampNeg x3)).toInt64)) (fun y14 => bT (x3 + (1 : Int32)) (fun y15 => rec154 T y14 y15))) else none))
def m_X10_digest_l154 : Nat → TT → Int64 → Int32 → Option (Int64 × TT)
  | 0 => fun _ _ _ => none
  | n + 1 => fun T x1 x3 => m_X10_digest_h154 (m_X10_digest_l154 n) T x1 x3
def m_X10_digest_b152 (T : TT) (x1 : Int64) : Option (Int64 × TT) := m_X10_digest_l154 FU T x1 (0 : Int32)
def m_X10_digest_h103 (rec103 : TT → Int64 → Int32 → Option (Int64 × TT)) (T : TT) (x1 : Int64) (x3 : Int32) : Option (Int64 × TT) := if ((T.2.1 0 9) * (6 : Int32)) ≤ x3 then (m_X10_digest_b152 T x1) else (if (36 : Int32) ≤ x3 then (m_X10_digest_b152 T x1) else (if inb x3 36 then (bT (((31 : Int64) * x1) + ((T.1 0 5 (Int32.toNatClampNeg x3)).toInt64)) (fun y10 => bT (x3 + (1 : Int32)) (fun y11 => rec103 T y10 y11))) else none))
def m_X10_digest_l103 : Nat → TT → Int64 → Int32 → Option (Int64 × TT)
  | 0 => fun _ _ _ => none
  | n + 1 => fun T x1 x3 => m_X10_digest_h103 (m_X10_digest_l103 n) T x1 x3
def m_X10_digest_h33 (rec33 : TT → Int64 → Int32 → Option (Int64 × TT)) (T : TT) (x1 : Int64) (x3 : Int32) : Option (Int64 × TT) := if (T.2.1 0 7) ≤ x3 then (m_X10_digest_l103 FU T x1 (0 : Int32)) else (if inb x3 6 then (bT (((31 : Int64) * x1) + ((T.1 0 2 (Int32.toNatClampNeg x3)).toInt64)) (fun y5 => if inb x3 6 then (bT (((31 : Int64) * y5) + ((T.1 0 3 (Int32.toNatClampNeg x3)).toInt64)) (fun y6 => if inb x3 6 then (bT (((31 : Int64) * y6) + ((T.1 0 4 (Int32.toNatClampNeg x3)).toInt64)) (fun y7 => bT (x3 + (1 : Int32)) (fun y8 => rec33 T y7 y8))) else none)) else none)) else none)
def m_X10_digest_l33 : Nat → TT → Int64 → Int32 → Option (Int64 × TT)
  | 0 => fun _ _ _ => none
  | n + 1 => fun T x1 x3 => m_X10_digest_h33 (m_X10_digest_l33 n) T x1 x3
def m_X10_digest_h6 (rec6 : TT → Int64 → Int32 → Option (Int64 × TT)) (T : TT) (x1 : Int64) (x3 : Int32) : Option (Int64 × TT) := if (8 : Int32) ≤ x3 then (m_X10_digest_l33 FU T x1 (0 : Int32)) else ((m_X10_count T x3).bind (fun z1 => bT (((31 : Int64) * x1) + (z1.1.toInt64)) (fun y2 => bT (x3 + (1 : Int32)) (fun y3 => rec6 z1.2 y2 y3))))
def m_X10_digest_l6 : Nat → TT → Int64 → Int32 → Option (Int64 × TT)
  | 0 => fun _ _ _ => none
  | n + 1 => fun T x1 x3 => m_X10_digest_h6 (m_X10_digest_l6 n) T x1 x3
def m_X10_digest (T : TT) : Option (Int64 × TT) := m_X10_digest_l6 FU T (1433 : Int64) (0 : Int32)
set_option maxHeartbeats 4000000 in
set_option maxRecDepth 100000 in
theorem k_X10_digest_b202 {B : KB} {X : KE} {res : Int64 × TT} (C : Cx B X "GriefEngine" cX10_digest 4 3) (E : Cr B X (some .long) (some (.long res.1)) res.2) (T : TT) (x1 : Int64) (h : m_X10_digest_b202 T x1 = some res) : Wk B X 4 T 202 [(0, .ref (B.1 4 0)), (1, .long x1)] [] := by
  unfold m_X10_digest_b202 at h
  refine k_ldc2_w (pc := 202) (v := (31 : Int64)) C dX10_digest_202 tw4_50 ?_
  refine k_lload_n (pc := 205) C dX10_digest_205 1 rfl ?_
  refine k_lmul (pc := 206) C dX10_digest_206 ?_
  refine k_aload_n (pc := 207) C dX10_digest_207 0 rfl ?_
  refine gf_X10_55 (pc := 208) C dX10_digest_208 ?_
  refine k_ladd (pc := 211) C dX10_digest_211 ?_
  refine k_nL h (fun y18 h => ?_)
  refine k_lstore_n (pc := 212) C [(1, .long y18), (0, .ref (B.1 4 0))] dX10_digest_212 (by decide) rfl ?_
  refine k_ldc2_w (pc := 213) (v := (31 : Int64)) C dX10_digest_213 tw4_50 ?_
  refine k_lload_n (pc := 216) C dX10_digest_216 0 rfl ?_
  refine k_lmul (pc := 217) C dX10_digest_217 ?_
  refine k_aload_n (pc := 218) C dX10_digest_218 1 rfl ?_
  refine gf_X10_59 (pc := 219) C dX10_digest_219 ?_
  refine k_ladd (pc := 222) C dX10_digest_222 ?_
  exact k_lret (pc := 223) C E (some_1 h) (some_2 h) dX10_digest_223
set_option maxHeartbeats 4000000 in
set_option maxRecDepth 100000 in
theorem k_X10_digest_h154 {B : KB} {X : KE} {rec154 : TT → Int64 → Int32 → Option (Int64 × TT)} {res : Int64 × TT} (C : Cx B X "GriefEngine" cX10_digest 4 3) (E : Cr B X (some .long) (some (.long res.1)) res.2) (hrec154 : ∀ (T : TT) (x1 : Int64) (x3 : Int32), rec154 T x1 x3 = some res → Wk B X 4 T 154 [(0, .ref (B.1 4 0)), (1, .long x1), (3, .int x3)] []) (T : TT) (x1 : Int64) (x3 : Int32) (h : m_X10_digest_h154 rec154 T x1 x3 = some res) : Wk B X 4 T 154 [(0, .ref (B.1 4 0)), (1, .long x1), (3, .int x3)] [] := by
  unfold m_X10_digest_h154 at h
  refine k_iload_n (pc := 154) C dX10_digest_154 2 rfl ?_
  refine k_aload_n (pc := 155) C dX10_digest_155 0 rfl ?_
  refine gf_X10_12 (pc := 156) C dX10_digest_156 ?_
  refine gf_X10_206 (pc := 159) C lt4_0 dX10_digest_159 ?_
  refine k_iconst (pc := 162) (v := (3 : Int32)) C dX10_digest_162 ciconst_3 ?_
  refine k_imul (pc := 163) C dX10_digest_163 ?_
  refine k_icmp_ge (pc := 164) C 202 dX10_digest_164 (by decide) h (fun c17 h => ?_) (fun c17 h => ?_)
  · refine k_sub [0, 1] rfl ?_
    exact k_X10_digest_b202 C E T x1 h
  · refine k_iload_n (pc := 167) C dX10_digest_167 2 rfl ?_
    refine k_aload_n (pc := 168) C dX10_digest_168 0 rfl ?_
    refine gf_X10_12 (pc := 169) C dX10_digest_169 ?_
    refine gf_X10_263 (pc := 172) C lt4_0 dX10_digest_172 ?_
    refine k_ilen (pc := 175) C (ia_R6 lt4_0) (12 : Int32) dX10_digest_175 (by decide) ?_
    refine k_icmp_ge (pc := 176) C 202 dX10_digest_176 (by decide) h (fun c16 h => ?_) (fun c16 h => ?_)
    · refine k_sub [0, 1] rfl ?_
      exact k_X10_digest_b202 C E T x1 h
    · refine k_ldc2_w (pc := 179) (v := (31 : Int64)) C dX10_digest_179 tw4_50 ?_
      refine k_lload_n (pc := 182) C dX10_digest_182 1 rfl ?_
      refine k_lmul (pc := 183) C dX10_digest_183 ?_
      refine k_aload_n (pc := 184) C dX10_digest_184 0 rfl ?_
      refine gf_X10_12 (pc := 185) C dX10_digest_185 ?_
      refine gf_X10_263 (pc := 188) C lt4_0 dX10_digest_188 ?_
      refine k_iload_n (pc := 191) C dX10_digest_191 2 rfl ?_
      refine k_iald (pc := 192) C (ia_R6 lt4_0) dX10_digest_192 h (fun h => ?_)
      refine k_i2l (pc := 193) C dX10_digest_193 ?_
      refine k_ladd (pc := 194) C dX10_digest_194 ?_
      refine k_nL h (fun y14 h => ?_)
      refine k_lstore_n (pc := 195) C [(1, .long y14), (0, .ref (B.1 4 0)), (3, .int x3)] dX10_digest_195 (by decide) rfl ?_
      refine k_iincN (pc := 196) (x := x3) (c := (1 : Int32)) C (fun y15 => [(3, .int y15), (1, .long y14), (0, .ref (B.1 4 0))]) dX10_digest_196 2 rfl ciconst_1 (by decide) (fun _ => rfl) h (fun y15 h => ?_)
      refine k_goto (pc := 199) C 154 dX10_digest_199 (by decide) ?_
      refine k_sub [2, 1, 0] rfl ?_
      exact hrec154 T y14 y15 h
set_option maxHeartbeats 4000000 in
set_option maxRecDepth 100000 in
theorem k_X10_digest_l154 {B : KB} {X : KE} {res : Int64 × TT} (C : Cx B X "GriefEngine" cX10_digest 4 3) (E : Cr B X (some .long) (some (.long res.1)) res.2) : ∀ (n : Nat) (T : TT) (x1 : Int64) (x3 : Int32) (h : m_X10_digest_l154 n T x1 x3 = some res), Wk B X 4 T 154 [(0, .ref (B.1 4 0)), (1, .long x1), (3, .int x3)] [] := by
  intro n
  induction n with
  | zero =>
    intro T x1 x3 h
    exact no_some h
  | succ n ih =>
    intro T x1 x3 h
    exact k_X10_digest_h154 C E (fun T x1 x3 h => ih T x1 x3 h) T x1 x3 h
set_option maxHeartbeats 4000000 in
set_option maxRecDepth 100000 in
theorem k_X10_digest_b152 {B : KB} {X : KE} {res : Int64 × TT} (C : Cx B X "GriefEngine" cX10_digest 4 3) (E : Cr B X (some .long) (some (.long res.1)) res.2) (T : TT) (x1 : Int64) (h : m_X10_digest_b152 T x1 = some res) : Wk B X 4 T 152 [(0, .ref (B.1 4 0)), (1, .long x1)] [] := by
  unfold m_X10_digest_b152 at h
  refine k_iconst (pc := 152) (v := (0 : Int32)) C dX10_digest_152 ciconst_0 ?_
  refine k_istore_n (pc := 153) C [(3, .int (0 : Int32)), (0, .ref (B.1 4 0)), (1, .long x1)] dX10_digest_153 (by decide) rfl ?_
  refine k_sub [1, 2, 0] rfl ?_
  exact k_X10_digest_l154 C E FU T x1 (0 : Int32) h
set_option maxHeartbeats 4000000 in
set_option maxRecDepth 100000 in
theorem k_X10_digest_h103 {B : KB} {X : KE} {rec103 : TT → Int64 → Int32 → Option (Int64 × TT)} {res : Int64 × TT} (C : Cx B X "GriefEngine" cX10_digest 4 3) (E : Cr B X (some .long) (some (.long res.1)) res.2) (hrec103 : ∀ (T : TT) (x1 : Int64) (x3 : Int32), rec103 T x1 x3 = some res → Wk B X 4 T 103 [(0, .ref (B.1 4 0)), (1, .long x1), (3, .int x3)] []) (T : TT) (x1 : Int64) (x3 : Int32) (h : m_X10_digest_h103 rec103 T x1 x3 = some res) : Wk B X 4 T 103 [(0, .ref (B.1 4 0)), (1, .long x1), (3, .int x3)] [] := by
  unfold m_X10_digest_h103 at h
  refine k_iload_n (pc := 103) C dX10_digest_103 2 rfl ?_
  refine k_aload_n (pc := 104) C dX10_digest_104 0 rfl ?_
  refine gf_X10_12 (pc := 105) C dX10_digest_105 ?_
  refine gf_X10_203 (pc := 108) C lt4_0 dX10_digest_108 ?_
  refine k_bipush (pc := 111) (v := (6 : Int32)) C dX10_digest_111 cbipush_6 ?_
  refine k_imul (pc := 113) C dX10_digest_113 ?_
  refine k_icmp_ge (pc := 114) C 152 dX10_digest_114 (by decide) h (fun c13 h => ?_) (fun c13 h => ?_)
  · refine k_sub [0, 1] rfl ?_
    exact k_X10_digest_b152 C E T x1 h
  · refine k_iload_n (pc := 117) C dX10_digest_117 2 rfl ?_
    refine k_aload_n (pc := 118) C dX10_digest_118 0 rfl ?_
    refine gf_X10_12 (pc := 119) C dX10_digest_119 ?_
    refine gf_X10_260 (pc := 122) C lt4_0 dX10_digest_122 ?_
    refine k_ilen (pc := 125) C (ia_R5 lt4_0) (36 : Int32) dX10_digest_125 (by decide) ?_
    refine k_icmp_ge (pc := 126) C 152 dX10_digest_126 (by decide) h (fun c12 h => ?_) (fun c12 h => ?_)
    · refine k_sub [0, 1] rfl ?_
      exact k_X10_digest_b152 C E T x1 h
    · refine k_ldc2_w (pc := 129) (v := (31 : Int64)) C dX10_digest_129 tw4_50 ?_
      refine k_lload_n (pc := 132) C dX10_digest_132 1 rfl ?_
      refine k_lmul (pc := 133) C dX10_digest_133 ?_
      refine k_aload_n (pc := 134) C dX10_digest_134 0 rfl ?_
      refine gf_X10_12 (pc := 135) C dX10_digest_135 ?_
      refine gf_X10_260 (pc := 138) C lt4_0 dX10_digest_138 ?_
      refine k_iload_n (pc := 141) C dX10_digest_141 2 rfl ?_
      refine k_iald (pc := 142) C (ia_R5 lt4_0) dX10_digest_142 h (fun h => ?_)
      refine k_i2l (pc := 143) C dX10_digest_143 ?_
      refine k_ladd (pc := 144) C dX10_digest_144 ?_
      refine k_nL h (fun y10 h => ?_)
      refine k_lstore_n (pc := 145) C [(1, .long y10), (0, .ref (B.1 4 0)), (3, .int x3)] dX10_digest_145 (by decide) rfl ?_
      refine k_iincN (pc := 146) (x := x3) (c := (1 : Int32)) C (fun y11 => [(3, .int y11), (1, .long y10), (0, .ref (B.1 4 0))]) dX10_digest_146 2 rfl ciconst_1 (by decide) (fun _ => rfl) h (fun y11 h => ?_)
      refine k_goto (pc := 149) C 103 dX10_digest_149 (by decide) ?_
      refine k_sub [2, 1, 0] rfl ?_
      exact hrec103 T y10 y11 h
set_option maxHeartbeats 4000000 in
set_option maxRecDepth 100000 in
theorem k_X10_digest_l103 {B : KB} {X : KE} {res : Int64 × TT} (C : Cx B X "GriefEngine" cX10_digest 4 3) (E : Cr B X (some .long) (some (.long res.1)) res.2) : ∀ (n : Nat) (T : TT) (x1 : Int64) (x3 : Int32) (h : m_X10_digest_l103 n T x1 x3 = some res), Wk B X 4 T 103 [(0, .ref (B.1 4 0)), (1, .long x1), (3, .int x3)] [] := by
  intro n
  induction n with
  | zero =>
    intro T x1 x3 h
    exact no_some h
  | succ n ih =>
    intro T x1 x3 h
    exact k_X10_digest_h103 C E (fun T x1 x3 h => ih T x1 x3 h) T x1 x3 h
set_option maxHeartbeats 4000000 in
set_option maxRecDepth 100000 in
theorem k_X10_digest_h33 {B : KB} {X : KE} {rec33 : TT → Int64 → Int32 → Option (Int64 × TT)} {res : Int64 × TT} (C : Cx B X "GriefEngine" cX10_digest 4 3) (E : Cr B X (some .long) (some (.long res.1)) res.2) (hrec33 : ∀ (T : TT) (x1 : Int64) (x3 : Int32), rec33 T x1 x3 = some res → Wk B X 4 T 33 [(0, .ref (B.1 4 0)), (1, .long x1), (3, .int x3)] []) (T : TT) (x1 : Int64) (x3 : Int32) (h : m_X10_digest_h33 rec33 T x1 x3 = some res) : Wk B X 4 T 33 [(0, .ref (B.1 4 0)), (1, .long x1), (3, .int x3)] [] := by
  unfold m_X10_digest_h33 at h
  refine k_iload_n (pc := 33) C dX10_digest_33 2 rfl ?_
  refine k_aload_n (pc := 34) C dX10_digest_34 0 rfl ?_
  refine gf_X10_12 (pc := 35) C dX10_digest_35 ?_
  refine gf_X10_62 (pc := 38) C lt4_0 dX10_digest_38 ?_
  refine k_icmp_ge (pc := 41) C 101 dX10_digest_41 (by decide) h (fun c9 h => ?_) (fun c9 h => ?_)
  · refine k_iconst (pc := 101) (v := (0 : Int32)) C dX10_digest_101 ciconst_0 ?_
    refine k_istore_n (pc := 102) C [(3, .int (0 : Int32)), (0, .ref (B.1 4 0)), (1, .long x1)] dX10_digest_102 (by decide) rfl ?_
    refine k_sub [1, 2, 0] rfl ?_
    exact k_X10_digest_l103 C E FU T x1 (0 : Int32) h
  · refine k_ldc2_w (pc := 44) (v := (31 : Int64)) C dX10_digest_44 tw4_50 ?_
    refine k_lload_n (pc := 47) C dX10_digest_47 1 rfl ?_
    refine k_lmul (pc := 48) C dX10_digest_48 ?_
    refine k_aload_n (pc := 49) C dX10_digest_49 0 rfl ?_
    refine gf_X10_12 (pc := 50) C dX10_digest_50 ?_
    refine gf_X10_144 (pc := 53) C lt4_0 dX10_digest_53 ?_
    refine k_iload_n (pc := 56) C dX10_digest_56 2 rfl ?_
    refine k_iald (pc := 57) C (ia_R2 lt4_0) dX10_digest_57 h (fun h => ?_)
    refine k_i2l (pc := 58) C dX10_digest_58 ?_
    refine k_ladd (pc := 59) C dX10_digest_59 ?_
    refine k_nL h (fun y5 h => ?_)
    refine k_lstore_n (pc := 60) C [(1, .long y5), (0, .ref (B.1 4 0)), (3, .int x3)] dX10_digest_60 (by decide) rfl ?_
    refine k_ldc2_w (pc := 61) (v := (31 : Int64)) C dX10_digest_61 tw4_50 ?_
    refine k_lload_n (pc := 64) C dX10_digest_64 0 rfl ?_
    refine k_lmul (pc := 65) C dX10_digest_65 ?_
    refine k_aload_n (pc := 66) C dX10_digest_66 1 rfl ?_
    refine gf_X10_12 (pc := 67) C dX10_digest_67 ?_
    refine gf_X10_147 (pc := 70) C lt4_0 dX10_digest_70 ?_
    refine k_iload_n (pc := 73) C dX10_digest_73 2 rfl ?_
    refine k_iald (pc := 74) C (ia_R3 lt4_0) dX10_digest_74 h (fun h => ?_)
    refine k_i2l (pc := 75) C dX10_digest_75 ?_
    refine k_ladd (pc := 76) C dX10_digest_76 ?_
    refine k_nL h (fun y6 h => ?_)
    refine k_lstore_n (pc := 77) C [(1, .long y6), (0, .ref (B.1 4 0)), (3, .int x3)] dX10_digest_77 (by decide) rfl ?_
    refine k_ldc2_w (pc := 78) (v := (31 : Int64)) C dX10_digest_78 tw4_50 ?_
    refine k_lload_n (pc := 81) C dX10_digest_81 0 rfl ?_
    refine k_lmul (pc := 82) C dX10_digest_82 ?_
    refine k_aload_n (pc := 83) C dX10_digest_83 1 rfl ?_
    refine gf_X10_12 (pc := 84) C dX10_digest_84 ?_
    refine gf_X10_150 (pc := 87) C lt4_0 dX10_digest_87 ?_
    refine k_iload_n (pc := 90) C dX10_digest_90 2 rfl ?_
    refine k_iald (pc := 91) C (ia_R4 lt4_0) dX10_digest_91 h (fun h => ?_)
    refine k_i2l (pc := 92) C dX10_digest_92 ?_
    refine k_ladd (pc := 93) C dX10_digest_93 ?_
    refine k_nL h (fun y7 h => ?_)
    refine k_lstore_n (pc := 94) C [(1, .long y7), (0, .ref (B.1 4 0)), (3, .int x3)] dX10_digest_94 (by decide) rfl ?_
    refine k_iincN (pc := 95) (x := x3) (c := (1 : Int32)) C (fun y8 => [(3, .int y8), (1, .long y7), (0, .ref (B.1 4 0))]) dX10_digest_95 2 rfl ciconst_1 (by decide) (fun _ => rfl) h (fun y8 h => ?_)
    refine k_goto (pc := 98) C 33 dX10_digest_98 (by decide) ?_
    refine k_sub [2, 1, 0] rfl ?_
    exact hrec33 T y7 y8 h
set_option maxHeartbeats 4000000 in
set_option maxRecDepth 100000 in
theorem k_X10_digest_l33 {B : KB} {X : KE} {res : Int64 × TT} (C : Cx B X "GriefEngine" cX10_digest 4 3) (E : Cr B X (some .long) (some (.long res.1)) res.2) : ∀ (n : Nat) (T : TT) (x1 : Int64) (x3 : Int32) (h : m_X10_digest_l33 n T x1 x3 = some res), Wk B X 4 T 33 [(0, .ref (B.1 4 0)), (1, .long x1), (3, .int x3)] [] := by
  intro n
  induction n with
  | zero =>
    intro T x1 x3 h
    exact no_some h
  | succ n ih =>
    intro T x1 x3 h
    exact k_X10_digest_h33 C E (fun T x1 x3 h => ih T x1 x3 h) T x1 x3 h
set_option maxHeartbeats 4000000 in
set_option maxRecDepth 100000 in
theorem k_X10_digest_h6 {B : KB} {X : KE} {rec6 : TT → Int64 → Int32 → Option (Int64 × TT)} {res : Int64 × TT} (C : Cx B X "GriefEngine" cX10_digest 4 3) (E : Cr B X (some .long) (some (.long res.1)) res.2) (hrec6 : ∀ (T : TT) (x1 : Int64) (x3 : Int32), rec6 T x1 x3 = some res → Wk B X 4 T 6 [(0, .ref (B.1 4 0)), (1, .long x1), (3, .int x3)] []) (T : TT) (x1 : Int64) (x3 : Int32) (h : m_X10_digest_h6 rec6 T x1 x3 = some res) : Wk B X 4 T 6 [(0, .ref (B.1 4 0)), (1, .long x1), (3, .int x3)] [] := by
  unfold m_X10_digest_h6 at h
  refine k_iload_n (pc := 6) C dX10_digest_6 2 rfl ?_
  refine k_bipush (pc := 7) (v := (8 : Int32)) C dX10_digest_7 cbipush_8 ?_
  refine k_icmp_ge (pc := 9) C 31 dX10_digest_9 (by decide) h (fun c4 h => ?_) (fun c4 h => ?_)
  · refine k_iconst (pc := 31) (v := (0 : Int32)) C dX10_digest_31 ciconst_0 ?_
    refine k_istore_n (pc := 32) C [(3, .int (0 : Int32)), (0, .ref (B.1 4 0)), (1, .long x1)] dX10_digest_32 (by decide) rfl ?_
    refine k_sub [1, 2, 0] rfl ?_
    exact k_X10_digest_l33 C E FU T x1 (0 : Int32) h
  · refine k_ldc2_w (pc := 12) (v := (31 : Int64)) C dX10_digest_12 tw4_50 ?_
    refine k_lload_n (pc := 15) C dX10_digest_15 1 rfl ?_
    refine k_lmul (pc := 16) C dX10_digest_16 ?_
    refine k_aload_n (pc := 17) C dX10_digest_17 0 rfl ?_
    refine k_iload_n (pc := 18) C dX10_digest_18 2 rfl ?_
    obtain ⟨z1, e1, h⟩ := bnd h
    refine k_callvI (pc := 19) C lk_X10_257 (by decide) ix_X10 wo_X10 rfl rfl (kc_X10_count e1) dX10_digest_19 rfl rfl (Nat.le_of_ble_eq_true rfl) ?_
    refine k_i2l (pc := 22) C dX10_digest_22 ?_
    refine k_ladd (pc := 23) C dX10_digest_23 ?_
    refine k_nL h (fun y2 h => ?_)
    refine k_lstore_n (pc := 24) C [(1, .long y2), (0, .ref (B.1 4 0)), (3, .int x3)] dX10_digest_24 (by decide) rfl ?_
    refine k_iincN (pc := 25) (x := x3) (c := (1 : Int32)) C (fun y3 => [(3, .int y3), (1, .long y2), (0, .ref (B.1 4 0))]) dX10_digest_25 2 rfl ciconst_1 (by decide) (fun _ => rfl) h (fun y3 h => ?_)
    refine k_goto (pc := 28) C 6 dX10_digest_28 (by decide) ?_
    refine k_sub [2, 1, 0] rfl ?_
    exact hrec6 z1.2 y2 y3 h
set_option maxHeartbeats 4000000 in
set_option maxRecDepth 100000 in
theorem k_X10_digest_l6 {B : KB} {X : KE} {res : Int64 × TT} (C : Cx B X "GriefEngine" cX10_digest 4 3) (E : Cr B X (some .long) (some (.long res.1)) res.2) : ∀ (n : Nat) (T : TT) (x1 : Int64) (x3 : Int32) (h : m_X10_digest_l6 n T x1 x3 = some res), Wk B X 4 T 6 [(0, .ref (B.1 4 0)), (1, .long x1), (3, .int x3)] [] := by
  intro n
  induction n with
  | zero =>
    intro T x1 x3 h
    exact no_some h
  | succ n ih =>
    intro T x1 x3 h
    exact k_X10_digest_h6 C E (fun T x1 x3 h => ih T x1 x3 h) T x1 x3 h
set_option maxHeartbeats 4000000 in
set_option maxRecDepth 100000 in
theorem kc_X10_digest {B : KB} {l : Launch} {T : TT} {res : Int64 × TT} (h : m_X10_digest T = some res) : Kt B l 3 yX10_digest cX10_digest 4 (some .long) T [.ref (B.1 4 0)] (some (.long res.1)) res.2 := by
  refine Kt.of (by decide) (Nat.le_of_ble_eq_true rfl) (fun X hX C E => ?_)
  subst hX
  have C : Cx B X "GriefEngine" cX10_digest 4 3 := C
  show Wk B X 4 T 0 [(0, .ref (B.1 4 0))] []
  unfold m_X10_digest at h
  refine k_ldc2_w (pc := 0) (v := (1433 : Int64)) C dX10_digest_0 tw4_49 ?_
  refine k_lstore_n (pc := 3) C [(1, .long (1433 : Int64)), (0, .ref (B.1 4 0))] dX10_digest_3 (by decide) rfl ?_
  refine k_iconst (pc := 4) (v := (0 : Int32)) C dX10_digest_4 ciconst_0 ?_
  refine k_istore_n (pc := 5) C [(3, .int (0 : Int32)), (1, .long (1433 : Int64)), (0, .ref (B.1 4 0))] dX10_digest_5 (by decide) rfl ?_
  refine k_sub [2, 1, 0] rfl ?_
  exact k_X10_digest_l6 C E FU T (1433 : Int64) (0 : Int32) h
def m_X11_in (x0 : Int64) (x2 : Int64) (x4 : Int64) : Option (Int32) := if (lg_cmp x0 x2) < 0 then (some (0 : Int32)) else (if 0 < (lg_cmp x0 x4) then (some (0 : Int32)) else (some (1 : Int32)))
set_option maxHeartbeats 4000000 in
set_option maxRecDepth 100000 in
theorem kc_X11_in {B : KB} {l : Launch} {T : TT} {x0 : Int64} {x2 : Int64} {x4 : Int64} {res : Int32} (h : m_X11_in x0 x2 x4 = some res) : Kt B l 1 yX11_in cX11_in 6 (some .boolean) T [.long x0, .long x2, .long x4] (some (.int res)) T := by
  refine Kt.of (by decide) (Nat.le_of_ble_eq_true rfl) (fun X hX C E => ?_)
  subst hX
  have C : Cx B X "GriefEngineModel" cX11_in 6 1 := C
  show Wk B X 6 T 0 [(0, .long x0), (2, .long x2), (4, .long x4)] []
  unfold m_X11_in at h
  refine k_lload_n (pc := 0) C dX11_in_0 0 rfl ?_
  refine k_lload_n (pc := 1) C dX11_in_1 1 rfl ?_
  refine k_lcmp (pc := 2) C dX11_in_2 ?_
  refine k_if_lt (pc := 3) C 17 dX11_in_3 (by decide) h (fun c2 h => ?_) (fun c2 h => ?_)
  · refine k_iconst (pc := 17) (v := (0 : Int32)) C dX11_in_17 ciconst_0 ?_
    exact k_zret (pc := 18) C E rfl (some_i h) rfl dX11_in_18
  · refine k_lload_n (pc := 6) C dX11_in_6 0 rfl ?_
    refine k_lload (pc := 7) C dX11_in_7 2 rfl ?_
    refine k_lcmp (pc := 9) C dX11_in_9 ?_
    refine k_if_gt (pc := 10) C 17 dX11_in_10 (by decide) h (fun c1 h => ?_) (fun c1 h => ?_)
    · refine k_iconst (pc := 17) (v := (0 : Int32)) C dX11_in_17 ciconst_0 ?_
      exact k_zret (pc := 18) C E rfl (some_i h) rfl dX11_in_18
    · refine k_iconst (pc := 13) (v := (1 : Int32)) C dX11_in_13 ciconst_1 ?_
      refine k_goto (pc := 14) C 18 dX11_in_14 (by decide) ?_
      exact k_zret (pc := 18) C E rfl (some_i h) rfl dX11_in_18
def m_X11_bad (T : TT) (x1 : Int32) : Option (Int32 × TT) := bT (sA T 10 4 0 ((T.1 10 4 0) + (1 : Int32))) (fun T1 => some (x1, T1))
set_option maxHeartbeats 4000000 in
set_option maxRecDepth 100000 in
theorem kc_X11_bad {B : KB} {l : Launch} {T : TT} {x1 : Int32} {res : Int32 × TT} (h : m_X11_bad T x1 = some res) : Kt B l 1 yX11_bad cX11_bad 2 (some .int) T [.ref (B.1 10 0), .int x1] (some (.int res.1)) res.2 := by
  refine Kt.of (by decide) (Nat.le_of_ble_eq_true rfl) (fun X hX C E => ?_)
  subst hX
  have C : Cx B X "GriefEngineModel" cX11_bad 2 1 := C
  show Wk B X 2 T 0 [(0, .ref (B.1 10 0)), (1, .int x1)] []
  unfold m_X11_bad at h
  refine k_aload_n (pc := 0) C dX11_bad_0 0 rfl ?_
  refine gf_X11_20 (pc := 1) C dX11_bad_1 ?_
  refine k_iconst (pc := 4) (v := (0 : Int32)) C dX11_bad_4 ciconst_0 ?_
  refine k_dup2 (pc := 5) C dX11_bad_5 rfl rfl ?_
  refine k_ialdc (pc := 6) C ia_10_4 0 dX11_bad_6 (by decide) (by decide) ?_
  refine k_iconst (pc := 7) (v := (1 : Int32)) C dX11_bad_7 ciconst_1 ?_
  refine k_iadd (pc := 8) C dX11_bad_8 ?_
  refine k_iastc (pc := 9) C ia_10_4 0 dX11_bad_9 (by decide) (by decide) ?_
  refine k_nT h (fun T1 h => ?_)
  refine k_iload_n (pc := 10) C dX11_bad_10 1 rfl ?_
  exact k_iret (pc := 11) C E (some_1 h) (some_2 h) dX11_bad_11
def m_X11_no (T : TT) : Option (Int32 × TT) := bT (sA T 10 4 1 ((T.1 10 4 1) + (1 : Int32))) (fun T1 => some ((-3 : Int32), T1))
set_option maxHeartbeats 4000000 in
set_option maxRecDepth 100000 in
theorem kc_X11_no {B : KB} {l : Launch} {T : TT} {res : Int32 × TT} (h : m_X11_no T = some res) : Kt B l 1 yX11_no cX11_no 1 (some .int) T [.ref (B.1 10 0)] (some (.int res.1)) res.2 := by
  refine Kt.of (by decide) (Nat.le_of_ble_eq_true rfl) (fun X hX C E => ?_)
  subst hX
  have C : Cx B X "GriefEngineModel" cX11_no 1 1 := C
  show Wk B X 1 T 0 [(0, .ref (B.1 10 0))] []
  unfold m_X11_no at h
  refine k_aload_n (pc := 0) C dX11_no_0 0 rfl ?_
  refine gf_X11_20 (pc := 1) C dX11_no_1 ?_
  refine k_iconst (pc := 4) (v := (1 : Int32)) C dX11_no_4 ciconst_1 ?_
  refine k_dup2 (pc := 5) C dX11_no_5 rfl rfl ?_
  refine k_ialdc (pc := 6) C ia_10_4 1 dX11_no_6 (by decide) (by decide) ?_
  refine k_iconst (pc := 7) (v := (1 : Int32)) C dX11_no_7 ciconst_1 ?_
  refine k_iadd (pc := 8) C dX11_no_8 ?_
  refine k_iastc (pc := 9) C ia_10_4 1 dX11_no_9 (by decide) (by decide) ?_
  refine k_nT h (fun T1 h => ?_)
  refine k_bipush (pc := 10) (v := (-3 : Int32)) C dX11_no_10 cbipush_m3 ?_
  exact k_iret (pc := 12) C E (some_1 h) (some_2 h) dX11_no_12
def m_X11_full (T : TT) : Option (Int32 × TT) := bT (sA T 10 4 2 ((T.1 10 4 2) + (1 : Int32))) (fun T1 => some ((-4 : Int32), T1))
set_option maxHeartbeats 4000000 in
set_option maxRecDepth 100000 in
theorem kc_X11_full {B : KB} {l : Launch} {T : TT} {res : Int32 × TT} (h : m_X11_full T = some res) : Kt B l 1 yX11_full cX11_full 1 (some .int) T [.ref (B.1 10 0)] (some (.int res.1)) res.2 := by
  refine Kt.of (by decide) (Nat.le_of_ble_eq_true rfl) (fun X hX C E => ?_)
  subst hX
  have C : Cx B X "GriefEngineModel" cX11_full 1 1 := C
  show Wk B X 1 T 0 [(0, .ref (B.1 10 0))] []
  unfold m_X11_full at h
  refine k_aload_n (pc := 0) C dX11_full_0 0 rfl ?_
  refine gf_X11_20 (pc := 1) C dX11_full_1 ?_
  refine k_iconst (pc := 4) (v := (2 : Int32)) C dX11_full_4 ciconst_2 ?_
  refine k_dup2 (pc := 5) C dX11_full_5 rfl rfl ?_
  refine k_ialdc (pc := 6) C ia_10_4 2 dX11_full_6 (by decide) (by decide) ?_
  refine k_iconst (pc := 7) (v := (1 : Int32)) C dX11_full_7 ciconst_1 ?_
  refine k_iadd (pc := 8) C dX11_full_8 ?_
  refine k_iastc (pc := 9) C ia_10_4 2 dX11_full_9 (by decide) (by decide) ?_
  refine k_nT h (fun T1 h => ?_)
  refine k_bipush (pc := 10) (v := (-4 : Int32)) C dX11_full_10 cbipush_m4 ?_
  exact k_iret (pc := 12) C E (some_1 h) (some_2 h) dX11_full_12
def m_X11_has (x0 : Int32) (x1 : Int32) : Option (Int32) := if ((x0 >>> (x1 &&& 31)) &&& (1 : Int32)) = (1 : Int32) then (some (1 : Int32)) else (some (0 : Int32))
set_option maxHeartbeats 4000000 in
set_option maxRecDepth 100000 in
theorem kc_X11_has {B : KB} {l : Launch} {T : TT} {x0 : Int32} {x1 : Int32} {res : Int32} (h : m_X11_has x0 x1 = some res) : Kt B l 1 yX11_has cX11_has 2 (some .boolean) T [.int x0, .int x1] (some (.int res)) T := by
  refine Kt.of (by decide) (Nat.le_of_ble_eq_true rfl) (fun X hX C E => ?_)
  subst hX
  have C : Cx B X "GriefEngineModel" cX11_has 2 1 := C
  show Wk B X 2 T 0 [(0, .int x0), (1, .int x1)] []
  unfold m_X11_has at h
  refine k_iload_n (pc := 0) C dX11_has_0 0 rfl ?_
  refine k_iload_n (pc := 1) C dX11_has_1 1 rfl ?_
  refine k_ishr (pc := 2) C dX11_has_2 ?_
  refine k_iconst (pc := 3) (v := (1 : Int32)) C dX11_has_3 ciconst_1 ?_
  refine k_iand (pc := 4) C dX11_has_4 ?_
  refine k_iconst (pc := 5) (v := (1 : Int32)) C dX11_has_5 ciconst_1 ?_
  refine k_icmp_ne (pc := 6) C 13 dX11_has_6 (by decide) h (fun c1 h => ?_) (fun c1 h => ?_)
  · refine k_iconst (pc := 13) (v := (0 : Int32)) C dX11_has_13 ciconst_0 ?_
    exact k_zret (pc := 14) C E rfl (some_i h) rfl dX11_has_14
  · refine k_iconst (pc := 9) (v := (1 : Int32)) C dX11_has_9 ciconst_1 ?_
    refine k_goto (pc := 10) C 14 dX11_has_10 (by decide) ?_
    exact k_zret (pc := 14) C E rfl (some_i h) rfl dX11_has_14
def m_X11_begin_h2 (ag af an : Nat) (rec2 : TT → Int32 → Option (TT)) (T : TT) (x1 : Int32) : Option (TT) := if (71 : Int32) ≤ x1 then (some T) else (if inb x1 an then bT (sA T ag af (Int32.toNatClampNeg x1) (0 : Int32)) (fun T1 => bT (x1 + (1 : Int32)) (fun y2 => rec2 T1 y2)) else none)
def m_X11_begin_l2 (ag af an : Nat) : Nat → TT → Int32 → Option (TT)
  | 0 => fun _ _ => none
  | n + 1 => fun T x1 => m_X11_begin_h2 ag af an (m_X11_begin_l2 ag af an n) T x1
def m_X11_begin (T : TT) (ag af an : Nat) : Option (TT) := m_X11_begin_l2 ag af an FU T (0 : Int32)
set_option maxHeartbeats 4000000 in
set_option maxRecDepth 100000 in
theorem k_X11_begin_h2 {B : KB} {X : KE} {ag af an : Nat} {rec2 : TT → Int32 → Option (TT)} {res : TT} (C : Cx B X "GriefEngineModel" cX11_begin 2 1) (E : Cr B X none none res) (hI : isI B ag af an) (hrec2 : ∀ (T : TT) (x1 : Int32), rec2 T x1 = some res → Wk B X 2 T 2 [(0, .ref (B.1 ag af)), (1, .int x1)] []) (T : TT) (x1 : Int32) (h : m_X11_begin_h2 ag af an rec2 T x1 = some res) : Wk B X 2 T 2 [(0, .ref (B.1 ag af)), (1, .int x1)] [] := by
  unfold m_X11_begin_h2 at h
  refine k_iload_n (pc := 2) C dX11_begin_2 1 rfl ?_
  refine k_bipush (pc := 3) (v := (71 : Int32)) C dX11_begin_3 cbipush_71 ?_
  refine k_icmp_ge (pc := 5) C 18 dX11_begin_5 (by decide) h (fun c3 h => ?_) (fun c3 h => ?_)
  · exact k_vret (pc := 18) C E (some_i h) dX11_begin_18
  · refine k_aload_n (pc := 8) C dX11_begin_8 0 rfl ?_
    refine k_iload_n (pc := 9) C dX11_begin_9 1 rfl ?_
    refine k_iconst (pc := 10) (v := (0 : Int32)) C dX11_begin_10 ciconst_0 ?_
    refine k_iast (pc := 11) C hI dX11_begin_11 h (fun h => ?_)
    refine k_nT h (fun T1 h => ?_)
    refine k_iincN (pc := 12) (x := x1) (c := (1 : Int32)) C (fun y2 => [(1, .int y2), (0, .ref (B.1 ag af))]) dX11_begin_12 1 rfl ciconst_1 (by decide) (fun _ => rfl) h (fun y2 h => ?_)
    refine k_goto (pc := 15) C 2 dX11_begin_15 (by decide) ?_
    refine k_sub [1, 0] rfl ?_
    exact hrec2 T1 y2 h
set_option maxHeartbeats 4000000 in
set_option maxRecDepth 100000 in
theorem k_X11_begin_l2 {B : KB} {X : KE} {ag af an : Nat} {res : TT} (C : Cx B X "GriefEngineModel" cX11_begin 2 1) (E : Cr B X none none res) (hI : isI B ag af an) : ∀ (n : Nat) (T : TT) (x1 : Int32) (h : m_X11_begin_l2 ag af an n T x1 = some res), Wk B X 2 T 2 [(0, .ref (B.1 ag af)), (1, .int x1)] [] := by
  intro n
  induction n with
  | zero =>
    intro T x1 h
    exact no_some h
  | succ n ih =>
    intro T x1 h
    exact k_X11_begin_h2 C E hI (fun T x1 h => ih T x1 h) T x1 h
set_option maxHeartbeats 4000000 in
set_option maxRecDepth 100000 in
theorem kc_X11_begin {B : KB} {l : Launch} {T : TT} {ag af an : Nat} {res : TT} (hI : isI B ag af an) (h : m_X11_begin T ag af an = some res) : Kt B l 1 yX11_begin cX11_begin 2 none T [.ref (B.1 ag af)] none res := by
  refine Kt.of (by decide) (Nat.le_of_ble_eq_true rfl) (fun X hX C E => ?_)
  subst hX
  have C : Cx B X "GriefEngineModel" cX11_begin 2 1 := C
  show Wk B X 2 T 0 [(0, .ref (B.1 ag af))] []
  unfold m_X11_begin at h
  refine k_iconst (pc := 0) (v := (0 : Int32)) C dX11_begin_0 ciconst_0 ?_
  refine k_istore_n (pc := 1) C [(1, .int (0 : Int32)), (0, .ref (B.1 ag af))] dX11_begin_1 (by decide) rfl ?_
  refine k_sub [1, 0] rfl ?_
  exact k_X11_begin_l2 C E hI FU T (0 : Int32) h
def m_X11_many (T : TT) : Option (Int32) := some (T.1 10 1 0)
set_option maxHeartbeats 4000000 in
set_option maxRecDepth 100000 in
theorem kc_X11_many {B : KB} {l : Launch} {T : TT} {res : Int32} (h : m_X11_many T = some res) : Kt B l 1 yX11_many cX11_many 1 (some .int) T [.ref (B.1 10 0)] (some (.int res)) T := by
  refine Kt.of (by decide) (Nat.le_of_ble_eq_true rfl) (fun X hX C E => ?_)
  subst hX
  have C : Cx B X "GriefEngineModel" cX11_many 1 1 := C
  show Wk B X 1 T 0 [(0, .ref (B.1 10 0))] []
  unfold m_X11_many at h
  refine k_aload_n (pc := 0) C dX11_many_0 0 rfl ?_
  refine gf_X11_7 (pc := 1) C dX11_many_1 ?_
  refine k_iconst (pc := 4) (v := (0 : Int32)) C dX11_many_4 ciconst_0 ?_
  refine k_ialdc (pc := 5) C ia_10_1 0 dX11_many_5 (by decide) (by decide) ?_
  exact k_iret (pc := 6) C E (some_i h) rfl dX11_many_6
def m_X11_isDriver (T : TT) (x1 : Int32) : Option (Int32) := (m_X11_many T).bind (fun z1 => (m_X11_in (x1.toInt64) (0 : Int64) ((z1 - (1 : Int32)).toInt64)).bind (fun z2 => if z2 = 0 ∨ z2 = 1 then some z2 else none))
set_option maxHeartbeats 4000000 in
set_option maxRecDepth 100000 in
theorem kc_X11_isDriver {B : KB} {l : Launch} {T : TT} {x1 : Int32} {res : Int32} (h : m_X11_isDriver T x1 = some res) : Kt B l 2 yX11_isDriver cX11_isDriver 2 (some .boolean) T [.ref (B.1 10 0), .int x1] (some (.int res)) T := by
  refine Kt.of (by decide) (Nat.le_of_ble_eq_true rfl) (fun X hX C E => ?_)
  subst hX
  have C : Cx B X "GriefEngineModel" cX11_isDriver 2 2 := C
  show Wk B X 2 T 0 [(0, .ref (B.1 10 0)), (1, .int x1)] []
  unfold m_X11_isDriver at h
  refine k_iload_n (pc := 0) C dX11_isDriver_0 1 rfl ?_
  refine k_i2l (pc := 1) C dX11_isDriver_1 ?_
  refine k_lconst (pc := 2) (v := (0 : Int64)) C dX11_isDriver_2 (by decide) ?_
  refine k_aload_n (pc := 3) C dX11_isDriver_3 0 rfl ?_
  obtain ⟨z1, e1, h⟩ := bnd h
  refine k_callvI (pc := 4) C lk_X11_49 (by decide) ix_X11 wo_X11 rfl rfl (kc_X11_many e1) dX11_isDriver_4 rfl rfl (Nat.le_of_ble_eq_true rfl) ?_
  refine k_iconst (pc := 7) (v := (1 : Int32)) C dX11_isDriver_7 ciconst_1 ?_
  refine k_isub (pc := 8) C dX11_isDriver_8 ?_
  refine k_i2l (pc := 9) C dX11_isDriver_9 ?_
  obtain ⟨z2, e2, h⟩ := bnd h
  refine k_callsI (pc := 10) C lk_X11_53 (by decide) (kc_X11_in e2) dX11_isDriver_10 rfl rfl (Nat.le_of_ble_eq_true rfl) ?_
  by_cases cz : z2 = 0 ∨ z2 = 1
  · rw [if_pos cz] at h
    exact k_zret (pc := 13) C E (bool01 cz) (some_i h) rfl dX11_isDriver_13
  · rw [if_neg cz] at h
    exact no_some h
def m_X11_isChoice (x0 : Int32) : Option (Int32) := (m_X11_in (x0.toInt64) (0 : Int64) (2 : Int64)).bind (fun z1 => if z1 = 0 ∨ z1 = 1 then some z1 else none)
set_option maxHeartbeats 4000000 in
set_option maxRecDepth 100000 in
theorem kc_X11_isChoice {B : KB} {l : Launch} {T : TT} {x0 : Int32} {res : Int32} (h : m_X11_isChoice x0 = some res) : Kt B l 2 yX11_isChoice cX11_isChoice 1 (some .boolean) T [.int x0] (some (.int res)) T := by
  refine Kt.of (by decide) (Nat.le_of_ble_eq_true rfl) (fun X hX C E => ?_)
  subst hX
  have C : Cx B X "GriefEngineModel" cX11_isChoice 1 2 := C
  show Wk B X 1 T 0 [(0, .int x0)] []
  unfold m_X11_isChoice at h
  refine k_iload_n (pc := 0) C dX11_isChoice_0 0 rfl ?_
  refine k_i2l (pc := 1) C dX11_isChoice_1 ?_
  refine k_lconst (pc := 2) (v := (0 : Int64)) C dX11_isChoice_2 (by decide) ?_
  refine k_ldc2_w (pc := 3) (v := (2 : Int64)) C dX11_isChoice_3 tw4_157 ?_
  obtain ⟨z1, e1, h⟩ := bnd h
  refine k_callsI (pc := 6) C lk_X11_53 (by decide) (kc_X11_in e1) dX11_isChoice_6 rfl rfl (Nat.le_of_ble_eq_true rfl) ?_
  by_cases cz : z1 = 0 ∨ z1 = 1
  · rw [if_pos cz] at h
    exact k_zret (pc := 9) C E (bool01 cz) (some_i h) rfl dX11_isChoice_9
  · rw [if_neg cz] at h
    exact no_some h
