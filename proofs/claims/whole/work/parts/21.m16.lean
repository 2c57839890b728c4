def m_X11_read_h106 (rec106 : TT → Int32 → Int32 → Option (Int32 × TT)) (T : TT) (x1 : Int32) (x2 : Int32) : Option (Int32 × TT) := if (71 : Int32) ≤ x2 then (some (x1, T)) else (if inb x2 71 then (if inb x2 175 then bT (sA T 10 1 (Int32.toNatClampNeg x2) (T.1 10 9 (Int32.toNatClampNeg x2))) (fun T14 => bT (x2 + (1 : Int32)) (fun y15 => rec106 T14 x1 y15)) else none) else none)
def m_X11_read_l106 : Nat → TT → Int32 → Int32 → Option (Int32 × TT)
  | 0 => fun _ _ _ => none
  | n + 1 => fun T x1 x2 => m_X11_read_h106 (m_X11_read_l106 n) T x1 x2
def m_X11_read_h64 (rec64 : TT → Int32 → Option (Int32 × TT)) (T : TT) (x1 : Int32) : Option (Int32 × TT) := if (T.2.1 10 16) = 0 then (m_X11_read_l106 FU T x1 (0 : Int32)) else ((m_X11_takesItem T).bind (fun z8 => if z8.1 = 0 then (some (((-10 : Int32) - (z8.2.2.1 10 14)), z8.2)) else (if (z8.2.2.1 10 16) = (3 : Int32) then ((m_X11_goBehind z8.2).bind (fun z9 => bT (x1 + (1 : Int32)) (fun y10 => rec64 z9 y10))) else (some (((-10 : Int32) - (z8.2.2.1 10 14)), z8.2)))))
def m_X11_read_l64 : Nat → TT → Int32 → Option (Int32 × TT)
  | 0 => fun _ _ => none
  | n + 1 => fun T x1 => m_X11_read_h64 (m_X11_read_l64 n) T x1
def m_X11_read (T : TT) : Option (Int32 × TT) := (m_X11_lookAt T (0 : Int32)).bind (fun z1 => (m_X11_spells z1 (4 : Int32) (114 : Int32) (97 : Int32) (110 : Int32) (107 : Int32) (0 : Int32) (0 : Int32)).bind (fun z2 => if z2 = 0 then (some (((-10 : Int32) - (z1.2.1 10 14)), z1)) else ((m_X11_goBehind z1).bind (fun z3 => if (z3.2.1 10 16) = (3 : Int32) then ((m_X11_goBehind z3).bind (fun z4 => (m_X11_begin z4 10 9 71).bind (fun z5 => m_X11_read_l64 FU z5 (1 : Int32)))) else (some (((-10 : Int32) - (z3.2.1 10 14)), z3))))))
set_option maxHeartbeats 4000000 in
set_option maxRecDepth 100000 in
theorem k_X11_read_h106 {B : KB} {X : KE} {rec106 : TT → Int32 → Int32 → Option (Int32 × TT)} {res : Int32 × TT} (C : Cx B X "GriefEngineModel" cX11_read 3 8) (E : Cr B X (some .int) (some (.int res.1)) res.2) (hrec106 : ∀ (T : TT) (x1 : Int32) (x2 : Int32), rec106 T x1 x2 = some res → Wk B X 3 T 106 [(0, .ref (B.1 10 0)), (1, .int x1), (2, .int x2)] []) (T : TT) (x1 : Int32) (x2 : Int32) (h : m_X11_read_h106 rec106 T x1 x2 = some res) : Wk B X 3 T 106 [(0, .ref (B.1 10 0)), (1, .int x1), (2, .int x2)] [] := by
  unfold m_X11_read_h106 at h
  refine k_iload_n (pc := 106) C dX11_read_106 2 rfl ?_
  refine k_bipush (pc := 107) (v := (71 : Int32)) C dX11_read_107 cbipush_71 ?_
  refine k_icmp_ge (pc := 109) C 130 dX11_read_109 (by decide) h (fun c16 h => ?_) (fun c16 h => ?_)
  · refine k_iload_n (pc := 130) C dX11_read_130 1 rfl ?_
    exact k_iret (pc := 131) C E (some_1 h) (some_2 h) dX11_read_131
  · refine k_aload_n (pc := 112) C dX11_read_112 0 rfl ?_
    refine gf_X11_7 (pc := 113) C dX11_read_113 ?_
    refine k_iload_n (pc := 116) C dX11_read_116 2 rfl ?_
    refine k_aload_n (pc := 117) C dX11_read_117 0 rfl ?_
    refine gf_X11_39 (pc := 118) C dX11_read_118 ?_
    refine k_iload_n (pc := 121) C dX11_read_121 2 rfl ?_
    refine k_iald (pc := 122) C ia_10_9 dX11_read_122 h (fun h => ?_)
    refine k_iast (pc := 123) C ia_10_1 dX11_read_123 h (fun h => ?_)
    refine k_nT h (fun T14 h => ?_)
    refine k_iincN (pc := 124) (x := x2) (c := (1 : Int32)) C (fun y15 => [(2, .int y15), (0, .ref (B.1 10 0)), (1, .int x1)]) dX11_read_124 2 rfl ciconst_1 (by decide) (fun _ => rfl) h (fun y15 h => ?_)
    refine k_goto (pc := 127) C 106 dX11_read_127 (by decide) ?_
    refine k_sub [1, 2, 0] rfl ?_
    exact hrec106 T14 x1 y15 h
set_option maxHeartbeats 4000000 in
set_option maxRecDepth 100000 in
theorem k_X11_read_l106 {B : KB} {X : KE} {res : Int32 × TT} (C : Cx B X "GriefEngineModel" cX11_read 3 8) (E : Cr B X (some .int) (some (.int res.1)) res.2) : ∀ (n : Nat) (T : TT) (x1 : Int32) (x2 : Int32) (h : m_X11_read_l106 n T x1 x2 = some res), Wk B X 3 T 106 [(0, .ref (B.1 10 0)), (1, .int x1), (2, .int x2)] [] := by
  intro n
  induction n with
  | zero =>
    intro T x1 x2 h
    exact no_some h
  | succ n ih =>
    intro T x1 x2 h
    exact k_X11_read_h106 C E (fun T x1 x2 h => ih T x1 x2 h) T x1 x2 h
set_option maxHeartbeats 4000000 in
set_option maxRecDepth 100000 in
theorem k_X11_read_h64 {B : KB} {X : KE} {rec64 : TT → Int32 → Option (Int32 × TT)} {res : Int32 × TT} (C : Cx B X "GriefEngineModel" cX11_read 3 8) (E : Cr B X (some .int) (some (.int res.1)) res.2) (hrec64 : ∀ (T : TT) (x1 : Int32), rec64 T x1 = some res → Wk B X 3 T 64 [(0, .ref (B.1 10 0)), (1, .int x1)] []) (T : TT) (x1 : Int32) (h : m_X11_read_h64 rec64 T x1 = some res) : Wk B X 3 T 64 [(0, .ref (B.1 10 0)), (1, .int x1)] [] := by
  unfold m_X11_read_h64 at h
  refine k_aload_n (pc := 64) C dX11_read_64 0 rfl ?_
  refine gf_X11_223 (pc := 65) C dX11_read_65 ?_
  refine k_if_eq (pc := 68) C 104 dX11_read_68 (by decide) h (fun c13 h => ?_) (fun c13 h => ?_)
  · refine k_iconst (pc := 104) (v := (0 : Int32)) C dX11_read_104 ciconst_0 ?_
    refine k_istore_n (pc := 105) C [(2, .int (0 : Int32)), (0, .ref (B.1 10 0)), (1, .int x1)] dX11_read_105 (by decide) rfl ?_
    refine k_sub [1, 2, 0] rfl ?_
    exact k_X11_read_l106 C E FU T x1 (0 : Int32) h
  · refine k_aload_n (pc := 71) C dX11_read_71 0 rfl ?_
    obtain ⟨z8, e8, h⟩ := bnd h
    refine k_callvI (pc := 72) C lk_X11_256 (by decide) ix_X11 wo_X11 rfl rfl (kc_X11_takesItem e8) dX11_read_72 rfl rfl (Nat.le_of_ble_eq_true rfl) ?_
    refine k_if_eq (pc := 75) C 86 dX11_read_75 (by decide) h (fun c12 h => ?_) (fun c12 h => ?_)
    · refine k_bipush (pc := 86) (v := (-10 : Int32)) C dX11_read_86 cbipush_m10 ?_
      refine k_aload_n (pc := 88) C dX11_read_88 0 rfl ?_
      refine gf_X11_217 (pc := 89) C dX11_read_89 ?_
      refine k_isub (pc := 92) C dX11_read_92 ?_
      exact k_iret (pc := 93) C E (some_1 h) (some_2 h) dX11_read_93
    · refine k_aload_n (pc := 78) C dX11_read_78 0 rfl ?_
      refine gf_X11_223 (pc := 79) C dX11_read_79 ?_
      refine k_iconst (pc := 82) (v := (3 : Int32)) C dX11_read_82 ciconst_3 ?_
      refine k_icmp_eq (pc := 83) C 94 dX11_read_83 (by decide) h (fun c11 h => ?_) (fun c11 h => ?_)
      · refine k_aload_n (pc := 94) C dX11_read_94 0 rfl ?_
        obtain ⟨z9, e9, h⟩ := bnd h
        refine k_callvV (pc := 95) C lk_X11_238 (by decide) ix_X11 wo_X11 rfl rfl (kc_X11_goBehind e9) dX11_read_95 rfl rfl (Nat.le_of_ble_eq_true rfl) ?_
        refine k_iincN (pc := 98) (x := x1) (c := (1 : Int32)) C (fun y10 => [(1, .int y10), (0, .ref (B.1 10 0))]) dX11_read_98 1 rfl ciconst_1 (by decide) (fun _ => rfl) h (fun y10 h => ?_)
        refine k_goto (pc := 101) C 64 dX11_read_101 (by decide) ?_
        refine k_sub [1, 0] rfl ?_
        exact hrec64 z9 y10 h
      · refine k_bipush (pc := 86) (v := (-10 : Int32)) C dX11_read_86 cbipush_m10 ?_
        refine k_aload_n (pc := 88) C dX11_read_88 0 rfl ?_
        refine gf_X11_217 (pc := 89) C dX11_read_89 ?_
        refine k_isub (pc := 92) C dX11_read_92 ?_
        exact k_iret (pc := 93) C E (some_1 h) (some_2 h) dX11_read_93
set_option maxHeartbeats 4000000 in
set_option maxRecDepth 100000 in
theorem k_X11_read_l64 {B : KB} {X : KE} {res : Int32 × TT} (C : Cx B X "GriefEngineModel" cX11_read 3 8) (E : Cr B X (some .int) (some (.int res.1)) res.2) : ∀ (n : Nat) (T : TT) (x1 : Int32) (h : m_X11_read_l64 n T x1 = some res), Wk B X 3 T 64 [(0, .ref (B.1 10 0)), (1, .int x1)] [] := by
  intro n
  induction n with
  | zero =>
    intro T x1 h
    exact no_some h
  | succ n ih =>
    intro T x1 h
    exact k_X11_read_h64 C E (fun T x1 h => ih T x1 h) T x1 h
set_option maxHeartbeats 4000000 in
set_option maxRecDepth 100000 in
theorem kc_X11_read {B : KB} {l : Launch} {T : TT} {res : Int32 × TT} (h : m_X11_read T = some res) : Kt B l 8 yX11_read cX11_read 3 (some .int) T [.ref (B.1 10 0)] (some (.int res.1)) res.2 := by
  refine Kt.of (by decide) (Nat.le_of_ble_eq_true rfl) (fun X hX C E => ?_)
  subst hX
  have C : Cx B X "GriefEngineModel" cX11_read 3 8 := C
  show Wk B X 3 T 0 [(0, .ref (B.1 10 0))] []
  unfold m_X11_read at h
  refine k_aload_n (pc := 0) C dX11_read_0 0 rfl ?_
  refine k_iconst (pc := 1) (v := (0 : Int32)) C dX11_read_1 ciconst_0 ?_
  obtain ⟨z1, e1, h⟩ := bnd h
  refine k_callvV (pc := 2) C lk_X11_235 (by decide) ix_X11 wo_X11 rfl rfl (kc_X11_lookAt e1) dX11_read_2 rfl rfl (Nat.le_of_ble_eq_true rfl) ?_
  refine k_aload_n (pc := 5) C dX11_read_5 0 rfl ?_
  refine k_iconst (pc := 6) (v := (4 : Int32)) C dX11_read_6 ciconst_4 ?_
  refine k_bipush (pc := 7) (v := (114 : Int32)) C dX11_read_7 cbipush_114 ?_
  refine k_bipush (pc := 9) (v := (97 : Int32)) C dX11_read_9 cbipush_97 ?_
  refine k_bipush (pc := 11) (v := (110 : Int32)) C dX11_read_11 cbipush_110 ?_
  refine k_bipush (pc := 13) (v := (107 : Int32)) C dX11_read_13 cbipush_107 ?_
  refine k_iconst (pc := 15) (v := (0 : Int32)) C dX11_read_15 ciconst_0 ?_
  refine k_iconst (pc := 16) (v := (0 : Int32)) C dX11_read_16 ciconst_0 ?_
  obtain ⟨z2, e2, h⟩ := bnd h
  refine k_callvI (pc := 17) C lk_X11_245 (by decide) ix_X11 wo_X11 rfl rfl (kc_X11_spells e2) dX11_read_17 rfl rfl (Nat.le_of_ble_eq_true rfl) ?_
  refine k_if_ne (pc := 20) C 31 dX11_read_20 (by decide) h (fun c7 h => ?_) (fun c7 h => ?_)
  · refine k_aload_n (pc := 31) C dX11_read_31 0 rfl ?_
    obtain ⟨z3, e3, h⟩ := bnd h
    refine k_callvV (pc := 32) C lk_X11_238 (by decide) ix_X11 wo_X11 rfl rfl (kc_X11_goBehind e3) dX11_read_32 rfl rfl (Nat.le_of_ble_eq_true rfl) ?_
    refine k_aload_n (pc := 35) C dX11_read_35 0 rfl ?_
    refine gf_X11_223 (pc := 36) C dX11_read_36 ?_
    refine k_iconst (pc := 39) (v := (3 : Int32)) C dX11_read_39 ciconst_3 ?_
    refine k_icmp_eq (pc := 40) C 51 dX11_read_40 (by decide) h (fun c6 h => ?_) (fun c6 h => ?_)
    · refine k_aload_n (pc := 51) C dX11_read_51 0 rfl ?_
      obtain ⟨z4, e4, h⟩ := bnd h
      refine k_callvV (pc := 52) C lk_X11_238 (by decide) ix_X11 wo_X11 rfl rfl (kc_X11_goBehind e4) dX11_read_52 rfl rfl (Nat.le_of_ble_eq_true rfl) ?_
      refine k_aload_n (pc := 55) C dX11_read_55 0 rfl ?_
      refine gf_X11_39 (pc := 56) C dX11_read_56 ?_
      obtain ⟨z5, e5, h⟩ := bnd h
      refine k_callsV (pc := 59) C lk_X11_45 (by decide) (kc_X11_begin ia_10_9 e5) dX11_read_59 rfl rfl (Nat.le_of_ble_eq_true rfl) ?_
      refine k_iconst (pc := 62) (v := (1 : Int32)) C dX11_read_62 ciconst_1 ?_
      refine k_istore_n (pc := 63) C [(1, .int (1 : Int32)), (0, .ref (B.1 10 0))] dX11_read_63 (by decide) rfl ?_
      refine k_sub [1, 0] rfl ?_
      exact k_X11_read_l64 C E FU z5 (1 : Int32) h
    · refine k_bipush (pc := 43) (v := (-10 : Int32)) C dX11_read_43 cbipush_m10 ?_
      refine k_aload_n (pc := 45) C dX11_read_45 0 rfl ?_
      refine gf_X11_217 (pc := 46) C dX11_read_46 ?_
      refine k_isub (pc := 49) C dX11_read_49 ?_
      exact k_iret (pc := 50) C E (some_1 h) (some_2 h) dX11_read_50
  · refine k_bipush (pc := 23) (v := (-10 : Int32)) C dX11_read_23 cbipush_m10 ?_
    refine k_aload_n (pc := 25) C dX11_read_25 0 rfl ?_
    refine gf_X11_217 (pc := 26) C dX11_read_26 ?_
    refine k_isub (pc := 29) C dX11_read_29 ?_
    exact k_iret (pc := 30) C E (some_1 h) (some_2 h) dX11_read_30
def m_X11_part (T : TT) (x1 : Int32) : Option (Int64 × TT) := if x1 = 0 then (some ((T.2.2.1 10 4), T)) else (if x1 = (1 : Int32) then (some ((T.2.2.1 10 5), T)) else ((m_X11_bad T (-2 : Int32)).bind (fun z1 => some ((z1.1.toInt64), z1.2))))
set_option maxHeartbeats 4000000 in
set_option maxRecDepth 100000 in
theorem kc_X11_part {B : KB} {l : Launch} {T : TT} {x1 : Int32} {res : Int64 × TT} (h : m_X11_part T x1 = some res) : Kt B l 2 yX11_part cX11_part 2 (some .long) T [.ref (B.1 10 0), .int x1] (some (.long res.1)) res.2 := by
  refine Kt.of (by decide) (Nat.le_of_ble_eq_true rfl) (fun X hX C E => ?_)
  subst hX
  have C : Cx B X "GriefEngineModel" cX11_part 2 2 := C
  show Wk B X 2 T 0 [(0, .ref (B.1 10 0)), (1, .int x1)] []
  unfold m_X11_part at h
  refine k_iload_n (pc := 0) C dX11_part_0 1 rfl ?_
  refine k_if_ne (pc := 1) C 11 dX11_part_1 (by decide) h (fun c3 h => ?_) (fun c3 h => ?_)
  · refine k_iload_n (pc := 11) C dX11_part_11 1 rfl ?_
    refine k_iconst (pc := 12) (v := (1 : Int32)) C dX11_part_12 ciconst_1 ?_
    refine k_icmp_ne (pc := 13) C 23 dX11_part_13 (by decide) h (fun c2 h => ?_) (fun c2 h => ?_)
    · refine k_aload_n (pc := 23) C dX11_part_23 0 rfl ?_
      refine k_bipush (pc := 24) (v := (-2 : Int32)) C dX11_part_24 cbipush_m2 ?_
      obtain ⟨z1, e1, h⟩ := bnd h
      refine k_callvI (pc := 26) C lk_X11_63 (by decide) ix_X11 wo_X11 rfl rfl (kc_X11_bad e1) dX11_part_26 rfl rfl (Nat.le_of_ble_eq_true rfl) ?_
      refine k_i2l (pc := 29) C dX11_part_29 ?_
      exact k_lret (pc := 30) C E (some_1 h) (some_2 h) dX11_part_30
    · refine k_aload_n (pc := 16) C dX11_part_16 0 rfl ?_
      refine gf_X11_23 (pc := 17) C dX11_part_17 ?_
      refine k_goto (pc := 20) C 30 dX11_part_20 (by decide) ?_
      exact k_lret (pc := 30) C E (some_1 h) (some_2 h) dX11_part_30
  · refine k_aload_n (pc := 4) C dX11_part_4 0 rfl ?_
    refine gf_X11_181 (pc := 5) C dX11_part_5 ?_
    refine k_goto (pc := 8) C 30 dX11_part_8 (by decide) ?_
    exact k_lret (pc := 30) C E (some_1 h) (some_2 h) dX11_part_30
def m_X11_image_h19 (rec19 : TT → Int32 → Int32 → Option (Int32 × TT)) (T : TT) (x1 : Int32) (x2 : Int32) : Option (Int32 × TT) := if (175 : Int32) ≤ x2 then (if inb x1 2 then bT (sA T 10 3 (Int32.toNatClampNeg x1) (vp_nar .boolean (1 : Int32))) (fun T4 => some ((1 : Int32), T4)) else none) else (if inb x2 175 then (if inb (((175 : Int32) * x1) + x2) 350 then bT (sA T 10 2 (Int32.toNatClampNeg (((175 : Int32) * x1) + x2)) (T.1 10 1 (Int32.toNatClampNeg x2))) (fun T5 => bT (x2 + (1 : Int32)) (fun y6 => rec19 T5 x1 y6)) else none) else none)
def m_X11_image_l19 : Nat → TT → Int32 → Int32 → Option (Int32 × TT)
  | 0 => fun _ _ _ => none
  | n + 1 => fun T x1 x2 => m_X11_image_h19 (m_X11_image_l19 n) T x1 x2
def m_X11_image (T : TT) (x1 : Int32) : Option (Int32 × TT) := (m_X11_in (x1.toInt64) (0 : Int64) (1 : Int64)).bind (fun z1 => if z1 = 0 then ((m_X11_bad T (-2 : Int32)).bind (fun z2 => some (z2.1, z2.2))) else (m_X11_image_l19 FU T x1 (0 : Int32)))
set_option maxHeartbeats 4000000 in
set_option maxRecDepth 100000 in
theorem k_X11_image_h19 {B : KB} {X : KE} {rec19 : TT → Int32 → Int32 → Option (Int32 × TT)} {res : Int32 × TT} (C : Cx B X "GriefEngineModel" cX11_image 3 2) (E : Cr B X (some .int) (some (.int res.1)) res.2) (hrec19 : ∀ (T : TT) (x1 : Int32) (x2 : Int32), rec19 T x1 x2 = some res → Wk B X 3 T 19 [(0, .ref (B.1 10 0)), (1, .int x1), (2, .int x2)] []) (T : TT) (x1 : Int32) (x2 : Int32) (h : m_X11_image_h19 rec19 T x1 x2 = some res) : Wk B X 3 T 19 [(0, .ref (B.1 10 0)), (1, .int x1), (2, .int x2)] [] := by
  unfold m_X11_image_h19 at h
  refine k_iload_n (pc := 19) C dX11_image_19 2 rfl ?_
  refine k_sipush (pc := 20) (v := (175 : Int32)) C dX11_image_20 csipush_175 ?_
  refine k_icmp_ge (pc := 23) C 50 dX11_image_23 (by decide) h (fun c7 h => ?_) (fun c7 h => ?_)
  · refine k_aload_n (pc := 50) C dX11_image_50 0 rfl ?_
    refine gf_X11_16 (pc := 51) C dX11_image_51 ?_
    refine k_iload_n (pc := 54) C dX11_image_54 1 rfl ?_
    refine k_iconst (pc := 55) (v := (1 : Int32)) C dX11_image_55 ciconst_1 ?_
    refine k_zast (pc := 56) C ia_10_3 dX11_image_56 h (fun h => ?_)
    refine k_nT h (fun T4 h => ?_)
    refine k_iconst (pc := 57) (v := (1 : Int32)) C dX11_image_57 ciconst_1 ?_
    exact k_iret (pc := 58) C E (some_1 h) (some_2 h) dX11_image_58
  · refine k_aload_n (pc := 26) C dX11_image_26 0 rfl ?_
    refine gf_X11_13 (pc := 27) C dX11_image_27 ?_
    refine k_sipush (pc := 30) (v := (175 : Int32)) C dX11_image_30 csipush_175 ?_
    refine k_iload_n (pc := 33) C dX11_image_33 1 rfl ?_
    refine k_imul (pc := 34) C dX11_image_34 ?_
    refine k_iload_n (pc := 35) C dX11_image_35 2 rfl ?_
    refine k_iadd (pc := 36) C dX11_image_36 ?_
    refine k_aload_n (pc := 37) C dX11_image_37 0 rfl ?_
    refine gf_X11_7 (pc := 38) C dX11_image_38 ?_
    refine k_iload_n (pc := 41) C dX11_image_41 2 rfl ?_
    refine k_iald (pc := 42) C ia_10_1 dX11_image_42 h (fun h => ?_)
    refine k_iast (pc := 43) C ia_10_2 dX11_image_43 h (fun h => ?_)
    refine k_nT h (fun T5 h => ?_)
    refine k_iincN (pc := 44) (x := x2) (c := (1 : Int32)) C (fun y6 => [(2, .int y6), (0, .ref (B.1 10 0)), (1, .int x1)]) dX11_image_44 2 rfl ciconst_1 (by decide) (fun _ => rfl) h (fun y6 h => ?_)
    refine k_goto (pc := 47) C 19 dX11_image_47 (by decide) ?_
    refine k_sub [1, 2, 0] rfl ?_
    exact hrec19 T5 x1 y6 h
set_option maxHeartbeats 4000000 in
set_option maxRecDepth 100000 in
theorem k_X11_image_l19 {B : KB} {X : KE} {res : Int32 × TT} (C : Cx B X "GriefEngineModel" cX11_image 3 2) (E : Cr B X (some .int) (some (.int res.1)) res.2) : ∀ (n : Nat) (T : TT) (x1 : Int32) (x2 : Int32) (h : m_X11_image_l19 n T x1 x2 = some res), Wk B X 3 T 19 [(0, .ref (B.1 10 0)), (1, .int x1), (2, .int x2)] [] := by
  intro n
  induction n with
  | zero =>
    intro T x1 x2 h
    exact no_some h
  | succ n ih =>
    intro T x1 x2 h
    exact k_X11_image_h19 C E (fun T x1 x2 h => ih T x1 x2 h) T x1 x2 h
set_option maxHeartbeats 4000000 in
set_option maxRecDepth 100000 in
theorem kc_X11_image {B : KB} {l : Launch} {T : TT} {x1 : Int32} {res : Int32 × TT} (h : m_X11_image T x1 = some res) : Kt B l 2 yX11_image cX11_image 3 (some .int) T [.ref (B.1 10 0), .int x1] (some (.int res.1)) res.2 := by
  refine Kt.of (by decide) (Nat.le_of_ble_eq_true rfl) (fun X hX C E => ?_)
  subst hX
  have C : Cx B X "GriefEngineModel" cX11_image 3 2 := C
  show Wk B X 3 T 0 [(0, .ref (B.1 10 0)), (1, .int x1)] []
  unfold m_X11_image at h
  refine k_iload_n (pc := 0) C dX11_image_0 1 rfl ?_
  refine k_i2l (pc := 1) C dX11_image_1 ?_
  refine k_lconst (pc := 2) (v := (0 : Int64)) C dX11_image_2 (by decide) ?_
  refine k_lconst (pc := 3) (v := (1 : Int64)) C dX11_image_3 (by decide) ?_
  obtain ⟨z1, e1, h⟩ := bnd h
  refine k_callsI (pc := 4) C lk_X11_53 (by decide) (kc_X11_in e1) dX11_image_4 rfl rfl (Nat.le_of_ble_eq_true rfl) ?_
  refine k_if_ne (pc := 7) C 17 dX11_image_7 (by decide) h (fun c3 h => ?_) (fun c3 h => ?_)
  · refine k_iconst (pc := 17) (v := (0 : Int32)) C dX11_image_17 ciconst_0 ?_
    refine k_istore_n (pc := 18) C [(2, .int (0 : Int32)), (0, .ref (B.1 10 0)), (1, .int x1)] dX11_image_18 (by decide) rfl ?_
    refine k_sub [1, 2, 0] rfl ?_
    exact k_X11_image_l19 C E FU T x1 (0 : Int32) h
  · refine k_aload_n (pc := 10) C dX11_image_10 0 rfl ?_
    refine k_bipush (pc := 11) (v := (-2 : Int32)) C dX11_image_11 cbipush_m2 ?_
    obtain ⟨z2, e2, h⟩ := bnd h
    refine k_callvI (pc := 13) C lk_X11_63 (by decide) ix_X11 wo_X11 rfl rfl (kc_X11_bad e2) dX11_image_13 rfl rfl (Nat.le_of_ble_eq_true rfl) ?_
    exact k_iret (pc := 16) C E (some_1 h) (some_2 h) dX11_image_16
def m_X11_from_h33 (rec33 : TT → Int32 → Int32 → Option (Int32 × TT)) (T : TT) (x1 : Int32) (x2 : Int32) : Option (Int32 × TT) := if (175 : Int32) ≤ x2 then (some ((1 : Int32), T)) else (if inb (((175 : Int32) * x1) + x2) 350 then (if inb x2 175 then bT (sA T 10 1 (Int32.toNatClampNeg x2) (T.1 10 2 (Int32.toNatClampNeg (((175 : Int32) * x1) + x2)))) (fun T6 => bT (x2 + (1 : Int32)) (fun y7 => rec33 T6 x1 y7)) else none) else none)
def m_X11_from_l33 : Nat → TT → Int32 → Int32 → Option (Int32 × TT)
  | 0 => fun _ _ _ => none
  | n + 1 => fun T x1 x2 => m_X11_from_h33 (m_X11_from_l33 n) T x1 x2
def m_X11_from (T : TT) (x1 : Int32) : Option (Int32 × TT) := (m_X11_in (x1.toInt64) (0 : Int64) (1 : Int64)).bind (fun z1 => if z1 = 0 then ((m_X11_bad T (-2 : Int32)).bind (fun z4 => some (z4.1, z4.2))) else (if inb x1 2 then (if (T.1 10 3 (Int32.toNatClampNeg x1)) = 0 then ((m_X11_no T).bind (fun z2 => some (z2.1, z2.2))) else (m_X11_from_l33 FU T x1 (0 : Int32))) else none))
set_option maxHeartbeats 4000000 in
set_option maxRecDepth 100000 in
theorem k_X11_from_h33 {B : KB} {X : KE} {rec33 : TT → Int32 → Int32 → Option (Int32 × TT)} {res : Int32 × TT} (C : Cx B X "GriefEngineModel" cX11_from 3 2) (E : Cr B X (some .int) (some (.int res.1)) res.2) (hrec33 : ∀ (T : TT) (x1 : Int32) (x2 : Int32), rec33 T x1 x2 = some res → Wk B X 3 T 33 [(0, .ref (B.1 10 0)), (1, .int x1), (2, .int x2)] []) (T : TT) (x1 : Int32) (x2 : Int32) (h : m_X11_from_h33 rec33 T x1 x2 = some res) : Wk B X 3 T 33 [(0, .ref (B.1 10 0)), (1, .int x1), (2, .int x2)] [] := by
  unfold m_X11_from_h33 at h
  refine k_iload_n (pc := 33) C dX11_from_33 2 rfl ?_
  refine k_sipush (pc := 34) (v := (175 : Int32)) C dX11_from_34 csipush_175 ?_
  refine k_icmp_ge (pc := 37) C 64 dX11_from_37 (by decide) h (fun c8 h => ?_) (fun c8 h => ?_)
  · refine k_iconst (pc := 64) (v := (1 : Int32)) C dX11_from_64 ciconst_1 ?_
    exact k_iret (pc := 65) C E (some_1 h) (some_2 h) dX11_from_65
  · refine k_aload_n (pc := 40) C dX11_from_40 0 rfl ?_
    refine gf_X11_7 (pc := 41) C dX11_from_41 ?_
    refine k_iload_n (pc := 44) C dX11_from_44 2 rfl ?_
    refine k_aload_n (pc := 45) C dX11_from_45 0 rfl ?_
    refine gf_X11_13 (pc := 46) C dX11_from_46 ?_
    refine k_sipush (pc := 49) (v := (175 : Int32)) C dX11_from_49 csipush_175 ?_
    refine k_iload_n (pc := 52) C dX11_from_52 1 rfl ?_
    refine k_imul (pc := 53) C dX11_from_53 ?_
    refine k_iload_n (pc := 54) C dX11_from_54 2 rfl ?_
    refine k_iadd (pc := 55) C dX11_from_55 ?_
    refine k_iald (pc := 56) C ia_10_2 dX11_from_56 h (fun h => ?_)
    refine k_iast (pc := 57) C ia_10_1 dX11_from_57 h (fun h => ?_)
    refine k_nT h (fun T6 h => ?_)
    refine k_iincN (pc := 58) (x := x2) (c := (1 : Int32)) C (fun y7 => [(2, .int y7), (0, .ref (B.1 10 0)), (1, .int x1)]) dX11_from_58 2 rfl ciconst_1 (by decide) (fun _ => rfl) h (fun y7 h => ?_)
    refine k_goto (pc := 61) C 33 dX11_from_61 (by decide) ?_
    refine k_sub [1, 2, 0] rfl ?_
    exact hrec33 T6 x1 y7 h
set_option maxHeartbeats 4000000 in
set_option maxRecDepth 100000 in
theorem k_X11_from_l33 {B : KB} {X : KE} {res : Int32 × TT} (C : Cx B X "GriefEngineModel" cX11_from 3 2) (E : Cr B X (some .int) (some (.int res.1)) res.2) : ∀ (n : Nat) (T : TT) (x1 : Int32) (x2 : Int32) (h : m_X11_from_l33 n T x1 x2 = some res), Wk B X 3 T 33 [(0, .ref (B.1 10 0)), (1, .int x1), (2, .int x2)] [] := by
  intro n
  induction n with
  | zero =>
    intro T x1 x2 h
    exact no_some h
  | succ n ih =>
    intro T x1 x2 h
    exact k_X11_from_h33 C E (fun T x1 x2 h => ih T x1 x2 h) T x1 x2 h
set_option maxHeartbeats 4000000 in
set_option maxRecDepth 100000 in
theorem kc_X11_from {B : KB} {l : Launch} {T : TT} {x1 : Int32} {res : Int32 × TT} (h : m_X11_from T x1 = some res) : Kt B l 2 yX11_from cX11_from 3 (some .int) T [.ref (B.1 10 0), .int x1] (some (.int res.1)) res.2 := by
  refine Kt.of (by decide) (Nat.le_of_ble_eq_true rfl) (fun X hX C E => ?_)
  subst hX
  have C : Cx B X "GriefEngineModel" cX11_from 3 2 := C
  show Wk B X 3 T 0 [(0, .ref (B.1 10 0)), (1, .int x1)] []
  unfold m_X11_from at h
  refine k_iload_n (pc := 0) C dX11_from_0 1 rfl ?_
  refine k_i2l (pc := 1) C dX11_from_1 ?_
  refine k_lconst (pc := 2) (v := (0 : Int64)) C dX11_from_2 (by decide) ?_
  refine k_lconst (pc := 3) (v := (1 : Int64)) C dX11_from_3 (by decide) ?_
  obtain ⟨z1, e1, h⟩ := bnd h
  refine k_callsI (pc := 4) C lk_X11_53 (by decide) (kc_X11_in e1) dX11_from_4 rfl rfl (Nat.le_of_ble_eq_true rfl) ?_
  refine k_if_ne (pc := 7) C 17 dX11_from_7 (by decide) h (fun c5 h => ?_) (fun c5 h => ?_)
  · refine k_aload_n (pc := 17) C dX11_from_17 0 rfl ?_
    refine gf_X11_16 (pc := 18) C dX11_from_18 ?_
    refine k_iload_n (pc := 21) C dX11_from_21 1 rfl ?_
    refine k_zald (pc := 22) C ia_10_3 dX11_from_22 h (fun h => ?_)
    refine k_if_ne (pc := 23) C 31 dX11_from_23 (by decide) h (fun c3 h => ?_) (fun c3 h => ?_)
    · refine k_iconst (pc := 31) (v := (0 : Int32)) C dX11_from_31 ciconst_0 ?_
      refine k_istore_n (pc := 32) C [(2, .int (0 : Int32)), (0, .ref (B.1 10 0)), (1, .int x1)] dX11_from_32 (by decide) rfl ?_
      refine k_sub [1, 2, 0] rfl ?_
      exact k_X11_from_l33 C E FU T x1 (0 : Int32) h
    · refine k_aload_n (pc := 26) C dX11_from_26 0 rfl ?_
      obtain ⟨z2, e2, h⟩ := bnd h
      refine k_callvI (pc := 27) C lk_X11_119 (by decide) ix_X11 wo_X11 rfl rfl (kc_X11_no e2) dX11_from_27 rfl rfl (Nat.le_of_ble_eq_true rfl) ?_
      exact k_iret (pc := 30) C E (some_1 h) (some_2 h) dX11_from_30
  · refine k_aload_n (pc := 10) C dX11_from_10 0 rfl ?_
    refine k_bipush (pc := 11) (v := (-2 : Int32)) C dX11_from_11 cbipush_m2 ?_
    obtain ⟨z4, e4, h⟩ := bnd h
    refine k_callvI (pc := 13) C lk_X11_63 (by decide) ix_X11 wo_X11 rfl rfl (kc_X11_bad e4) dX11_from_13 rfl rfl (Nat.le_of_ble_eq_true rfl) ?_
    exact k_iret (pc := 16) C E (some_1 h) (some_2 h) dX11_from_16
def m_X11_status (T : TT) (x1 : Int32) : Option (Int32 × TT) := (m_X11_in (x1.toInt64) (0 : Int64) (2 : Int64)).bind (fun z1 => if z1 = 0 then ((m_X11_bad T (-1 : Int32)).bind (fun z2 => some (z2.1, z2.2))) else (if inb x1 3 then (some ((T.1 10 4 (Int32.toNatClampNeg x1)), T)) else none))
set_option maxHeartbeats 4000000 in
set_option maxRecDepth 100000 in
theorem kc_X11_status {B : KB} {l : Launch} {T : TT} {x1 : Int32} {res : Int32 × TT} (h : m_X11_status T x1 = some res) : Kt B l 2 yX11_status cX11_status 2 (some .int) T [.ref (B.1 10 0), .int x1] (some (.int res.1)) res.2 := by
  refine Kt.of (by decide) (Nat.le_of_ble_eq_true rfl) (fun X hX C E => ?_)
  subst hX
  have C : Cx B X "GriefEngineModel" cX11_status 2 2 := C
  show Wk B X 2 T 0 [(0, .ref (B.1 10 0)), (1, .int x1)] []
  unfold m_X11_status at h
  refine k_iload_n (pc := 0) C dX11_status_0 1 rfl ?_
  refine k_i2l (pc := 1) C dX11_status_1 ?_
  refine k_lconst (pc := 2) (v := (0 : Int64)) C dX11_status_2 (by decide) ?_
  refine k_ldc2_w (pc := 3) (v := (2 : Int64)) C dX11_status_3 tw4_157 ?_
  obtain ⟨z1, e1, h⟩ := bnd h
  refine k_callsI (pc := 6) C lk_X11_53 (by decide) (kc_X11_in e1) dX11_status_6 rfl rfl (Nat.le_of_ble_eq_true rfl) ?_
  refine k_if_eq (pc := 9) C 21 dX11_status_9 (by decide) h (fun c3 h => ?_) (fun c3 h => ?_)
  · refine k_aload_n (pc := 21) C dX11_status_21 0 rfl ?_
    refine k_iconst (pc := 22) (v := (-1 : Int32)) C dX11_status_22 ciconst_m1 ?_
    obtain ⟨z2, e2, h⟩ := bnd h
    refine k_callvI (pc := 23) C lk_X11_63 (by decide) ix_X11 wo_X11 rfl rfl (kc_X11_bad e2) dX11_status_23 rfl rfl (Nat.le_of_ble_eq_true rfl) ?_
    exact k_iret (pc := 26) C E (some_1 h) (some_2 h) dX11_status_26
  · refine k_aload_n (pc := 12) C dX11_status_12 0 rfl ?_
    refine gf_X11_20 (pc := 13) C dX11_status_13 ?_
    refine k_iload_n (pc := 16) C dX11_status_16 1 rfl ?_
    refine k_iald (pc := 17) C ia_10_4 dX11_status_17 h (fun h => ?_)
    refine k_goto (pc := 18) C 26 dX11_status_18 (by decide) ?_
    exact k_iret (pc := 26) C E (some_1 h) (some_2 h) dX11_status_26
def m_X11_allOf_h4 (T : TT) (rec4 : Int32 → Int32 → Int32 → Option (Int32)) (x1 : Int32) (x2 : Int32) (x3 : Int32) : Option (Int32) := (m_X11_many T).bind (fun z1 => if z1 ≤ x3 then (some x2) else (if inb (x1 + x3) 175 then (bT (x2 + (T.1 10 1 (Int32.toNatClampNeg (x1 + x3)))) (fun y2 => bT (x3 + (1 : Int32)) (fun y3 => rec4 x1 y2 y3))) else none))
def m_X11_allOf_l4 (T : TT) : Nat → Int32 → Int32 → Int32 → Option (Int32)
  | 0 => fun _ _ _ => none
  | n + 1 => fun x1 x2 x3 => m_X11_allOf_h4 T (m_X11_allOf_l4 T n) x1 x2 x3
def m_X11_allOf (T : TT) (x1 : Int32) : Option (Int32) := m_X11_allOf_l4 T FU x1 (0 : Int32) (0 : Int32)
set_option maxHeartbeats 4000000 in
set_option maxRecDepth 100000 in
theorem k_X11_allOf_h4 {B : KB} {X : KE} {T : TT} {rec4 : Int32 → Int32 → Int32 → Option (Int32)} {res : Int32} (C : Cx B X "GriefEngineModel" cX11_allOf 4 2) (E : Cr B X (some .int) (some (.int res)) T) (hrec4 : ∀ (x1 : Int32) (x2 : Int32) (x3 : Int32), rec4 x1 x2 x3 = some res → Wk B X 4 T 4 [(0, .ref (B.1 10 0)), (1, .int x1), (2, .int x2), (3, .int x3)] []) (x1 : Int32) (x2 : Int32) (x3 : Int32) (h : m_X11_allOf_h4 T rec4 x1 x2 x3 = some res) : Wk B X 4 T 4 [(0, .ref (B.1 10 0)), (1, .int x1), (2, .int x2), (3, .int x3)] [] := by
  unfold m_X11_allOf_h4 at h
  refine k_iload_n (pc := 4) C dX11_allOf_4 3 rfl ?_
  refine k_aload_n (pc := 5) C dX11_allOf_5 0 rfl ?_
  obtain ⟨z1, e1, h⟩ := bnd h
  refine k_callvI (pc := 6) C lk_X11_49 (by decide) ix_X11 wo_X11 rfl rfl (kc_X11_many e1) dX11_allOf_6 rfl rfl (Nat.le_of_ble_eq_true rfl) ?_
  refine k_icmp_ge (pc := 9) C 29 dX11_allOf_9 (by decide) h (fun c4 h => ?_) (fun c4 h => ?_)
  · refine k_iload_n (pc := 29) C dX11_allOf_29 2 rfl ?_
    exact k_iret (pc := 30) C E (some_i h) rfl dX11_allOf_30
  · refine k_iload_n (pc := 12) C dX11_allOf_12 2 rfl ?_
    refine k_aload_n (pc := 13) C dX11_allOf_13 0 rfl ?_
    refine gf_X11_7 (pc := 14) C dX11_allOf_14 ?_
    refine k_iload_n (pc := 17) C dX11_allOf_17 1 rfl ?_
    refine k_iload_n (pc := 18) C dX11_allOf_18 3 rfl ?_
    refine k_iadd (pc := 19) C dX11_allOf_19 ?_
    refine k_iald (pc := 20) C ia_10_1 dX11_allOf_20 h (fun h => ?_)
    refine k_iadd (pc := 21) C dX11_allOf_21 ?_
    refine k_nI h (fun y2 h => ?_)
    refine k_istore_n (pc := 22) C [(2, .int y2), (0, .ref (B.1 10 0)), (1, .int x1), (3, .int x3)] dX11_allOf_22 (by decide) rfl ?_
    refine k_iincN (pc := 23) (x := x3) (c := (1 : Int32)) C (fun y3 => [(3, .int y3), (2, .int y2), (0, .ref (B.1 10 0)), (1, .int x1)]) dX11_allOf_23 3 rfl ciconst_1 (by decide) (fun _ => rfl) h (fun y3 h => ?_)
    refine k_goto (pc := 26) C 4 dX11_allOf_26 (by decide) ?_
    refine k_sub [2, 3, 1, 0] rfl ?_
    exact hrec4 x1 y2 y3 h
set_option maxHeartbeats 4000000 in
set_option maxRecDepth 100000 in
theorem k_X11_allOf_l4 {B : KB} {X : KE} {T : TT} {res : Int32} (C : Cx B X "GriefEngineModel" cX11_allOf 4 2) (E : Cr B X (some .int) (some (.int res)) T) : ∀ (n : Nat) (x1 : Int32) (x2 : Int32) (x3 : Int32) (h : m_X11_allOf_l4 T n x1 x2 x3 = some res), Wk B X 4 T 4 [(0, .ref (B.1 10 0)), (1, .int x1), (2, .int x2), (3, .int x3)] [] := by
  intro n
  induction n with
  | zero =>
    intro x1 x2 x3 h
    exact no_some h
  | succ n ih =>
    intro x1 x2 x3 h
    exact k_X11_allOf_h4 C E (fun x1 x2 x3 h => ih x1 x2 x3 h) x1 x2 x3 h
set_option maxHeartbeats 4000000 in
set_option maxRecDepth 100000 in
theorem kc_X11_allOf {B : KB} {l : Launch} {T : TT} {x1 : Int32} {res : Int32} (h : m_X11_allOf T x1 = some res) : Kt B l 2 yX11_allOf cX11_allOf 4 (some .int) T [.ref (B.1 10 0), .int x1] (some (.int res)) T := by
  refine Kt.of (by decide) (Nat.le_of_ble_eq_true rfl) (fun X hX C E => ?_)
  subst hX
  have C : Cx B X "GriefEngineModel" cX11_allOf 4 2 := C
  show Wk B X 4 T 0 [(0, .ref (B.1 10 0)), (1, .int x1)] []
  unfold m_X11_allOf at h
  refine k_iconst (pc := 0) (v := (0 : Int32)) C dX11_allOf_0 ciconst_0 ?_
  refine k_istore_n (pc := 1) C [(2, .int (0 : Int32)), (0, .ref (B.1 10 0)), (1, .int x1)] dX11_allOf_1 (by decide) rfl ?_
  refine k_iconst (pc := 2) (v := (0 : Int32)) C dX11_allOf_2 ciconst_0 ?_
  refine k_istore_n (pc := 3) C [(3, .int (0 : Int32)), (2, .int (0 : Int32)), (0, .ref (B.1 10 0)), (1, .int x1)] dX11_allOf_3 (by decide) rfl ?_
  refine k_sub [2, 3, 1, 0] rfl ?_
  exact k_X11_allOf_l4 C E FU x1 (0 : Int32) (0 : Int32) h
def m_X11_counted (T : TT) (x1 : Int32) : Option (Int32) := if x1 = (0 : Int32) then ((m_X11_many T).bind (fun z2 => some z2)) else (if x1 = (1 : Int32) then (some (T.1 10 1 16)) else (if x1 = (2 : Int32) then ((m_X11_allOf T (4 : Int32)).bind (fun z5 => some z5)) else (if x1 = (3 : Int32) then ((m_X11_allOf T (10 : Int32)).bind (fun z7 => some z7)) else (if x1 = (4 : Int32) then (some (T.1 10 1 1)) else (if x1 = (5 : Int32) then (some (T.1 10 1 2)) else (if x1 = (6 : Int32) then (some (T.1 10 1 3)) else (some (T.2.1 10 13))))))))
set_option maxHeartbeats 4000000 in
set_option maxRecDepth 100000 in
theorem kc_X11_counted {B : KB} {l : Launch} {T : TT} {x1 : Int32} {res : Int32} (h : m_X11_counted T x1 = some res) : Kt B l 3 yX11_counted cX11_counted 2 (some .int) T [.ref (B.1 10 0), .int x1] (some (.int res)) T := by
  refine Kt.of (by decide) (Nat.le_of_ble_eq_true rfl) (fun X hX C E => ?_)
  subst hX
  have C : Cx B X "GriefEngineModel" cX11_counted 2 3 := C
  show Wk B X 2 T 0 [(0, .ref (B.1 10 0)), (1, .int x1)] []
  unfold m_X11_counted at h
  refine k_iload_n (pc := 0) C dX11_counted_0 1 rfl ?_
  by_cases c1 : x1 = (0 : Int32)
  · rw [if_pos c1] at h
    refine k_tabIn (pc := 1) C 44 (0 : Int32) dX11_counted_1 c1 (by decide) (by decide) rfl (by decide) ?_
    refine k_aload_n (pc := 44) C dX11_counted_44 0 rfl ?_
    obtain ⟨z2, e2, h⟩ := bnd h
    refine k_callvI (pc := 45) C lk_X11_49 (by decide) ix_X11 wo_X11 rfl rfl (kc_X11_many e2) dX11_counted_45 rfl rfl (Nat.le_of_ble_eq_true rfl) ?_
    exact k_iret (pc := 48) C E (some_i h) rfl dX11_counted_48
  · rw [if_neg c1] at h
    by_cases c3 : x1 = (1 : Int32)
    · rw [if_pos c3] at h
      refine k_tabIn (pc := 1) C 49 (1 : Int32) dX11_counted_1 c3 (by decide) (by decide) rfl (by decide) ?_
      refine k_aload_n (pc := 49) C dX11_counted_49 0 rfl ?_
      refine gf_X11_7 (pc := 50) C dX11_counted_50 ?_
      refine k_bipush (pc := 53) (v := (16 : Int32)) C dX11_counted_53 cbipush_16 ?_
      refine k_ialdc (pc := 55) C ia_10_1 16 dX11_counted_55 (by decide) (by decide) ?_
      exact k_iret (pc := 56) C E (some_i h) rfl dX11_counted_56
    · rw [if_neg c3] at h
      by_cases c4 : x1 = (2 : Int32)
      · rw [if_pos c4] at h
        refine k_tabIn (pc := 1) C 57 (2 : Int32) dX11_counted_1 c4 (by decide) (by decide) rfl (by decide) ?_
        refine k_aload_n (pc := 57) C dX11_counted_57 0 rfl ?_
        refine k_iconst (pc := 58) (v := (4 : Int32)) C dX11_counted_58 ciconst_4 ?_
        obtain ⟨z5, e5, h⟩ := bnd h
        refine k_callvI (pc := 59) C lk_X11_259 (by decide) ix_X11 wo_X11 rfl rfl (kc_X11_allOf e5) dX11_counted_59 rfl rfl (Nat.le_of_ble_eq_true rfl) ?_
        exact k_iret (pc := 62) C E (some_i h) rfl dX11_counted_62
      · rw [if_neg c4] at h
        by_cases c6 : x1 = (3 : Int32)
        · rw [if_pos c6] at h
          refine k_tabIn (pc := 1) C 63 (3 : Int32) dX11_counted_1 c6 (by decide) (by decide) rfl (by decide) ?_
          refine k_aload_n (pc := 63) C dX11_counted_63 0 rfl ?_
          refine k_bipush (pc := 64) (v := (10 : Int32)) C dX11_counted_64 cbipush_10 ?_
          obtain ⟨z7, e7, h⟩ := bnd h
          refine k_callvI (pc := 66) C lk_X11_259 (by decide) ix_X11 wo_X11 rfl rfl (kc_X11_allOf e7) dX11_counted_66 rfl rfl (Nat.le_of_ble_eq_true rfl) ?_
          exact k_iret (pc := 69) C E (some_i h) rfl dX11_counted_69
        · rw [if_neg c6] at h
          by_cases c8 : x1 = (4 : Int32)
          · rw [if_pos c8] at h
            refine k_tabIn (pc := 1) C 70 (4 : Int32) dX11_counted_1 c8 (by decide) (by decide) rfl (by decide) ?_
            refine k_aload_n (pc := 70) C dX11_counted_70 0 rfl ?_
            refine gf_X11_7 (pc := 71) C dX11_counted_71 ?_
            refine k_iconst (pc := 74) (v := (1 : Int32)) C dX11_counted_74 ciconst_1 ?_
            refine k_ialdc (pc := 75) C ia_10_1 1 dX11_counted_75 (by decide) (by decide) ?_
            exact k_iret (pc := 76) C E (some_i h) rfl dX11_counted_76
          · rw [if_neg c8] at h
            by_cases c9 : x1 = (5 : Int32)
            · rw [if_pos c9] at h
              refine k_tabIn (pc := 1) C 77 (5 : Int32) dX11_counted_1 c9 (by decide) (by decide) rfl (by decide) ?_
              refine k_aload_n (pc := 77) C dX11_counted_77 0 rfl ?_
              refine gf_X11_7 (pc := 78) C dX11_counted_78 ?_
              refine k_iconst (pc := 81) (v := (2 : Int32)) C dX11_counted_81 ciconst_2 ?_
              refine k_ialdc (pc := 82) C ia_10_1 2 dX11_counted_82 (by decide) (by decide) ?_
              exact k_iret (pc := 83) C E (some_i h) rfl dX11_counted_83
            · rw [if_neg c9] at h
              by_cases c10 : x1 = (6 : Int32)
              · rw [if_pos c10] at h
                refine k_tabIn (pc := 1) C 84 (6 : Int32) dX11_counted_1 c10 (by decide) (by decide) rfl (by decide) ?_
                refine k_aload_n (pc := 84) C dX11_counted_84 0 rfl ?_
                refine gf_X11_7 (pc := 85) C dX11_counted_85 ?_
                refine k_iconst (pc := 88) (v := (3 : Int32)) C dX11_counted_88 ciconst_3 ?_
                refine k_ialdc (pc := 89) C ia_10_1 3 dX11_counted_89 (by decide) (by decide) ?_
                exact k_iret (pc := 90) C E (some_i h) rfl dX11_counted_90
              · rw [if_neg c10] at h
                have n1 : x1.toInt ≠ 0 := ne_toInt c1
                have n3 : x1.toInt ≠ 1 := ne_toInt c3
                have n4 : x1.toInt ≠ 2 := ne_toInt c4
                have n6 : x1.toInt ≠ 3 := ne_toInt c6
                have n8 : x1.toInt ≠ 4 := ne_toInt c8
                have n9 : x1.toInt ≠ 5 := ne_toInt c9
                have n10 : x1.toInt ≠ 6 := ne_toInt c10
                refine k_tabOut (pc := 1) C 91 dX11_counted_1 (by omega) (by decide) ?_
                refine k_aload_n (pc := 91) C dX11_counted_91 0 rfl ?_
                refine gf_X11_206 (pc := 92) C dX11_counted_92 ?_
                exact k_iret (pc := 95) C E (some_i h) rfl dX11_counted_95
def m_X11_count (T : TT) (x1 : Int32) : Option (Int32 × TT) := (m_X11_in (x1.toInt64) (0 : Int64) (7 : Int64)).bind (fun z1 => if z1 = 0 then ((m_X11_bad T (-2 : Int32)).bind (fun z2 => some (z2.1, z2.2))) else ((m_X11_counted T x1).bind (fun z3 => some (z3, T))))
set_option maxHeartbeats 4000000 in
set_option maxRecDepth 100000 in
theorem kc_X11_count {B : KB} {l : Launch} {T : TT} {x1 : Int32} {res : Int32 × TT} (h : m_X11_count T x1 = some res) : Kt B l 4 yX11_count cX11_count 2 (some .int) T [.ref (B.1 10 0), .int x1] (some (.int res.1)) res.2 := by
  refine Kt.of (by decide) (Nat.le_of_ble_eq_true rfl) (fun X hX C E => ?_)
  subst hX
  have C : Cx B X "GriefEngineModel" cX11_count 2 4 := C
  show Wk B X 2 T 0 [(0, .ref (B.1 10 0)), (1, .int x1)] []
  unfold m_X11_count at h
  refine k_iload_n (pc := 0) C dX11_count_0 1 rfl ?_
  refine k_i2l (pc := 1) C dX11_count_1 ?_
  refine k_lconst (pc := 2) (v := (0 : Int64)) C dX11_count_2 (by decide) ?_
  refine k_ldc2_w (pc := 3) (v := (7 : Int64)) C dX11_count_3 tw4_233 ?_
  obtain ⟨z1, e1, h⟩ := bnd h
  refine k_callsI (pc := 6) C lk_X11_53 (by decide) (kc_X11_in e1) dX11_count_6 rfl rfl (Nat.le_of_ble_eq_true rfl) ?_
  refine k_if_eq (pc := 9) C 20 dX11_count_9 (by decide) h (fun c4 h => ?_) (fun c4 h => ?_)
  · refine k_aload_n (pc := 20) C dX11_count_20 0 rfl ?_
    refine k_bipush (pc := 21) (v := (-2 : Int32)) C dX11_count_21 cbipush_m2 ?_
    obtain ⟨z2, e2, h⟩ := bnd h
    refine k_callvI (pc := 23) C lk_X11_63 (by decide) ix_X11 wo_X11 rfl rfl (kc_X11_bad e2) dX11_count_23 rfl rfl (Nat.le_of_ble_eq_true rfl) ?_
    exact k_iret (pc := 26) C E (some_1 h) (some_2 h) dX11_count_26
  · refine k_aload_n (pc := 12) C dX11_count_12 0 rfl ?_
    refine k_iload_n (pc := 13) C dX11_count_13 1 rfl ?_
    obtain ⟨z3, e3, h⟩ := bnd h
    refine k_callvI (pc := 14) C lk_X11_262 (by decide) ix_X11 wo_X11 rfl rfl (kc_X11_counted e3) dX11_count_14 rfl rfl (Nat.le_of_ble_eq_true rfl) ?_
    refine k_goto (pc := 17) C 26 dX11_count_17 (by decide) ?_
    exact k_iret (pc := 26) C E (some_1 h) (some_2 h) dX11_count_26
def m_X11_sums_h6 (T : TT) (rec6 : Int32 → Int32 → Int64 → Int32 → Option (Int64)) (x3 : Int32) (x4 : Int32) (x5 : Int64) (x7 : Int32) : Option (Int64) := if x4 ≤ x7 then (some x5) else (if inb (x3 + x7) 175 then (bT (((31 : Int64) * x5) + ((T.1 10 1 (Int32.toNatClampNeg (x3 + x7))).toInt64)) (fun y1 => bT (x7 + (1 : Int32)) (fun y2 => rec6 x3 x4 y1 y2))) else none)
def m_X11_sums_l6 (T : TT) : Nat → Int32 → Int32 → Int64 → Int32 → Option (Int64)
  | 0 => fun _ _ _ _ => none
  | n + 1 => fun x3 x4 x5 x7 => m_X11_sums_h6 T (m_X11_sums_l6 T n) x3 x4 x5 x7
def m_X11_sums (T : TT) (x1 : Int64) (x3 : Int32) (x4 : Int32) : Option (Int64) := m_X11_sums_l6 T FU x3 x4 x1 (0 : Int32)
set_option maxHeartbeats 4000000 in
set_option maxRecDepth 100000 in
theorem k_X11_sums_h6 {B : KB} {X : KE} {T : TT} {rec6 : Int32 → Int32 → Int64 → Int32 → Option (Int64)} {res : Int64} (C : Cx B X "GriefEngineModel" cX11_sums 8 1) (E : Cr B X (some .long) (some (.long res)) T) (hrec6 : ∀ (x3 : Int32) (x4 : Int32) (x5 : Int64) (x7 : Int32), rec6 x3 x4 x5 x7 = some res → Wk B X 8 T 6 [(0, .ref (B.1 10 0)), (3, .int x3), (4, .int x4), (5, .long x5), (7, .int x7)] []) (x3 : Int32) (x4 : Int32) (x5 : Int64) (x7 : Int32) (h : m_X11_sums_h6 T rec6 x3 x4 x5 x7 = some res) : Wk B X 8 T 6 [(0, .ref (B.1 10 0)), (3, .int x3), (4, .int x4), (5, .long x5), (7, .int x7)] [] := by
  unfold m_X11_sums_h6 at h
  refine k_iload (pc := 6) C dX11_sums_6 4 rfl ?_
  refine k_iload (pc := 8) C dX11_sums_8 2 rfl ?_
  refine k_icmp_ge (pc := 10) C 38 dX11_sums_10 (by decide) h (fun c3 h => ?_) (fun c3 h => ?_)
  · refine k_lload (pc := 38) C dX11_sums_38 3 rfl ?_
    exact k_lret (pc := 40) C E (some_i h) rfl dX11_sums_40
  · refine k_ldc2_w (pc := 13) (v := (31 : Int64)) C dX11_sums_13 tw5_181 ?_
    refine k_lload (pc := 16) C dX11_sums_16 3 rfl ?_
    refine k_lmul (pc := 18) C dX11_sums_18 ?_
    refine k_aload_n (pc := 19) C dX11_sums_19 0 rfl ?_
    refine gf_X11_7 (pc := 20) C dX11_sums_20 ?_
    refine k_iload_n (pc := 23) C dX11_sums_23 1 rfl ?_
    refine k_iload (pc := 24) C dX11_sums_24 4 rfl ?_
    refine k_iadd (pc := 26) C dX11_sums_26 ?_
    refine k_iald (pc := 27) C ia_10_1 dX11_sums_27 h (fun h => ?_)
    refine k_i2l (pc := 28) C dX11_sums_28 ?_
    refine k_ladd (pc := 29) C dX11_sums_29 ?_
    refine k_nL h (fun y1 h => ?_)
    refine k_lstore (pc := 30) C [(5, .long y1), (0, .ref (B.1 10 0)), (3, .int x3), (4, .int x4), (7, .int x7)] dX11_sums_30 (by decide) rfl ?_
    refine k_iincN (pc := 32) (x := x7) (c := (1 : Int32)) C (fun y2 => [(7, .int y2), (5, .long y1), (0, .ref (B.1 10 0)), (3, .int x3), (4, .int x4)]) dX11_sums_32 4 rfl ciconst_1 (by decide) (fun _ => rfl) h (fun y2 h => ?_)
    refine k_goto (pc := 35) C 6 dX11_sums_35 (by decide) ?_
    refine k_sub [2, 3, 4, 1, 0] rfl ?_
    exact hrec6 x3 x4 y1 y2 h
set_option maxHeartbeats 4000000 in
set_option maxRecDepth 100000 in
theorem k_X11_sums_l6 {B : KB} {X : KE} {T : TT} {res : Int64} (C : Cx B X "GriefEngineModel" cX11_sums 8 1) (E : Cr B X (some .long) (some (.long res)) T) : ∀ (n : Nat) (x3 : Int32) (x4 : Int32) (x5 : Int64) (x7 : Int32) (h : m_X11_sums_l6 T n x3 x4 x5 x7 = some res), Wk B X 8 T 6 [(0, .ref (B.1 10 0)), (3, .int x3), (4, .int x4), (5, .long x5), (7, .int x7)] [] := by
  intro n
  induction n with
  | zero =>
    intro x3 x4 x5 x7 h
    exact no_some h
  | succ n ih =>
    intro x3 x4 x5 x7 h
    exact k_X11_sums_h6 C E (fun x3 x4 x5 x7 h => ih x3 x4 x5 x7 h) x3 x4 x5 x7 h
set_option maxHeartbeats 4000000 in
set_option maxRecDepth 100000 in
theorem kc_X11_sums {B : KB} {l : Launch} {T : TT} {x1 : Int64} {x3 : Int32} {x4 : Int32} {res : Int64} (h : m_X11_sums T x1 x3 x4 = some res) : Kt B l 1 yX11_sums cX11_sums 8 (some .long) T [.ref (B.1 10 0), .long x1, .int x3, .int x4] (some (.long res)) T := by
  refine Kt.of (by decide) (Nat.le_of_ble_eq_true rfl) (fun X hX C E => ?_)
  subst hX
  have C : Cx B X "GriefEngineModel" cX11_sums 8 1 := C
  show Wk B X 8 T 0 [(0, .ref (B.1 10 0)), (1, .long x1), (3, .int x3), (4, .int x4)] []
  unfold m_X11_sums at h
  refine k_lload_n (pc := 0) C dX11_sums_0 1 rfl ?_
  refine k_lstore (pc := 1) C [(5, .long x1), (0, .ref (B.1 10 0)), (1, .long x1), (3, .int x3), (4, .int x4)] dX11_sums_1 (by decide) rfl ?_
  refine k_iconst (pc := 3) (v := (0 : Int32)) C dX11_sums_3 ciconst_0 ?_
  refine k_istore (pc := 4) C [(7, .int (0 : Int32)), (5, .long x1), (0, .ref (B.1 10 0)), (1, .long x1), (3, .int x3), (4, .int x4)] dX11_sums_4 (by decide) rfl ?_
  refine k_sub [2, 4, 5, 1, 0] rfl ?_
  exact k_X11_sums_l6 C E FU x3 x4 x1 (0 : Int32) h
def m_X11_digest_h33 (T : TT) (rec33 : Int64 → Int32 → Option (Int64)) (x1 : Int64) (x3 : Int32) : Option (Int64) := (m_X11_many T).bind (fun z5 => if z5 ≤ x3 then ((m_X11_sums T x1 (23 : Int32) ((6 : Int32) * (T.1 10 1 1))).bind (fun z6 => (m_X11_sums T z6 (59 : Int32) ((3 : Int32) * (T.1 10 1 2))).bind (fun z7 => some (((31 : Int64) * (((31 : Int64) * z7) + (T.2.2.1 10 4))) + (T.2.2.1 10 5))))) else ((m_X11_kindOf T x3).bind (fun z8 => if inb ((4 : Int32) + x3) 175 then (if inb ((10 : Int32) + x3) 175 then (bT (((31 : Int64) * (((31 : Int64) * (((31 : Int64) * x1) + (z8.toInt64))) + ((T.1 10 1 (Int32.toNatClampNeg ((4 : Int32) + x3))).toInt64))) + ((T.1 10 1 (Int32.toNatClampNeg ((10 : Int32) + x3))).toInt64)) (fun y9 => bT (x3 + (1 : Int32)) (fun y10 => rec33 y9 y10))) else none) else none)))
def m_X11_digest_l33 (T : TT) : Nat → Int64 → Int32 → Option (Int64)
  | 0 => fun _ _ => none
  | n + 1 => fun x1 x3 => m_X11_digest_h33 T (m_X11_digest_l33 T n) x1 x3
def m_X11_digest_h6 (T : TT) (rec6 : Int64 → Int32 → Option (Int64)) (x1 : Int64) (x3 : Int32) : Option (Int64) := if (8 : Int32) ≤ x3 then (m_X11_digest_l33 T FU x1 (0 : Int32)) else ((m_X11_counted T x3).bind (fun z1 => bT (((31 : Int64) * x1) + (z1.toInt64)) (fun y2 => bT (x3 + (1 : Int32)) (fun y3 => rec6 y2 y3))))
def m_X11_digest_l6 (T : TT) : Nat → Int64 → Int32 → Option (Int64)
  | 0 => fun _ _ => none
  | n + 1 => fun x1 x3 => m_X11_digest_h6 T (m_X11_digest_l6 T n) x1 x3
def m_X11_digest (T : TT) : Option (Int64) := m_X11_digest_l6 T FU (1433 : Int64) (0 : Int32)
set_option maxHeartbeats 4000000 in
set_option maxRecDepth 100000 in
theorem k_X11_digest_h33 {B : KB} {X : KE} {T : TT} {rec33 : Int64 → Int32 → Option (Int64)} {res : Int64} (C : Cx B X "GriefEngineModel" cX11_digest 4 4) (E : Cr B X (some .long) (some (.long res)) T) (hrec33 : ∀ (x1 : Int64) (x3 : Int32), rec33 x1 x3 = some res → Wk B X 4 T 33 [(0, .ref (B.1 10 0)), (1, .long x1), (3, .int x3)] []) (x1 : Int64) (x3 : Int32) (h : m_X11_digest_h33 T rec33 x1 x3 = some res) : Wk B X 4 T 33 [(0, .ref (B.1 10 0)), (1, .long x1), (3, .int x3)] [] := by
  unfold m_X11_digest_h33 at h
  refine k_iload_n (pc := 33) C dX11_digest_33 2 rfl ?_
  refine k_aload_n (pc := 34) C dX11_digest_34 0 rfl ?_
  obtain ⟨z5, e5, h⟩ := bnd h
  refine k_callvI (pc := 35) C lk_X11_49 (by decide) ix_X11 wo_X11 rfl rfl (kc_X11_many e5) dX11_digest_35 rfl rfl (Nat.le_of_ble_eq_true rfl) ?_
  refine k_icmp_ge (pc := 38) C 89 dX11_digest_38 (by decide) h (fun c11 h => ?_) (fun c11 h => ?_)
  · refine k_aload_n (pc := 89) C dX11_digest_89 0 rfl ?_
    refine k_lload_n (pc := 90) C dX11_digest_90 1 rfl ?_
    refine k_bipush (pc := 91) (v := (23 : Int32)) C dX11_digest_91 cbipush_23 ?_
    refine k_bipush (pc := 93) (v := (6 : Int32)) C dX11_digest_93 cbipush_6 ?_
    refine k_aload_n (pc := 95) C dX11_digest_95 0 rfl ?_
    refine gf_X11_7 (pc := 96) C dX11_digest_96 ?_
    refine k_iconst (pc := 99) (v := (1 : Int32)) C dX11_digest_99 ciconst_1 ?_
    refine k_ialdc (pc := 100) C ia_10_1 1 dX11_digest_100 (by decide) (by decide) ?_
    refine k_imul (pc := 101) C dX11_digest_101 ?_
    obtain ⟨z6, e6, h⟩ := bnd h
    refine k_callvJ (pc := 102) C lk_X11_269 (by decide) ix_X11 wo_X11 rfl rfl (kc_X11_sums e6) dX11_digest_102 rfl rfl (Nat.le_of_ble_eq_true rfl) ?_
    refine k_lstore_n (pc := 105) C [(1, .long z6), (0, .ref (B.1 10 0)), (3, .int x3)] dX11_digest_105 (by decide) rfl ?_
    refine k_aload_n (pc := 106) C dX11_digest_106 1 rfl ?_
    refine k_lload_n (pc := 107) C dX11_digest_107 0 rfl ?_
    refine k_bipush (pc := 108) (v := (59 : Int32)) C dX11_digest_108 cbipush_59 ?_
    refine k_iconst (pc := 110) (v := (3 : Int32)) C dX11_digest_110 ciconst_3 ?_
    refine k_aload_n (pc := 111) C dX11_digest_111 1 rfl ?_
    refine gf_X11_7 (pc := 112) C dX11_digest_112 ?_
    refine k_iconst (pc := 115) (v := (2 : Int32)) C dX11_digest_115 ciconst_2 ?_
    refine k_ialdc (pc := 116) C ia_10_1 2 dX11_digest_116 (by decide) (by decide) ?_
    refine k_imul (pc := 117) C dX11_digest_117 ?_
    obtain ⟨z7, e7, h⟩ := bnd h
    refine k_callvJ (pc := 118) C lk_X11_269 (by decide) ix_X11 wo_X11 rfl rfl (kc_X11_sums e7) dX11_digest_118 rfl rfl (Nat.le_of_ble_eq_true rfl) ?_
    refine k_lstore_n (pc := 121) C [(1, .long z7), (0, .ref (B.1 10 0)), (3, .int x3)] dX11_digest_121 (by decide) rfl ?_
    refine k_ldc2_w (pc := 122) (v := (31 : Int64)) C dX11_digest_122 tw5_181 ?_
    refine k_ldc2_w (pc := 125) (v := (31 : Int64)) C dX11_digest_125 tw5_181 ?_
    refine k_lload_n (pc := 128) C dX11_digest_128 0 rfl ?_
    refine k_lmul (pc := 129) C dX11_digest_129 ?_
    refine k_aload_n (pc := 130) C dX11_digest_130 1 rfl ?_
    refine gf_X11_181 (pc := 131) C dX11_digest_131 ?_
    refine k_ladd (pc := 134) C dX11_digest_134 ?_
    refine k_lmul (pc := 135) C dX11_digest_135 ?_
    refine k_aload_n (pc := 136) C dX11_digest_136 1 rfl ?_
    refine gf_X11_23 (pc := 137) C dX11_digest_137 ?_
    refine k_ladd (pc := 140) C dX11_digest_140 ?_
    exact k_lret (pc := 141) C E (some_i h) rfl dX11_digest_141
  · refine k_ldc2_w (pc := 41) (v := (31 : Int64)) C dX11_digest_41 tw5_181 ?_
    refine k_ldc2_w (pc := 44) (v := (31 : Int64)) C dX11_digest_44 tw5_181 ?_
    refine k_ldc2_w (pc := 47) (v := (31 : Int64)) C dX11_digest_47 tw5_181 ?_
    refine k_lload_n (pc := 50) C dX11_digest_50 1 rfl ?_
    refine k_lmul (pc := 51) C dX11_digest_51 ?_
    refine k_aload_n (pc := 52) C dX11_digest_52 0 rfl ?_
    refine k_iload_n (pc := 53) C dX11_digest_53 2 rfl ?_
    obtain ⟨z8, e8, h⟩ := bnd h
    refine k_callvI (pc := 54) C lk_X11_124 (by decide) ix_X11 wo_X11 rfl rfl (kc_X11_kindOf e8) dX11_digest_54 rfl rfl (Nat.le_of_ble_eq_true rfl) ?_
    refine k_i2l (pc := 57) C dX11_digest_57 ?_
    refine k_ladd (pc := 58) C dX11_digest_58 ?_
    refine k_lmul (pc := 59) C dX11_digest_59 ?_
    refine k_aload_n (pc := 60) C dX11_digest_60 0 rfl ?_
    refine gf_X11_7 (pc := 61) C dX11_digest_61 ?_
    refine k_iconst (pc := 64) (v := (4 : Int32)) C dX11_digest_64 ciconst_4 ?_
    refine k_iload_n (pc := 65) C dX11_digest_65 2 rfl ?_
    refine k_iadd (pc := 66) C dX11_digest_66 ?_
    refine k_iald (pc := 67) C ia_10_1 dX11_digest_67 h (fun h => ?_)
    refine k_i2l (pc := 68) C dX11_digest_68 ?_
    refine k_ladd (pc := 69) C dX11_digest_69 ?_
    refine k_lmul (pc := 70) C dX11_digest_70 ?_
    refine k_aload_n (pc := 71) C dX11_digest_71 0 rfl ?_
    refine gf_X11_7 (pc := 72) C dX11_digest_72 ?_
    refine k_bipush (pc := 75) (v := (10 : Int32)) C dX11_digest_75 cbipush_10 ?_
    refine k_iload_n (pc := 77) C dX11_digest_77 2 rfl ?_
    refine k_iadd (pc := 78) C dX11_digest_78 ?_
    refine k_iald (pc := 79) C ia_10_1 dX11_digest_79 h (fun h => ?_)
    refine k_i2l (pc := 80) C dX11_digest_80 ?_
    refine k_ladd (pc := 81) C dX11_digest_81 ?_
    refine k_nL h (fun y9 h => ?_)
    refine k_lstore_n (pc := 82) C [(1, .long y9), (0, .ref (B.1 10 0)), (3, .int x3)] dX11_digest_82 (by decide) rfl ?_
    refine k_iincN (pc := 83) (x := x3) (c := (1 : Int32)) C (fun y10 => [(3, .int y10), (1, .long y9), (0, .ref (B.1 10 0))]) dX11_digest_83 2 rfl ciconst_1 (by decide) (fun _ => rfl) h (fun y10 h => ?_)
    refine k_goto (pc := 86) C 33 dX11_digest_86 (by decide) ?_
    refine k_sub [2, 1, 0] rfl ?_
    exact hrec33 y9 y10 h
set_option maxHeartbeats 4000000 in
set_option maxRecDepth 100000 in
theorem k_X11_digest_l33 {B : KB} {X : KE} {T : TT} {res : Int64} (C : Cx B X "GriefEngineModel" cX11_digest 4 4) (E : Cr B X (some .long) (some (.long res)) T) : ∀ (n : Nat) (x1 : Int64) (x3 : Int32) (h : m_X11_digest_l33 T n x1 x3 = some res), Wk B X 4 T 33 [(0, .ref (B.1 10 0)), (1, .long x1), (3, .int x3)] [] := by
  intro n
  induction n with
  | zero =>
    intro x1 x3 h
    exact no_some h
  | succ n ih =>
    intro x1 x3 h
    exact k_X11_digest_h33 C E (fun x1 x3 h => ih x1 x3 h) x1 x3 h
set_option maxHeartbeats 4000000 in
set_option maxRecDepth 100000 in
theorem k_X11_digest_h6 {B : KB} {X : KE} {T : TT} {rec6 : Int64 → Int32 → Option (Int64)} {res : Int64} (C : Cx B X "GriefEngineModel" cX11_digest 4 4) (E : Cr B X (some .long) (some (.long res)) T) (hrec6 : ∀ (x1 : Int64) (x3 : Int32), rec6 x1 x3 = some res → Wk B X 4 T 6 [(0, .ref (B.1 10 0)), (1, .long x1), (3, .int x3)] []) (x1 : Int64) (x3 : Int32) (h : m_X11_digest_h6 T rec6 x1 x3 = some res) : Wk B X 4 T 6 [(0, .ref (B.1 10 0)), (1, .long x1), (3, .int x3)] [] := by
  unfold m_X11_digest_h6 at h
  refine k_iload_n (pc := 6) C dX11_digest_6 2 rfl ?_
  refine k_bipush (pc := 7) (v := (8 : Int32)) C dX11_digest_7 cbipush_8 ?_
  refine k_icmp_ge (pc := 9) C 31 dX11_digest_9 (by decide) h (fun c4 h => ?_) (fun c4 h => ?_)
  · refine k_iconst (pc := 31) (v := (0 : Int32)) C dX11_digest_31 ciconst_0 ?_
    refine k_istore_n (pc := 32) C [(3, .int (0 : Int32)), (0, .ref (B.1 10 0)), (1, .long x1)] dX11_digest_32 (by decide) rfl ?_
    refine k_sub [1, 2, 0] rfl ?_
    exact k_X11_digest_l33 C E FU x1 (0 : Int32) h
  · refine k_ldc2_w (pc := 12) (v := (31 : Int64)) C dX11_digest_12 tw5_181 ?_
    refine k_lload_n (pc := 15) C dX11_digest_15 1 rfl ?_
    refine k_lmul (pc := 16) C dX11_digest_16 ?_
    refine k_aload_n (pc := 17) C dX11_digest_17 0 rfl ?_
    refine k_iload_n (pc := 18) C dX11_digest_18 2 rfl ?_
    obtain ⟨z1, e1, h⟩ := bnd h
    refine k_callvI (pc := 19) C lk_X11_262 (by decide) ix_X11 wo_X11 rfl rfl (kc_X11_counted e1) dX11_digest_19 rfl rfl (Nat.le_of_ble_eq_true rfl) ?_
    refine k_i2l (pc := 22) C dX11_digest_22 ?_
    refine k_ladd (pc := 23) C dX11_digest_23 ?_
    refine k_nL h (fun y2 h => ?_)
    refine k_lstore_n (pc := 24) C [(1, .long y2), (0, .ref (B.1 10 0)), (3, .int x3)] dX11_digest_24 (by decide) rfl ?_
    refine k_iincN (pc := 25) (x := x3) (c := (1 : Int32)) C (fun y3 => [(3, .int y3), (1, .long y2), (0, .ref (B.1 10 0))]) dX11_digest_25 2 rfl ciconst_1 (by decide) (fun _ => rfl) h (fun y3 h => ?_)
    refine k_goto (pc := 28) C 6 dX11_digest_28 (by decide) ?_
    refine k_sub [2, 1, 0] rfl ?_
    exact hrec6 y2 y3 h
set_option maxHeartbeats 4000000 in
set_option maxRecDepth 100000 in
theorem k_X11_digest_l6 {B : KB} {X : KE} {T : TT} {res : Int64} (C : Cx B X "GriefEngineModel" cX11_digest 4 4) (E : Cr B X (some .long) (some (.long res)) T) : ∀ (n : Nat) (x1 : Int64) (x3 : Int32) (h : m_X11_digest_l6 T n x1 x3 = some res), Wk B X 4 T 6 [(0, .ref (B.1 10 0)), (1, .long x1), (3, .int x3)] [] := by
  intro n
  induction n with
  | zero =>
    intro x1 x3 h
    exact no_some h
  | succ n ih =>
    intro x1 x3 h
    exact k_X11_digest_h6 C E (fun x1 x3 h => ih x1 x3 h) x1 x3 h
set_option maxHeartbeats 4000000 in
set_option maxRecDepth 100000 in
theorem kc_X11_digest {B : KB} {l : Launch} {T : TT} {res : Int64} (h : m_X11_digest T = some res) : Kt B l 4 yX11_digest cX11_digest 4 (some .long) T [.ref (B.1 10 0)] (some (.long res)) T := by
  refine Kt.of (by decide) (Nat.le_of_ble_eq_true rfl) (fun X hX C E => ?_)
  subst hX
  have C : Cx B X "GriefEngineModel" cX11_digest 4 4 := C
  show Wk B X 4 T 0 [(0, .ref (B.1 10 0))] []
  unfold m_X11_digest at h
  refine k_ldc2_w (pc := 0) (v := (1433 : Int64)) C dX11_digest_0 tw5_180 ?_
  refine k_lstore_n (pc := 3) C [(1, .long (1433 : Int64)), (0, .ref (B.1 10 0))] dX11_digest_3 (by decide) rfl ?_
  refine k_iconst (pc := 4) (v := (0 : Int32)) C dX11_digest_4 ciconst_0 ?_
  refine k_istore_n (pc := 5) C [(3, .int (0 : Int32)), (1, .long (1433 : Int64)), (0, .ref (B.1 10 0))] dX11_digest_5 (by decide) rfl ?_
  refine k_sub [2, 1, 0] rfl ?_
  exact k_X11_digest_l6 C E FU (1433 : Int64) (0 : Int32) h
