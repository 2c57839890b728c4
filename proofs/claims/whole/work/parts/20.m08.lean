def m_X11_rank (T : TT) : Option (Int32 × TT) := (m_X11_many T).bind (fun z1 => (m_X11_begin T 10 1 175).bind (fun z2 => some (z1, z2)))
set_option maxHeartbeats 4000000 in
set_option maxRecDepth 100000 in
theorem kc_X11_rank {B : KB} {l : Launch} {T : TT} {res : Int32 × TT} (h : m_X11_rank T = some res) : Kt B l 2 yX11_rank cX11_rank 2 (some .int) T [.ref (B.1 10 0)] (some (.int res.1)) res.2 := by
  refine Kt.of (by decide) (Nat.le_of_ble_eq_true rfl) (fun X hX C E => ?_)
  subst hX
  have C : Cx B X "GriefEngineModel" cX11_rank 2 2 := C
  show Wk B X 2 T 0 [(0, .ref (B.1 10 0))] []
  unfold m_X11_rank at h
  refine k_aload_n (pc := 0) C dX11_rank_0 0 rfl ?_
  obtain ⟨z1, e1, h⟩ := bnd h
  refine k_callvI (pc := 1) C lk_X11_49 (by decide) ix_X11 wo_X11 rfl rfl (kc_X11_many e1) dX11_rank_1 rfl rfl (Nat.le_of_ble_eq_true rfl) ?_
  refine k_istore_n (pc := 4) C [(1, .int z1), (0, .ref (B.1 10 0))] dX11_rank_4 (by decide) rfl ?_
  refine k_aload_n (pc := 5) C dX11_rank_5 1 rfl ?_
  refine gf_X11_7 (pc := 6) C dX11_rank_6 ?_
  obtain ⟨z2, e2, h⟩ := bnd h
  refine k_callsV (pc := 9) C lk_X11_45 (by decide) (kc_X11_begin ia_10_1 e2) dX11_rank_9 rfl rfl (Nat.le_of_ble_eq_true rfl) ?_
  refine k_iload_n (pc := 12) C dX11_rank_12 0 rfl ?_
  exact k_iret (pc := 13) C E (some_1 h) (some_2 h) dX11_rank_13
def m_X11_layDriver (T : TT) (ag af an : Nat) (x1 : Int32) (x2 : Int32) : Option (TT) := if inb (0 : Int32) an then (bT (T.1 ag af (Int32.toNatClampNeg (0 : Int32))) (fun y1 => if inb ((17 : Int32) + y1) an then bT (sA T ag af (Int32.toNatClampNeg ((17 : Int32) + y1)) x1) (fun T2 => if inb ((4 : Int32) + y1) an then bT (sA T2 ag af (Int32.toNatClampNeg ((4 : Int32) + y1)) x2) (fun T3 => if inb ((10 : Int32) + y1) an then bT (sA T3 ag af (Int32.toNatClampNeg ((10 : Int32) + y1)) (0 : Int32)) (fun T4 => if inb (0 : Int32) an then (if inb (0 : Int32) an then bT (sA T4 ag af (Int32.toNatClampNeg (0 : Int32)) ((T4.1 ag af (Int32.toNatClampNeg (0 : Int32))) + (1 : Int32))) (fun T5 => some T5) else none) else none) else none) else none) else none)) else none
set_option maxHeartbeats 4000000 in
set_option maxRecDepth 100000 in
theorem kc_X11_layDriver {B : KB} {l : Launch} {T : TT} {ag af an : Nat} {x1 : Int32} {x2 : Int32} {res : TT} (hI : isI B ag af an) (h : m_X11_layDriver T ag af an x1 x2 = some res) : Kt B l 1 yX11_layDriver cX11_layDriver 4 none T [.ref (B.1 ag af), .int x1, .int x2] none res := by
  refine Kt.of (by decide) (Nat.le_of_ble_eq_true rfl) (fun X hX C E => ?_)
  subst hX
  have C : Cx B X "GriefEngineModel" cX11_layDriver 4 1 := C
  show Wk B X 4 T 0 [(0, .ref (B.1 ag af)), (1, .int x1), (2, .int x2)] []
  unfold m_X11_layDriver at h
  refine k_aload_n (pc := 0) C dX11_layDriver_0 0 rfl ?_
  refine k_iconst (pc := 1) (v := (0 : Int32)) C dX11_layDriver_1 ciconst_0 ?_
  refine k_iald (pc := 2) C hI dX11_layDriver_2 h (fun h => ?_)
  refine k_nI h (fun y1 h => ?_)
  refine k_istore_n (pc := 3) C [(3, .int y1), (0, .ref (B.1 ag af)), (1, .int x1), (2, .int x2)] dX11_layDriver_3 (by decide) rfl ?_
  refine k_aload_n (pc := 4) C dX11_layDriver_4 1 rfl ?_
  refine k_bipush (pc := 5) (v := (17 : Int32)) C dX11_layDriver_5 cbipush_17 ?_
  refine k_iload_n (pc := 7) C dX11_layDriver_7 0 rfl ?_
  refine k_iadd (pc := 8) C dX11_layDriver_8 ?_
  refine k_iload_n (pc := 9) C dX11_layDriver_9 2 rfl ?_
  refine k_iast (pc := 10) C hI dX11_layDriver_10 h (fun h => ?_)
  refine k_nT h (fun T2 h => ?_)
  refine k_aload_n (pc := 11) C dX11_layDriver_11 1 rfl ?_
  refine k_iconst (pc := 12) (v := (4 : Int32)) C dX11_layDriver_12 ciconst_4 ?_
  refine k_iload_n (pc := 13) C dX11_layDriver_13 0 rfl ?_
  refine k_iadd (pc := 14) C dX11_layDriver_14 ?_
  refine k_iload_n (pc := 15) C dX11_layDriver_15 3 rfl ?_
  refine k_iast (pc := 16) C hI dX11_layDriver_16 h (fun h => ?_)
  refine k_nT h (fun T3 h => ?_)
  refine k_aload_n (pc := 17) C dX11_layDriver_17 1 rfl ?_
  refine k_bipush (pc := 18) (v := (10 : Int32)) C dX11_layDriver_18 cbipush_10 ?_
  refine k_iload_n (pc := 20) C dX11_layDriver_20 0 rfl ?_
  refine k_iadd (pc := 21) C dX11_layDriver_21 ?_
  refine k_iconst (pc := 22) (v := (0 : Int32)) C dX11_layDriver_22 ciconst_0 ?_
  refine k_iast (pc := 23) C hI dX11_layDriver_23 h (fun h => ?_)
  refine k_nT h (fun T4 h => ?_)
  refine k_aload_n (pc := 24) C dX11_layDriver_24 1 rfl ?_
  refine k_iconst (pc := 25) (v := (0 : Int32)) C dX11_layDriver_25 ciconst_0 ?_
  refine k_dup2 (pc := 26) C dX11_layDriver_26 rfl rfl ?_
  refine k_iald (pc := 27) C hI dX11_layDriver_27 h (fun h => ?_)
  refine k_iconst (pc := 28) (v := (1 : Int32)) C dX11_layDriver_28 ciconst_1 ?_
  refine k_iadd (pc := 29) C dX11_layDriver_29 ?_
  refine k_iast (pc := 30) C hI dX11_layDriver_30 h (fun h => ?_)
  refine k_nT h (fun T5 h => ?_)
  exact k_vret (pc := 31) C E (some_i h) dX11_layDriver_31
def m_X11_driver_b24 (T : TT) : Option (Int32 × TT) := (m_X11_bad T (-2 : Int32)).bind (fun z11 => some (z11.1, z11.2))
def m_X11_driver (T : TT) (x1 : Int32) (x2 : Int32) : Option (Int32 × TT) := (m_X11_in (x1.toInt64) (0 : Int64) (5 : Int64)).bind (fun z1 => if z1 = 0 then (m_X11_driver_b24 T) else ((m_X11_in (x2.toInt64) (0 : Int64) (99 : Int64)).bind (fun z2 => if z2 = 0 then (m_X11_driver_b24 T) else ((m_X11_many T).bind (fun z3 => if z3 = (6 : Int32) then ((m_X11_full T).bind (fun z7 => some (z7.1, z7.2))) else ((m_X11_layDriver T 10 1 175 x1 x2).bind (fun z4 => bT (sA z4 10 1 3 (0 : Int32)) (fun T5 => (m_X11_many T5).bind (fun z6 => some ((z6 - (1 : Int32)), T5))))))))))
set_option maxHeartbeats 4000000 in
set_option maxRecDepth 100000 in
theorem k_X11_driver_b24 {B : KB} {X : KE} {res : Int32 × TT} (C : Cx B X "GriefEngineModel" cX11_driver 3 2) (E : Cr B X (some .int) (some (.int res.1)) res.2) (T : TT) (h : m_X11_driver_b24 T = some res) : Wk B X 3 T 24 [(0, .ref (B.1 10 0))] [] := by
  unfold m_X11_driver_b24 at h
  refine k_aload_n (pc := 24) C dX11_driver_24 0 rfl ?_
  refine k_bipush (pc := 25) (v := (-2 : Int32)) C dX11_driver_25 cbipush_m2 ?_
  obtain ⟨z11, e11, h⟩ := bnd h
  refine k_callvI (pc := 27) C lk_X11_63 (by decide) ix_X11 wo_X11 rfl rfl (kc_X11_bad e11) dX11_driver_27 rfl rfl (Nat.le_of_ble_eq_true rfl) ?_
  exact k_iret (pc := 30) C E (some_1 h) (some_2 h) dX11_driver_30
set_option maxHeartbeats 4000000 in
set_option maxRecDepth 100000 in
theorem kc_X11_driver {B : KB} {l : Launch} {T : TT} {x1 : Int32} {x2 : Int32} {res : Int32 × TT} (h : m_X11_driver T x1 x2 = some res) : Kt B l 2 yX11_driver cX11_driver 3 (some .int) T [.ref (B.1 10 0), .int x1, .int x2] (some (.int res.1)) res.2 := by
  refine Kt.of (by decide) (Nat.le_of_ble_eq_true rfl) (fun X hX C E => ?_)
  subst hX
  have C : Cx B X "GriefEngineModel" cX11_driver 3 2 := C
  show Wk B X 3 T 0 [(0, .ref (B.1 10 0)), (1, .int x1), (2, .int x2)] []
  unfold m_X11_driver at h
  refine k_iload_n (pc := 0) C dX11_driver_0 1 rfl ?_
  refine k_i2l (pc := 1) C dX11_driver_1 ?_
  refine k_lconst (pc := 2) (v := (0 : Int64)) C dX11_driver_2 (by decide) ?_
  refine k_ldc2_w (pc := 3) (v := (5 : Int64)) C dX11_driver_3 tw4_134 ?_
  obtain ⟨z1, e1, h⟩ := bnd h
  refine k_callsI (pc := 6) C lk_X11_53 (by decide) (kc_X11_in e1) dX11_driver_6 rfl rfl (Nat.le_of_ble_eq_true rfl) ?_
  refine k_if_eq (pc := 9) C 24 dX11_driver_9 (by decide) h (fun c10 h => ?_) (fun c10 h => ?_)
  · refine k_sub [0] rfl ?_
    exact k_X11_driver_b24 C E T h
  · refine k_iload_n (pc := 12) C dX11_driver_12 2 rfl ?_
    refine k_i2l (pc := 13) C dX11_driver_13 ?_
    refine k_lconst (pc := 14) (v := (0 : Int64)) C dX11_driver_14 (by decide) ?_
    refine k_ldc2_w (pc := 15) (v := (99 : Int64)) C dX11_driver_15 tw4_138 ?_
    obtain ⟨z2, e2, h⟩ := bnd h
    refine k_callsI (pc := 18) C lk_X11_53 (by decide) (kc_X11_in e2) dX11_driver_18 rfl rfl (Nat.le_of_ble_eq_true rfl) ?_
    refine k_if_ne (pc := 21) C 31 dX11_driver_21 (by decide) h (fun c9 h => ?_) (fun c9 h => ?_)
    · refine k_aload_n (pc := 31) C dX11_driver_31 0 rfl ?_
      obtain ⟨z3, e3, h⟩ := bnd h
      refine k_callvI (pc := 32) C lk_X11_49 (by decide) ix_X11 wo_X11 rfl rfl (kc_X11_many e3) dX11_driver_32 rfl rfl (Nat.le_of_ble_eq_true rfl) ?_
      refine k_bipush (pc := 35) (v := (6 : Int32)) C dX11_driver_35 cbipush_6 ?_
      refine k_icmp_ne (pc := 37) C 45 dX11_driver_37 (by decide) h (fun c8 h => ?_) (fun c8 h => ?_)
      · refine k_aload_n (pc := 45) C dX11_driver_45 0 rfl ?_
        refine gf_X11_7 (pc := 46) C dX11_driver_46 ?_
        refine k_iload_n (pc := 49) C dX11_driver_49 1 rfl ?_
        refine k_iload_n (pc := 50) C dX11_driver_50 2 rfl ?_
        obtain ⟨z4, e4, h⟩ := bnd h
        refine k_callsV (pc := 51) C lk_X11_70 (by decide) (kc_X11_layDriver ia_10_1 e4) dX11_driver_51 rfl rfl (Nat.le_of_ble_eq_true rfl) ?_
        refine k_aload_n (pc := 54) C dX11_driver_54 0 rfl ?_
        refine gf_X11_7 (pc := 55) C dX11_driver_55 ?_
        refine k_iconst (pc := 58) (v := (3 : Int32)) C dX11_driver_58 ciconst_3 ?_
        refine k_iconst (pc := 59) (v := (0 : Int32)) C dX11_driver_59 ciconst_0 ?_
        refine k_iastc (pc := 60) C ia_10_1 3 dX11_driver_60 (by decide) (by decide) ?_
        refine k_nT h (fun T5 h => ?_)
        refine k_aload_n (pc := 61) C dX11_driver_61 0 rfl ?_
        obtain ⟨z6, e6, h⟩ := bnd h
        refine k_callvI (pc := 62) C lk_X11_49 (by decide) ix_X11 wo_X11 rfl rfl (kc_X11_many e6) dX11_driver_62 rfl rfl (Nat.le_of_ble_eq_true rfl) ?_
        refine k_iconst (pc := 65) (v := (1 : Int32)) C dX11_driver_65 ciconst_1 ?_
        refine k_isub (pc := 66) C dX11_driver_66 ?_
        exact k_iret (pc := 67) C E (some_1 h) (some_2 h) dX11_driver_67
      · refine k_aload_n (pc := 40) C dX11_driver_40 0 rfl ?_
        obtain ⟨z7, e7, h⟩ := bnd h
        refine k_callvI (pc := 41) C lk_X11_67 (by decide) ix_X11 wo_X11 rfl rfl (kc_X11_full e7) dX11_driver_41 rfl rfl (Nat.le_of_ble_eq_true rfl) ?_
        exact k_iret (pc := 44) C E (some_1 h) (some_2 h) dX11_driver_44
    · refine k_sub [0] rfl ?_
      exact k_X11_driver_b24 C E T h
def m_X11_seasonOf (x0 : Int32) : Option (Int32) := some ((x0 / (20 : Int32)) - (x0 / (20 : Int32)) / (4 : Int32) * (4 : Int32))
set_option maxHeartbeats 4000000 in
set_option maxRecDepth 100000 in
theorem kc_X11_seasonOf {B : KB} {l : Launch} {T : TT} {x0 : Int32} {res : Int32} (h : m_X11_seasonOf x0 = some res) : Kt B l 1 yX11_seasonOf cX11_seasonOf 1 (some .int) T [.int x0] (some (.int res)) T := by
  refine Kt.of (by decide) (Nat.le_of_ble_eq_true rfl) (fun X hX C E => ?_)
  subst hX
  have C : Cx B X "GriefEngineModel" cX11_seasonOf 1 1 := C
  show Wk B X 1 T 0 [(0, .int x0)] []
  unfold m_X11_seasonOf at h
  refine k_iload_n (pc := 0) C dX11_seasonOf_0 0 rfl ?_
  refine k_bipush (pc := 1) (v := (20 : Int32)) C dX11_seasonOf_1 cbipush_20 ?_
  refine k_idivc (pc := 3) C dX11_seasonOf_3 (by decide) ?_
  refine k_iconst (pc := 4) (v := (4 : Int32)) C dX11_seasonOf_4 ciconst_4 ?_
  refine k_iremc (pc := 5) C dX11_seasonOf_5 (by decide) ?_
  exact k_iret (pc := 6) C E (some_i h) rfl dX11_seasonOf_6
def m_X11_runsAs_b22 (x0 : Int32) (x3 : Int32) (s0 : Int32) : Option (Int32) := if x0 = (2 : Int32) then (some (x3 / (3 : Int32))) else (if x0 = (3 : Int32) then (some s0) else (if x0 = (4 : Int32) then (some x3) else (if x0 = (5 : Int32) then (if s0 ≤ (30 : Int32) then (some s0) else (some (30 : Int32))) else (some x3))))
def m_X11_runsAs_b11 (x0 : Int32) (x2 : Int32) (s0 : Int32) : Option (Int32) := if x2 = (1 : Int32) then (m_X11_runsAs_b22 x0 s0 (0 : Int32)) else (m_X11_runsAs_b22 x0 s0 s0)
def m_X11_runsAs (x0 : Int32) (x1 : Int32) (x2 : Int32) : Option (Int32) := if x2 = 0 then (m_X11_runsAs_b11 x0 x2 x1) else (m_X11_runsAs_b11 x0 x2 ((2 : Int32) * x1))
set_option maxHeartbeats 4000000 in
set_option maxRecDepth 100000 in
theorem k_X11_runsAs_b22 {B : KB} {X : KE} {T0 : TT} {res : Int32} (C : Cx B X "GriefEngineModel" cX11_runsAs 5 1) (E : Cr B X (some .int) (some (.int res)) T0) (x0 : Int32) (x3 : Int32) (s0 : Int32) (h : m_X11_runsAs_b22 x0 x3 s0 = some res) : Wk B X 5 T0 22 [(0, .int x0), (3, .int x3)] [.int s0] := by
  unfold m_X11_runsAs_b22 at h
  refine k_istore (pc := 22) C [(4, .int s0), (0, .int x0), (3, .int x3)] dX11_runsAs_22 (by decide) rfl ?_
  refine k_iload_n (pc := 24) C dX11_runsAs_24 1 rfl ?_
  by_cases c3 : x0 = (2 : Int32)
  · rw [if_pos c3] at h
    refine k_tabIn (pc := 25) C 56 (2 : Int32) dX11_runsAs_25 c3 (by decide) (by decide) rfl (by decide) ?_
    refine k_iload_n (pc := 56) C dX11_runsAs_56 2 rfl ?_
    refine k_iconst (pc := 57) (v := (3 : Int32)) C dX11_runsAs_57 ciconst_3 ?_
    refine k_idivc (pc := 58) C dX11_runsAs_58 (by decide) ?_
    exact k_iret (pc := 59) C E (some_i h) rfl dX11_runsAs_59
  · rw [if_neg c3] at h
    by_cases c4 : x0 = (3 : Int32)
    · rw [if_pos c4] at h
      refine k_tabIn (pc := 25) C 60 (3 : Int32) dX11_runsAs_25 c4 (by decide) (by decide) rfl (by decide) ?_
      refine k_iload (pc := 60) C dX11_runsAs_60 0 rfl ?_
      exact k_iret (pc := 62) C E (some_i h) rfl dX11_runsAs_62
    · rw [if_neg c4] at h
      by_cases c5 : x0 = (4 : Int32)
      · rw [if_pos c5] at h
        refine k_tabIn (pc := 25) C 78 (4 : Int32) dX11_runsAs_25 c5 (by decide) (by decide) rfl (by decide) ?_
        refine k_iload_n (pc := 78) C dX11_runsAs_78 2 rfl ?_
        exact k_iret (pc := 79) C E (some_i h) rfl dX11_runsAs_79
      · rw [if_neg c5] at h
        by_cases c6 : x0 = (5 : Int32)
        · rw [if_pos c6] at h
          refine k_tabIn (pc := 25) C 63 (5 : Int32) dX11_runsAs_25 c6 (by decide) (by decide) rfl (by decide) ?_
          refine k_iload (pc := 63) C dX11_runsAs_63 0 rfl ?_
          refine k_bipush (pc := 65) (v := (30 : Int32)) C dX11_runsAs_65 cbipush_30 ?_
          refine k_icmp_le (pc := 67) C 75 dX11_runsAs_67 (by decide) h (fun c7 h => ?_) (fun c7 h => ?_)
          · refine k_iload (pc := 75) C dX11_runsAs_75 0 rfl ?_
            exact k_iret (pc := 77) C E (some_i h) rfl dX11_runsAs_77
          · refine k_bipush (pc := 70) (v := (30 : Int32)) C dX11_runsAs_70 cbipush_30 ?_
            refine k_goto (pc := 72) C 77 dX11_runsAs_72 (by decide) ?_
            exact k_iret (pc := 77) C E (some_i h) rfl dX11_runsAs_77
        · rw [if_neg c6] at h
          have n3 : x0.toInt ≠ 2 := ne_toInt c3
          have n4 : x0.toInt ≠ 3 := ne_toInt c4
          have n5 : x0.toInt ≠ 4 := ne_toInt c5
          have n6 : x0.toInt ≠ 5 := ne_toInt c6
          refine k_tabOut (pc := 25) C 78 dX11_runsAs_25 (by omega) (by decide) ?_
          refine k_iload_n (pc := 78) C dX11_runsAs_78 2 rfl ?_
          exact k_iret (pc := 79) C E (some_i h) rfl dX11_runsAs_79
set_option maxHeartbeats 4000000 in
set_option maxRecDepth 100000 in
theorem k_X11_runsAs_b11 {B : KB} {X : KE} {T0 : TT} {res : Int32} (C : Cx B X "GriefEngineModel" cX11_runsAs 5 1) (E : Cr B X (some .int) (some (.int res)) T0) (x0 : Int32) (x2 : Int32) (s0 : Int32) (h : m_X11_runsAs_b11 x0 x2 s0 = some res) : Wk B X 5 T0 11 [(0, .int x0), (2, .int x2)] [.int s0] := by
  unfold m_X11_runsAs_b11 at h
  refine k_istore_n (pc := 11) C [(3, .int s0), (0, .int x0), (2, .int x2)] dX11_runsAs_11 (by decide) rfl ?_
  refine k_iload_n (pc := 12) C dX11_runsAs_12 2 rfl ?_
  refine k_iconst (pc := 13) (v := (1 : Int32)) C dX11_runsAs_13 ciconst_1 ?_
  refine k_icmp_ne (pc := 14) C 21 dX11_runsAs_14 (by decide) h (fun c2 h => ?_) (fun c2 h => ?_)
  · refine k_iload_n (pc := 21) C dX11_runsAs_21 0 rfl ?_
    refine k_sub [1, 0] rfl ?_
    exact k_X11_runsAs_b22 C E x0 s0 s0 h
  · refine k_iconst (pc := 17) (v := (0 : Int32)) C dX11_runsAs_17 ciconst_0 ?_
    refine k_goto (pc := 18) C 22 dX11_runsAs_18 (by decide) ?_
    refine k_sub [1, 0] rfl ?_
    exact k_X11_runsAs_b22 C E x0 s0 (0 : Int32) h
set_option maxHeartbeats 4000000 in
set_option maxRecDepth 100000 in
theorem kc_X11_runsAs {B : KB} {l : Launch} {T : TT} {x0 : Int32} {x1 : Int32} {x2 : Int32} {res : Int32} (h : m_X11_runsAs x0 x1 x2 = some res) : Kt B l 1 yX11_runsAs cX11_runsAs 5 (some .int) T [.int x0, .int x1, .int x2] (some (.int res)) T := by
  refine Kt.of (by decide) (Nat.le_of_ble_eq_true rfl) (fun X hX C E => ?_)
  subst hX
  have C : Cx B X "GriefEngineModel" cX11_runsAs 5 1 := C
  show Wk B X 5 T 0 [(0, .int x0), (1, .int x1), (2, .int x2)] []
  unfold m_X11_runsAs at h
  refine k_iload_n (pc := 0) C dX11_runsAs_0 2 rfl ?_
  refine k_if_ne (pc := 1) C 8 dX11_runsAs_1 (by decide) h (fun c1 h => ?_) (fun c1 h => ?_)
  · refine k_iconst (pc := 8) (v := (2 : Int32)) C dX11_runsAs_8 ciconst_2 ?_
    refine k_iload_n (pc := 9) C dX11_runsAs_9 1 rfl ?_
    refine k_imul (pc := 10) C dX11_runsAs_10 ?_
    refine k_sub [0, 2] rfl ?_
    exact k_X11_runsAs_b11 C E x0 x2 ((2 : Int32) * x1) h
  · refine k_iload_n (pc := 4) C dX11_runsAs_4 1 rfl ?_
    refine k_goto (pc := 5) C 11 dX11_runsAs_5 (by decide) ?_
    refine k_sub [0, 2] rfl ?_
    exact k_X11_runsAs_b11 C E x0 x2 x1 h
def m_X11_droveAs_b34 (x3 : Int32) : Option (Int32) := some x3
def m_X11_droveAs_b23 (x0 : Int32) (x2 : Int32) (s0 : Int32) : Option (Int32) := if x0 = (1 : Int32) then (m_X11_droveAs_b34 s0) else (if x0 = (4 : Int32) then (m_X11_droveAs_b34 s0) else (some x2))
def m_X11_droveAs (x0 : Int32) (x1 : Int32) : Option (Int32) := bT ((x1 - (1 : Int32)) - (x1 / (10 : Int32))) (fun y1 => if x1 ≤ (y1 + (1 : Int32)) then (m_X11_droveAs_b23 x0 y1 x1) else (m_X11_droveAs_b23 x0 y1 (y1 + (1 : Int32))))
set_option maxHeartbeats 4000000 in
set_option maxRecDepth 100000 in
theorem k_X11_droveAs_b34 {B : KB} {X : KE} {T0 : TT} {res : Int32} (C : Cx B X "GriefEngineModel" cX11_droveAs 4 1) (E : Cr B X (some .int) (some (.int res)) T0) (x3 : Int32) (h : m_X11_droveAs_b34 x3 = some res) : Wk B X 4 T0 34 [(3, .int x3)] [] := by
  unfold m_X11_droveAs_b34 at h
  refine k_iload_n (pc := 34) C dX11_droveAs_34 0 rfl ?_
  refine k_goto (pc := 35) C 39 dX11_droveAs_35 (by decide) ?_
  exact k_iret (pc := 39) C E (some_i h) rfl dX11_droveAs_39
set_option maxHeartbeats 4000000 in
set_option maxRecDepth 100000 in
theorem k_X11_droveAs_b23 {B : KB} {X : KE} {T0 : TT} {res : Int32} (C : Cx B X "GriefEngineModel" cX11_droveAs 4 1) (E : Cr B X (some .int) (some (.int res)) T0) (x0 : Int32) (x2 : Int32) (s0 : Int32) (h : m_X11_droveAs_b23 x0 x2 s0 = some res) : Wk B X 4 T0 23 [(0, .int x0), (2, .int x2)] [.int s0] := by
  unfold m_X11_droveAs_b23 at h
  refine k_istore_n (pc := 23) C [(3, .int s0), (0, .int x0), (2, .int x2)] dX11_droveAs_23 (by decide) rfl ?_
  refine k_iload_n (pc := 24) C dX11_droveAs_24 1 rfl ?_
  refine k_iconst (pc := 25) (v := (1 : Int32)) C dX11_droveAs_25 ciconst_1 ?_
  refine k_icmp_eq (pc := 26) C 34 dX11_droveAs_26 (by decide) h (fun c4 h => ?_) (fun c4 h => ?_)
  · refine k_sub [0] rfl ?_
    exact k_X11_droveAs_b34 C E s0 h
  · refine k_iload_n (pc := 29) C dX11_droveAs_29 1 rfl ?_
    refine k_iconst (pc := 30) (v := (4 : Int32)) C dX11_droveAs_30 ciconst_4 ?_
    refine k_icmp_ne (pc := 31) C 38 dX11_droveAs_31 (by decide) h (fun c3 h => ?_) (fun c3 h => ?_)
    · refine k_iload_n (pc := 38) C dX11_droveAs_38 2 rfl ?_
      exact k_iret (pc := 39) C E (some_i h) rfl dX11_droveAs_39
    · refine k_sub [0] rfl ?_
      exact k_X11_droveAs_b34 C E s0 h
set_option maxHeartbeats 4000000 in
set_option maxRecDepth 100000 in
theorem kc_X11_droveAs {B : KB} {l : Launch} {T : TT} {x0 : Int32} {x1 : Int32} {res : Int32} (h : m_X11_droveAs x0 x1 = some res) : Kt B l 1 yX11_droveAs cX11_droveAs 4 (some .int) T [.int x0, .int x1] (some (.int res)) T := by
  refine Kt.of (by decide) (Nat.le_of_ble_eq_true rfl) (fun X hX C E => ?_)
  subst hX
  have C : Cx B X "GriefEngineModel" cX11_droveAs 4 1 := C
  show Wk B X 4 T 0 [(0, .int x0), (1, .int x1)] []
  unfold m_X11_droveAs at h
  refine k_iload_n (pc := 0) C dX11_droveAs_0 1 rfl ?_
  refine k_iconst (pc := 1) (v := (1 : Int32)) C dX11_droveAs_1 ciconst_1 ?_
  refine k_isub (pc := 2) C dX11_droveAs_2 ?_
  refine k_iload_n (pc := 3) C dX11_droveAs_3 1 rfl ?_
  refine k_bipush (pc := 4) (v := (10 : Int32)) C dX11_droveAs_4 cbipush_10 ?_
  refine k_idivc (pc := 6) C dX11_droveAs_6 (by decide) ?_
  refine k_isub (pc := 7) C dX11_droveAs_7 ?_
  refine k_nI h (fun y1 h => ?_)
  refine k_istore_n (pc := 8) C [(2, .int y1), (0, .int x0), (1, .int x1)] dX11_droveAs_8 (by decide) rfl ?_
  refine k_iload_n (pc := 9) C dX11_droveAs_9 0 rfl ?_
  refine k_iconst (pc := 10) (v := (1 : Int32)) C dX11_droveAs_10 ciconst_1 ?_
  refine k_iadd (pc := 11) C dX11_droveAs_11 ?_
  refine k_iload_n (pc := 12) C dX11_droveAs_12 2 rfl ?_
  refine k_icmp_ge (pc := 13) C 22 dX11_droveAs_13 (by decide) h (fun c2 h => ?_) (fun c2 h => ?_)
  · refine k_iload_n (pc := 22) C dX11_droveAs_22 2 rfl ?_
    refine k_sub [1, 0] rfl ?_
    exact k_X11_droveAs_b23 C E x0 y1 x1 h
  · refine k_iload_n (pc := 16) C dX11_droveAs_16 0 rfl ?_
    refine k_iconst (pc := 17) (v := (1 : Int32)) C dX11_droveAs_17 ciconst_1 ?_
    refine k_iadd (pc := 18) C dX11_droveAs_18 ?_
    refine k_goto (pc := 19) C 23 dX11_droveAs_19 (by decide) ?_
    refine k_sub [1, 0] rfl ?_
    exact k_X11_droveAs_b23 C E x0 y1 (y1 + (1 : Int32)) h
def m_X11_toldAs (x0 : Int32) (x1 : Int32) : Option (Int32) := bT (x1 + (4 : Int32)) (fun y1 => if x0 = (2 : Int32) then (some (y1 / (2 : Int32))) else (if x0 = (4 : Int32) then (some (y1 + (4 : Int32))) else (some y1)))
set_option maxHeartbeats 4000000 in
set_option maxRecDepth 100000 in
theorem kc_X11_toldAs {B : KB} {l : Launch} {T : TT} {x0 : Int32} {x1 : Int32} {res : Int32} (h : m_X11_toldAs x0 x1 = some res) : Kt B l 1 yX11_toldAs cX11_toldAs 3 (some .int) T [.int x0, .int x1] (some (.int res)) T := by
  refine Kt.of (by decide) (Nat.le_of_ble_eq_true rfl) (fun X hX C E => ?_)
  subst hX
  have C : Cx B X "GriefEngineModel" cX11_toldAs 3 1 := C
  show Wk B X 3 T 0 [(0, .int x0), (1, .int x1)] []
  unfold m_X11_toldAs at h
  refine k_iload_n (pc := 0) C dX11_toldAs_0 1 rfl ?_
  refine k_iconst (pc := 1) (v := (4 : Int32)) C dX11_toldAs_1 ciconst_4 ?_
  refine k_iadd (pc := 2) C dX11_toldAs_2 ?_
  refine k_nI h (fun y1 h => ?_)
  refine k_istore_n (pc := 3) C [(2, .int y1), (0, .int x0), (1, .int x1)] dX11_toldAs_3 (by decide) rfl ?_
  refine k_iload_n (pc := 4) C dX11_toldAs_4 1 rfl ?_
  refine k_iconst (pc := 5) (v := (2 : Int32)) C dX11_toldAs_5 ciconst_2 ?_
  refine k_icmp_ne (pc := 6) C 15 dX11_toldAs_6 (by decide) h (fun c3 h => ?_) (fun c3 h => ?_)
  · refine k_iload_n (pc := 15) C dX11_toldAs_15 1 rfl ?_
    refine k_iconst (pc := 16) (v := (4 : Int32)) C dX11_toldAs_16 ciconst_4 ?_
    refine k_icmp_ne (pc := 17) C 26 dX11_toldAs_17 (by decide) h (fun c2 h => ?_) (fun c2 h => ?_)
    · refine k_iload_n (pc := 26) C dX11_toldAs_26 0 rfl ?_
      exact k_iret (pc := 27) C E (some_i h) rfl dX11_toldAs_27
    · refine k_iload_n (pc := 20) C dX11_toldAs_20 0 rfl ?_
      refine k_iconst (pc := 21) (v := (4 : Int32)) C dX11_toldAs_21 ciconst_4 ?_
      refine k_iadd (pc := 22) C dX11_toldAs_22 ?_
      refine k_goto (pc := 23) C 27 dX11_toldAs_23 (by decide) ?_
      exact k_iret (pc := 27) C E (some_i h) rfl dX11_toldAs_27
  · refine k_iload_n (pc := 9) C dX11_toldAs_9 0 rfl ?_
    refine k_iconst (pc := 10) (v := (2 : Int32)) C dX11_toldAs_10 ciconst_2 ?_
    refine k_idivc (pc := 11) C dX11_toldAs_11 (by decide) ?_
    refine k_goto (pc := 12) C 27 dX11_toldAs_12 (by decide) ?_
    exact k_iret (pc := 27) C E (some_i h) rfl dX11_toldAs_27
def m_X11_restedAs (x0 : Int32) (x1 : Int32) : Option (Int32) := bT (x1 - (1 : Int32)) (fun y1 => if x0 = (5 : Int32) then (some x1) else (if x0 = (4 : Int32) then (some (y1 - (2 : Int32))) else (some y1)))
set_option maxHeartbeats 4000000 in
set_option maxRecDepth 100000 in
theorem kc_X11_restedAs {B : KB} {l : Launch} {T : TT} {x0 : Int32} {x1 : Int32} {res : Int32} (h : m_X11_restedAs x0 x1 = some res) : Kt B l 1 yX11_restedAs cX11_restedAs 3 (some .int) T [.int x0, .int x1] (some (.int res)) T := by
  refine Kt.of (by decide) (Nat.le_of_ble_eq_true rfl) (fun X hX C E => ?_)
  subst hX
  have C : Cx B X "GriefEngineModel" cX11_restedAs 3 1 := C
  show Wk B X 3 T 0 [(0, .int x0), (1, .int x1)] []
  unfold m_X11_restedAs at h
  refine k_iload_n (pc := 0) C dX11_restedAs_0 1 rfl ?_
  refine k_iconst (pc := 1) (v := (1 : Int32)) C dX11_restedAs_1 ciconst_1 ?_
  refine k_isub (pc := 2) C dX11_restedAs_2 ?_
  refine k_nI h (fun y1 h => ?_)
  refine k_istore_n (pc := 3) C [(2, .int y1), (0, .int x0), (1, .int x1)] dX11_restedAs_3 (by decide) rfl ?_
  refine k_iload_n (pc := 4) C dX11_restedAs_4 1 rfl ?_
  refine k_iconst (pc := 5) (v := (5 : Int32)) C dX11_restedAs_5 ciconst_5 ?_
  refine k_icmp_ne (pc := 6) C 13 dX11_restedAs_6 (by decide) h (fun c3 h => ?_) (fun c3 h => ?_)
  · refine k_iload_n (pc := 13) C dX11_restedAs_13 1 rfl ?_
    refine k_iconst (pc := 14) (v := (4 : Int32)) C dX11_restedAs_14 ciconst_4 ?_
    refine k_icmp_ne (pc := 15) C 24 dX11_restedAs_15 (by decide) h (fun c2 h => ?_) (fun c2 h => ?_)
    · refine k_iload_n (pc := 24) C dX11_restedAs_24 0 rfl ?_
      exact k_iret (pc := 25) C E (some_i h) rfl dX11_restedAs_25
    · refine k_iload_n (pc := 18) C dX11_restedAs_18 0 rfl ?_
      refine k_iconst (pc := 19) (v := (2 : Int32)) C dX11_restedAs_19 ciconst_2 ?_
      refine k_isub (pc := 20) C dX11_restedAs_20 ?_
      refine k_goto (pc := 21) C 25 dX11_restedAs_21 (by decide) ?_
      exact k_iret (pc := 25) C E (some_i h) rfl dX11_restedAs_25
  · refine k_iload_n (pc := 9) C dX11_restedAs_9 2 rfl ?_
    refine k_goto (pc := 10) C 25 dX11_restedAs_10 (by decide) ?_
    exact k_iret (pc := 25) C E (some_i h) rfl dX11_restedAs_25
def m_X11_leftAs_b30 (s0 : Int32) : Option (Int32) := if 0 ≤ s0 then (if s0 ≤ (99 : Int32) then (some s0) else (some (99 : Int32))) else (some (0 : Int32))
def m_X11_leftAs (x0 : Int32) (x1 : Int32) (x2 : Int32) : Option (Int32) := if x2 = 0 then ((m_X11_droveAs x0 x1).bind (fun z4 => m_X11_leftAs_b30 z4)) else (if x2 = (1 : Int32) then ((m_X11_toldAs x0 x1).bind (fun z2 => m_X11_leftAs_b30 z2)) else ((m_X11_restedAs x0 x1).bind (fun z1 => m_X11_leftAs_b30 z1)))
set_option maxHeartbeats 4000000 in
set_option maxRecDepth 100000 in
theorem k_X11_leftAs_b30 {B : KB} {X : KE} {T0 : TT} {res : Int32} (C : Cx B X "GriefEngineModel" cX11_leftAs 4 2) (E : Cr B X (some .int) (some (.int res)) T0) (s0 : Int32) (h : m_X11_leftAs_b30 s0 = some res) : Wk B X 4 T0 30 [] [.int s0] := by
  unfold m_X11_leftAs_b30 at h
  refine k_istore_n (pc := 30) C [(3, .int s0)] dX11_leftAs_30 (by decide) rfl ?_
  refine k_iload_n (pc := 31) C dX11_leftAs_31 0 rfl ?_
  refine k_if_ge (pc := 32) C 39 dX11_leftAs_32 (by decide) h (fun c7 h => ?_) (fun c7 h => ?_)
  · refine k_iload_n (pc := 39) C dX11_leftAs_39 0 rfl ?_
    refine k_bipush (pc := 40) (v := (99 : Int32)) C dX11_leftAs_40 cbipush_99 ?_
    refine k_icmp_le (pc := 42) C 50 dX11_leftAs_42 (by decide) h (fun c6 h => ?_) (fun c6 h => ?_)
    · refine k_iload_n (pc := 50) C dX11_leftAs_50 0 rfl ?_
      exact k_iret (pc := 51) C E (some_i h) rfl dX11_leftAs_51
    · refine k_bipush (pc := 45) (v := (99 : Int32)) C dX11_leftAs_45 cbipush_99 ?_
      refine k_goto (pc := 47) C 51 dX11_leftAs_47 (by decide) ?_
      exact k_iret (pc := 51) C E (some_i h) rfl dX11_leftAs_51
  · refine k_iconst (pc := 35) (v := (0 : Int32)) C dX11_leftAs_35 ciconst_0 ?_
    refine k_goto (pc := 36) C 51 dX11_leftAs_36 (by decide) ?_
    exact k_iret (pc := 51) C E (some_i h) rfl dX11_leftAs_51
set_option maxHeartbeats 4000000 in
set_option maxRecDepth 100000 in
theorem kc_X11_leftAs {B : KB} {l : Launch} {T : TT} {x0 : Int32} {x1 : Int32} {x2 : Int32} {res : Int32} (h : m_X11_leftAs x0 x1 x2 = some res) : Kt B l 2 yX11_leftAs cX11_leftAs 4 (some .int) T [.int x0, .int x1, .int x2] (some (.int res)) T := by
  refine Kt.of (by decide) (Nat.le_of_ble_eq_true rfl) (fun X hX C E => ?_)
  subst hX
  have C : Cx B X "GriefEngineModel" cX11_leftAs 4 2 := C
  show Wk B X 4 T 0 [(0, .int x0), (1, .int x1), (2, .int x2)] []
  unfold m_X11_leftAs at h
  refine k_iload_n (pc := 0) C dX11_leftAs_0 2 rfl ?_
  refine k_if_ne (pc := 1) C 12 dX11_leftAs_1 (by decide) h (fun c5 h => ?_) (fun c5 h => ?_)
  · refine k_iload_n (pc := 12) C dX11_leftAs_12 2 rfl ?_
    refine k_iconst (pc := 13) (v := (1 : Int32)) C dX11_leftAs_13 ciconst_1 ?_
    refine k_icmp_ne (pc := 14) C 25 dX11_leftAs_14 (by decide) h (fun c3 h => ?_) (fun c3 h => ?_)
    · refine k_iload_n (pc := 25) C dX11_leftAs_25 0 rfl ?_
      refine k_iload_n (pc := 26) C dX11_leftAs_26 1 rfl ?_
      obtain ⟨z1, e1, h⟩ := bnd h
      refine k_callsI (pc := 27) C lk_X11_81 (by decide) (kc_X11_restedAs e1) dX11_leftAs_27 rfl rfl (Nat.le_of_ble_eq_true rfl) ?_
      refine k_sub [] rfl ?_
      exact k_X11_leftAs_b30 C E z1 h
    · refine k_iload_n (pc := 17) C dX11_leftAs_17 0 rfl ?_
      refine k_iload_n (pc := 18) C dX11_leftAs_18 1 rfl ?_
      obtain ⟨z2, e2, h⟩ := bnd h
      refine k_callsI (pc := 19) C lk_X11_78 (by decide) (kc_X11_toldAs e2) dX11_leftAs_19 rfl rfl (Nat.le_of_ble_eq_true rfl) ?_
      refine k_goto (pc := 22) C 30 dX11_leftAs_22 (by decide) ?_
      refine k_sub [] rfl ?_
      exact k_X11_leftAs_b30 C E z2 h
  · refine k_iload_n (pc := 4) C dX11_leftAs_4 0 rfl ?_
    refine k_iload_n (pc := 5) C dX11_leftAs_5 1 rfl ?_
    obtain ⟨z4, e4, h⟩ := bnd h
    refine k_callsI (pc := 6) C lk_X11_74 (by decide) (kc_X11_droveAs e4) dX11_leftAs_6 rfl rfl (Nat.le_of_ble_eq_true rfl) ?_
    refine k_goto (pc := 9) C 30 dX11_leftAs_9 (by decide) ?_
    refine k_sub [] rfl ?_
    exact k_X11_leftAs_b30 C E z4 h
def m_X11_kindOf (T : TT) (x1 : Int32) : Option (Int32) := if inb ((17 : Int32) + x1) 175 then (some (T.1 10 1 (Int32.toNatClampNeg ((17 : Int32) + x1)))) else none
set_option maxHeartbeats 4000000 in
set_option maxRecDepth 100000 in
theorem kc_X11_kindOf {B : KB} {l : Launch} {T : TT} {x1 : Int32} {res : Int32} (h : m_X11_kindOf T x1 = some res) : Kt B l 1 yX11_kindOf cX11_kindOf 2 (some .int) T [.ref (B.1 10 0), .int x1] (some (.int res)) T := by
  refine Kt.of (by decide) (Nat.le_of_ble_eq_true rfl) (fun X hX C E => ?_)
  subst hX
  have C : Cx B X "GriefEngineModel" cX11_kindOf 2 1 := C
  show Wk B X 2 T 0 [(0, .ref (B.1 10 0)), (1, .int x1)] []
  unfold m_X11_kindOf at h
  refine k_aload_n (pc := 0) C dX11_kindOf_0 0 rfl ?_
  refine gf_X11_7 (pc := 1) C dX11_kindOf_1 ?_
  refine k_bipush (pc := 4) (v := (17 : Int32)) C dX11_kindOf_4 cbipush_17 ?_
  refine k_iload_n (pc := 6) C dX11_kindOf_6 1 rfl ?_
  refine k_iadd (pc := 7) C dX11_kindOf_7 ?_
  refine k_iald (pc := 8) C ia_10_1 dX11_kindOf_8 h (fun h => ?_)
  exact k_iret (pc := 9) C E (some_i h) rfl dX11_kindOf_9
def m_X11_goDay_b25 (T : TT) (x1 : Int32) (x3 : Int32) (s1 : Int32) (s2 : Int32) : Option (TT) := bT (sI T 10 7 (s1 + s2)) (fun T4 => (m_X11_leftAs x1 (T4.2.1 10 6) x3).bind (fun z5 => bT (sI T4 10 6 z5) (fun T6 => some T6)))
def m_X11_goDay (T : TT) (x1 : Int32) (x2 : Int32) (x3 : Int32) : Option (TT) := if x3 = 0 then ((m_X11_seasonOf x2).bind (fun z1 => (m_X11_runsAs x1 (T.2.1 10 6) z1).bind (fun z2 => m_X11_goDay_b25 T x1 x3 (T.2.1 10 7) z2))) else (m_X11_goDay_b25 T x1 x3 (T.2.1 10 7) (0 : Int32))
set_option maxHeartbeats 4000000 in
set_option maxRecDepth 100000 in
theorem k_X11_goDay_b25 {B : KB} {X : KE} {res : TT} (C : Cx B X "GriefEngineModel" cX11_goDay 4 3) (E : Cr B X none none res) (T : TT) (x1 : Int32) (x3 : Int32) (s1 : Int32) (s2 : Int32) (h : m_X11_goDay_b25 T x1 x3 s1 s2 = some res) : Wk B X 4 T 25 [(0, .ref (B.1 10 0)), (1, .int x1), (3, .int x3)] [.int s2, .int s1, .ref (B.1 10 0)] := by
  unfold m_X11_goDay_b25 at h
  refine k_iadd (pc := 25) C dX11_goDay_25 ?_
  refine pf_X11_84 (pc := 26) C dX11_goDay_26 ?_
  refine k_nT h (fun T4 h => ?_)
  refine k_aload_n (pc := 29) C dX11_goDay_29 0 rfl ?_
  refine k_iload_n (pc := 30) C dX11_goDay_30 1 rfl ?_
  refine k_aload_n (pc := 31) C dX11_goDay_31 0 rfl ?_
  refine gf_X11_88 (pc := 32) C dX11_goDay_32 ?_
  refine k_iload_n (pc := 35) C dX11_goDay_35 2 rfl ?_
  obtain ⟨z5, e5, h⟩ := bnd h
  refine k_callsI (pc := 36) C lk_X11_98 (by decide) (kc_X11_leftAs e5) dX11_goDay_36 rfl rfl (Nat.le_of_ble_eq_true rfl) ?_
  refine pf_X11_88 (pc := 39) C dX11_goDay_39 ?_
  refine k_nT h (fun T6 h => ?_)
  exact k_vret (pc := 42) C E (some_i h) dX11_goDay_42
set_option maxHeartbeats 4000000 in
set_option maxRecDepth 100000 in
theorem kc_X11_goDay {B : KB} {l : Launch} {T : TT} {x1 : Int32} {x2 : Int32} {x3 : Int32} {res : TT} (h : m_X11_goDay T x1 x2 x3 = some res) : Kt B l 3 yX11_goDay cX11_goDay 4 none T [.ref (B.1 10 0), .int x1, .int x2, .int x3] none res := by
  refine Kt.of (by decide) (Nat.le_of_ble_eq_true rfl) (fun X hX C E => ?_)
  subst hX
  have C : Cx B X "GriefEngineModel" cX11_goDay 4 3 := C
  show Wk B X 4 T 0 [(0, .ref (B.1 10 0)), (1, .int x1), (2, .int x2), (3, .int x3)] []
  unfold m_X11_goDay at h
  refine k_aload_n (pc := 0) C dX11_goDay_0 0 rfl ?_
  refine k_dup (pc := 1) C dX11_goDay_1 rfl ?_
  refine gf_X11_84 (pc := 2) C dX11_goDay_2 ?_
  refine k_iload_n (pc := 5) C dX11_goDay_5 3 rfl ?_
  refine k_if_ne (pc := 6) C 24 dX11_goDay_6 (by decide) h (fun c3 h => ?_) (fun c3 h => ?_)
  · refine k_iconst (pc := 24) (v := (0 : Int32)) C dX11_goDay_24 ciconst_0 ?_
    refine k_sub [0, 1, 3] rfl ?_
    exact k_X11_goDay_b25 C E T x1 x3 (T.2.1 10 7) (0 : Int32) h
  · refine k_iload_n (pc := 9) C dX11_goDay_9 1 rfl ?_
    refine k_aload_n (pc := 10) C dX11_goDay_10 0 rfl ?_
    refine gf_X11_88 (pc := 11) C dX11_goDay_11 ?_
    refine k_iload_n (pc := 14) C dX11_goDay_14 2 rfl ?_
    obtain ⟨z1, e1, h⟩ := bnd h
    refine k_callsI (pc := 15) C lk_X11_91 (by decide) (kc_X11_seasonOf e1) dX11_goDay_15 rfl rfl (Nat.le_of_ble_eq_true rfl) ?_
    obtain ⟨z2, e2, h⟩ := bnd h
    refine k_callsI (pc := 18) C lk_X11_94 (by decide) (kc_X11_runsAs e2) dX11_goDay_18 rfl rfl (Nat.le_of_ble_eq_true rfl) ?_
    refine k_goto (pc := 21) C 25 dX11_goDay_21 (by decide) ?_
    refine k_sub [0, 1, 3] rfl ?_
    exact k_X11_goDay_b25 C E T x1 x3 (T.2.1 10 7) z2 h
def m_X11_layOne (T : TT) (x1 : Int32) : Option (TT) := if inb ((4 : Int32) + x1) 175 then (bT (sI T 10 6 (T.1 10 1 (Int32.toNatClampNeg ((4 : Int32) + x1)))) (fun T1 => bT (sI T1 10 7 (0 : Int32)) (fun T2 => some T2))) else none
set_option maxHeartbeats 4000000 in
set_option maxRecDepth 100000 in
theorem kc_X11_layOne {B : KB} {l : Launch} {T : TT} {x1 : Int32} {res : TT} (h : m_X11_layOne T x1 = some res) : Kt B l 1 yX11_layOne cX11_layOne 2 none T [.ref (B.1 10 0), .int x1] none res := by
  refine Kt.of (by decide) (Nat.le_of_ble_eq_true rfl) (fun X hX C E => ?_)
  subst hX
  have C : Cx B X "GriefEngineModel" cX11_layOne 2 1 := C
  show Wk B X 2 T 0 [(0, .ref (B.1 10 0)), (1, .int x1)] []
  unfold m_X11_layOne at h
  refine k_aload_n (pc := 0) C dX11_layOne_0 0 rfl ?_
  refine k_aload_n (pc := 1) C dX11_layOne_1 0 rfl ?_
  refine gf_X11_7 (pc := 2) C dX11_layOne_2 ?_
  refine k_iconst (pc := 5) (v := (4 : Int32)) C dX11_layOne_5 ciconst_4 ?_
  refine k_iload_n (pc := 6) C dX11_layOne_6 1 rfl ?_
  refine k_iadd (pc := 7) C dX11_layOne_7 ?_
  refine k_iald (pc := 8) C ia_10_1 dX11_layOne_8 h (fun h => ?_)
  refine pf_X11_88 (pc := 9) C dX11_layOne_9 ?_
  refine k_nT h (fun T1 h => ?_)
  refine k_aload_n (pc := 12) C dX11_layOne_12 0 rfl ?_
  refine k_iconst (pc := 13) (v := (0 : Int32)) C dX11_layOne_13 ciconst_0 ?_
  refine pf_X11_84 (pc := 14) C dX11_layOne_14 ?_
  refine k_nT h (fun T2 h => ?_)
  exact k_vret (pc := 17) C E (some_i h) dX11_layOne_17
def m_X11_keep_h53 (rec53 : TT → Int32 → Option (TT)) (T : TT) (x1 : Int32) : Option (TT) := if (13 : Int32) ≤ x1 then (bT (sA T 10 1 3 ((T.1 10 1 3) + (1 : Int32))) (fun T6 => some T6)) else (if inb ((4 : Int32) + x1) 175 then (if inb (((71 : Int32) + ((13 : Int32) * (T.1 10 1 3))) + x1) 175 then bT (sA T 10 1 (Int32.toNatClampNeg (((71 : Int32) + ((13 : Int32) * (T.1 10 1 3))) + x1)) (T.1 10 1 (Int32.toNatClampNeg ((4 : Int32) + x1)))) (fun T7 => bT (x1 + (1 : Int32)) (fun y8 => rec53 T7 y8)) else none) else none)
def m_X11_keep_l53 : Nat → TT → Int32 → Option (TT)
  | 0 => fun _ _ => none
  | n + 1 => fun T x1 => m_X11_keep_h53 (m_X11_keep_l53 n) T x1
def m_X11_keep_b51 (T : TT) : Option (TT) := m_X11_keep_l53 FU T (0 : Int32)
def m_X11_keep_h13 (rec13 : TT → Int32 → Option (TT)) (T : TT) (x1 : Int32) : Option (TT) := if (91 : Int32) ≤ x1 then (bT (sA T 10 1 3 (7 : Int32)) (fun T2 => m_X11_keep_b51 T2)) else (if inb ((84 : Int32) + x1) 175 then (if inb ((71 : Int32) + x1) 175 then bT (sA T 10 1 (Int32.toNatClampNeg ((71 : Int32) + x1)) (T.1 10 1 (Int32.toNatClampNeg ((84 : Int32) + x1)))) (fun T3 => bT (x1 + (1 : Int32)) (fun y4 => rec13 T3 y4)) else none) else none)
def m_X11_keep_l13 : Nat → TT → Int32 → Option (TT)
  | 0 => fun _ _ => none
  | n + 1 => fun T x1 => m_X11_keep_h13 (m_X11_keep_l13 n) T x1
def m_X11_keep (T : TT) : Option (TT) := if (T.1 10 1 3) = (8 : Int32) then (m_X11_keep_l13 FU T (0 : Int32)) else (m_X11_keep_b51 T)
set_option maxHeartbeats 4000000 in
set_option maxRecDepth 100000 in
theorem k_X11_keep_h53 {B : KB} {X : KE} {rec53 : TT → Int32 → Option (TT)} {res : TT} (C : Cx B X "GriefEngineModel" cX11_keep 2 1) (E : Cr B X none none res) (hrec53 : ∀ (T : TT) (x1 : Int32), rec53 T x1 = some res → Wk B X 2 T 53 [(0, .ref (B.1 10 0)), (1, .int x1)] []) (T : TT) (x1 : Int32) (h : m_X11_keep_h53 rec53 T x1 = some res) : Wk B X 2 T 53 [(0, .ref (B.1 10 0)), (1, .int x1)] [] := by
  unfold m_X11_keep_h53 at h
  refine k_iload_n (pc := 53) C dX11_keep_53 1 rfl ?_
  refine k_bipush (pc := 54) (v := (13 : Int32)) C dX11_keep_54 cbipush_13 ?_
  refine k_icmp_ge (pc := 56) C 92 dX11_keep_56 (by decide) h (fun c9 h => ?_) (fun c9 h => ?_)
  · refine k_aload_n (pc := 92) C dX11_keep_92 0 rfl ?_
    refine gf_X11_7 (pc := 93) C dX11_keep_93 ?_
    refine k_iconst (pc := 96) (v := (3 : Int32)) C dX11_keep_96 ciconst_3 ?_
    refine k_dup2 (pc := 97) C dX11_keep_97 rfl rfl ?_
    refine k_ialdc (pc := 98) C ia_10_1 3 dX11_keep_98 (by decide) (by decide) ?_
    refine k_iconst (pc := 99) (v := (1 : Int32)) C dX11_keep_99 ciconst_1 ?_
    refine k_iadd (pc := 100) C dX11_keep_100 ?_
    refine k_iastc (pc := 101) C ia_10_1 3 dX11_keep_101 (by decide) (by decide) ?_
    refine k_nT h (fun T6 h => ?_)
    exact k_vret (pc := 102) C E (some_i h) dX11_keep_102
  · refine k_aload_n (pc := 59) C dX11_keep_59 0 rfl ?_
    refine gf_X11_7 (pc := 60) C dX11_keep_60 ?_
    refine k_bipush (pc := 63) (v := (71 : Int32)) C dX11_keep_63 cbipush_71 ?_
    refine k_bipush (pc := 65) (v := (13 : Int32)) C dX11_keep_65 cbipush_13 ?_
    refine k_aload_n (pc := 67) C dX11_keep_67 0 rfl ?_
    refine gf_X11_7 (pc := 68) C dX11_keep_68 ?_
    refine k_iconst (pc := 71) (v := (3 : Int32)) C dX11_keep_71 ciconst_3 ?_
    refine k_ialdc (pc := 72) C ia_10_1 3 dX11_keep_72 (by decide) (by decide) ?_
    refine k_imul (pc := 73) C dX11_keep_73 ?_
    refine k_iadd (pc := 74) C dX11_keep_74 ?_
    refine k_iload_n (pc := 75) C dX11_keep_75 1 rfl ?_
    refine k_iadd (pc := 76) C dX11_keep_76 ?_
    refine k_aload_n (pc := 77) C dX11_keep_77 0 rfl ?_
    refine gf_X11_7 (pc := 78) C dX11_keep_78 ?_
    refine k_iconst (pc := 81) (v := (4 : Int32)) C dX11_keep_81 ciconst_4 ?_
    refine k_iload_n (pc := 82) C dX11_keep_82 1 rfl ?_
    refine k_iadd (pc := 83) C dX11_keep_83 ?_
    refine k_iald (pc := 84) C ia_10_1 dX11_keep_84 h (fun h => ?_)
    refine k_iast (pc := 85) C ia_10_1 dX11_keep_85 h (fun h => ?_)
    refine k_nT h (fun T7 h => ?_)
    refine k_iincN (pc := 86) (x := x1) (c := (1 : Int32)) C (fun y8 => [(1, .int y8), (0, .ref (B.1 10 0))]) dX11_keep_86 1 rfl ciconst_1 (by decide) (fun _ => rfl) h (fun y8 h => ?_)
    refine k_goto (pc := 89) C 53 dX11_keep_89 (by decide) ?_
    refine k_sub [1, 0] rfl ?_
    exact hrec53 T7 y8 h
set_option maxHeartbeats 4000000 in
set_option maxRecDepth 100000 in
theorem k_X11_keep_l53 {B : KB} {X : KE} {res : TT} (C : Cx B X "GriefEngineModel" cX11_keep 2 1) (E : Cr B X none none res) : ∀ (n : Nat) (T : TT) (x1 : Int32) (h : m_X11_keep_l53 n T x1 = some res), Wk B X 2 T 53 [(0, .ref (B.1 10 0)), (1, .int x1)] [] := by
  intro n
  induction n with
  | zero =>
    intro T x1 h
    exact no_some h
  | succ n ih =>
    intro T x1 h
    exact k_X11_keep_h53 C E (fun T x1 h => ih T x1 h) T x1 h
set_option maxHeartbeats 4000000 in
set_option maxRecDepth 100000 in
theorem k_X11_keep_b51 {B : KB} {X : KE} {res : TT} (C : Cx B X "GriefEngineModel" cX11_keep 2 1) (E : Cr B X none none res) (T : TT) (h : m_X11_keep_b51 T = some res) : Wk B X 2 T 51 [(0, .ref (B.1 10 0))] [] := by
  unfold m_X11_keep_b51 at h
  refine k_iconst (pc := 51) (v := (0 : Int32)) C dX11_keep_51 ciconst_0 ?_
  refine k_istore_n (pc := 52) C [(1, .int (0 : Int32)), (0, .ref (B.1 10 0))] dX11_keep_52 (by decide) rfl ?_
  refine k_sub [1, 0] rfl ?_
  exact k_X11_keep_l53 C E FU T (0 : Int32) h
set_option maxHeartbeats 4000000 in
set_option maxRecDepth 100000 in
theorem k_X11_keep_h13 {B : KB} {X : KE} {rec13 : TT → Int32 → Option (TT)} {res : TT} (C : Cx B X "GriefEngineModel" cX11_keep 2 1) (E : Cr B X none none res) (hrec13 : ∀ (T : TT) (x1 : Int32), rec13 T x1 = some res → Wk B X 2 T 13 [(0, .ref (B.1 10 0)), (1, .int x1)] []) (T : TT) (x1 : Int32) (h : m_X11_keep_h13 rec13 T x1 = some res) : Wk B X 2 T 13 [(0, .ref (B.1 10 0)), (1, .int x1)] [] := by
  unfold m_X11_keep_h13 at h
  refine k_iload_n (pc := 13) C dX11_keep_13 1 rfl ?_
  refine k_bipush (pc := 14) (v := (91 : Int32)) C dX11_keep_14 cbipush_91 ?_
  refine k_icmp_ge (pc := 16) C 43 dX11_keep_16 (by decide) h (fun c5 h => ?_) (fun c5 h => ?_)
  · refine k_aload_n (pc := 43) C dX11_keep_43 0 rfl ?_
    refine gf_X11_7 (pc := 44) C dX11_keep_44 ?_
    refine k_iconst (pc := 47) (v := (3 : Int32)) C dX11_keep_47 ciconst_3 ?_
    refine k_bipush (pc := 48) (v := (7 : Int32)) C dX11_keep_48 cbipush_7 ?_
    refine k_iastc (pc := 50) C ia_10_1 3 dX11_keep_50 (by decide) (by decide) ?_
    refine k_nT h (fun T2 h => ?_)
    refine k_sub [0] rfl ?_
    exact k_X11_keep_b51 C E T2 h
  · refine k_aload_n (pc := 19) C dX11_keep_19 0 rfl ?_
    refine gf_X11_7 (pc := 20) C dX11_keep_20 ?_
    refine k_bipush (pc := 23) (v := (71 : Int32)) C dX11_keep_23 cbipush_71 ?_
    refine k_iload_n (pc := 25) C dX11_keep_25 1 rfl ?_
    refine k_iadd (pc := 26) C dX11_keep_26 ?_
    refine k_aload_n (pc := 27) C dX11_keep_27 0 rfl ?_
    refine gf_X11_7 (pc := 28) C dX11_keep_28 ?_
    refine k_bipush (pc := 31) (v := (84 : Int32)) C dX11_keep_31 cbipush_84 ?_
    refine k_iload_n (pc := 33) C dX11_keep_33 1 rfl ?_
    refine k_iadd (pc := 34) C dX11_keep_34 ?_
    refine k_iald (pc := 35) C ia_10_1 dX11_keep_35 h (fun h => ?_)
    refine k_iast (pc := 36) C ia_10_1 dX11_keep_36 h (fun h => ?_)
    refine k_nT h (fun T3 h => ?_)
    refine k_iincN (pc := 37) (x := x1) (c := (1 : Int32)) C (fun y4 => [(1, .int y4), (0, .ref (B.1 10 0))]) dX11_keep_37 1 rfl ciconst_1 (by decide) (fun _ => rfl) h (fun y4 h => ?_)
    refine k_goto (pc := 40) C 13 dX11_keep_40 (by decide) ?_
    refine k_sub [1, 0] rfl ?_
    exact hrec13 T3 y4 h
set_option maxHeartbeats 4000000 in
set_option maxRecDepth 100000 in
theorem k_X11_keep_l13 {B : KB} {X : KE} {res : TT} (C : Cx B X "GriefEngineModel" cX11_keep 2 1) (E : Cr B X none none res) : ∀ (n : Nat) (T : TT) (x1 : Int32) (h : m_X11_keep_l13 n T x1 = some res), Wk B X 2 T 13 [(0, .ref (B.1 10 0)), (1, .int x1)] [] := by
  intro n
  induction n with
  | zero =>
    intro T x1 h
    exact no_some h
  | succ n ih =>
    intro T x1 h
    exact k_X11_keep_h13 C E (fun T x1 h => ih T x1 h) T x1 h
set_option maxHeartbeats 4000000 in
set_option maxRecDepth 100000 in
theorem kc_X11_keep {B : KB} {l : Launch} {T : TT} {res : TT} (h : m_X11_keep T = some res) : Kt B l 1 yX11_keep cX11_keep 2 none T [.ref (B.1 10 0)] none res := by
  refine Kt.of (by decide) (Nat.le_of_ble_eq_true rfl) (fun X hX C E => ?_)
  subst hX
  have C : Cx B X "GriefEngineModel" cX11_keep 2 1 := C
  show Wk B X 2 T 0 [(0, .ref (B.1 10 0))] []
  unfold m_X11_keep at h
  refine k_aload_n (pc := 0) C dX11_keep_0 0 rfl ?_
  refine gf_X11_7 (pc := 1) C dX11_keep_1 ?_
  refine k_iconst (pc := 4) (v := (3 : Int32)) C dX11_keep_4 ciconst_3 ?_
  refine k_ialdc (pc := 5) C ia_10_1 3 dX11_keep_5 (by decide) (by decide) ?_
  refine k_bipush (pc := 6) (v := (8 : Int32)) C dX11_keep_6 cbipush_8 ?_
  refine k_icmp_ne (pc := 8) C 51 dX11_keep_8 (by decide) h (fun c1 h => ?_) (fun c1 h => ?_)
  · refine k_sub [0] rfl ?_
    exact k_X11_keep_b51 C E T h
  · refine k_iconst (pc := 11) (v := (0 : Int32)) C dX11_keep_11 ciconst_0 ?_
    refine k_istore_n (pc := 12) C [(1, .int (0 : Int32)), (0, .ref (B.1 10 0))] dX11_keep_12 (by decide) rfl ?_
    refine k_sub [1, 0] rfl ?_
    exact k_X11_keep_l13 C E FU T (0 : Int32) h
def m_X11_passDay_b57 (ag af an : Nat) (rec6 : TT → Int32 → Int32 → Int32 → Int32 → Option (Int32 × TT)) (T : TT) (x2 : Int32) (x3 : Int32) (x4 : Int32) (x5 : Int32) (s1 : Int32) (s2 : Int32) (s3 : Int32) : Option (Int32 × TT) := (m_X11_goDay T s1 s2 s3).bind (fun z7 => if inb ((4 : Int32) + x5) an then bT (sA z7 ag af (Int32.toNatClampNeg ((4 : Int32) + x5)) (z7.2.1 10 6)) (fun T8 => if inb ((10 : Int32) + x5) an then (if inb ((10 : Int32) + x5) an then bT (sA T8 ag af (Int32.toNatClampNeg ((10 : Int32) + x5)) ((T8.1 ag af (Int32.toNatClampNeg ((10 : Int32) + x5))) + (T8.2.1 10 7))) (fun T9 => bT (x4 + (T9.2.1 10 7)) (fun y10 => bT (x5 + (1 : Int32)) (fun y11 => rec6 T9 x2 x3 y10 y11))) else none) else none) else none)
def m_X11_passDay_b52 (ag af an : Nat) (rec6 : TT → Int32 → Int32 → Int32 → Int32 → Option (Int32 × TT)) (T : TT) (x2 : Int32) (x3 : Int32) (x4 : Int32) (x5 : Int32) (s1 : Int32) (s2 : Int32) : Option (Int32 × TT) := m_X11_passDay_b57 ag af an rec6 T x2 x3 x4 x5 s1 s2 x3
def m_X11_passDay_h6 (ag af an : Nat) (rec6 : TT → Int32 → Int32 → Int32 → Int32 → Option (Int32 × TT)) (T : TT) (x2 : Int32) (x3 : Int32) (x4 : Int32) (x5 : Int32) : Option (Int32 × TT) := if inb (0 : Int32) an then (if (T.1 ag af (Int32.toNatClampNeg (0 : Int32))) ≤ x5 then (if inb (16 : Int32) an then (if inb (16 : Int32) an then bT (sA T ag af (Int32.toNatClampNeg (16 : Int32)) ((T.1 ag af (Int32.toNatClampNeg (16 : Int32))) + (1 : Int32))) (fun T1 => some (x4, T1)) else none) else none) else (if inb ((4 : Int32) + x5) an then (bT (sI T 10 6 (T.1 ag af (Int32.toNatClampNeg ((4 : Int32) + x5)))) (fun T2 => bT (sI T2 10 7 (0 : Int32)) (fun T3 => if inb ((17 : Int32) + x5) an then (if inb (16 : Int32) an then (if x2 = (-1 : Int32) then (m_X11_passDay_b52 ag af an rec6 T3 x2 x3 x4 x5 (T3.1 ag af (Int32.toNatClampNeg ((17 : Int32) + x5))) (T3.1 ag af (Int32.toNatClampNeg (16 : Int32)))) else (if x2 = x5 then (m_X11_passDay_b52 ag af an rec6 T3 x2 x3 x4 x5 (T3.1 ag af (Int32.toNatClampNeg ((17 : Int32) + x5))) (T3.1 ag af (Int32.toNatClampNeg (16 : Int32)))) else (m_X11_passDay_b57 ag af an rec6 T3 x2 x3 x4 x5 (T3.1 ag af (Int32.toNatClampNeg ((17 : Int32) + x5))) (T3.1 ag af (Int32.toNatClampNeg (16 : Int32))) (2 : Int32)))) else none) else none))) else none)) else none
def m_X11_passDay_l6 (ag af an : Nat) : Nat → TT → Int32 → Int32 → Int32 → Int32 → Option (Int32 × TT)
  | 0 => fun _ _ _ _ _ => none
  | n + 1 => fun T x2 x3 x4 x5 => m_X11_passDay_h6 ag af an (m_X11_passDay_l6 ag af an n) T x2 x3 x4 x5
def m_X11_passDay (T : TT) (ag af an : Nat) (x2 : Int32) (x3 : Int32) : Option (Int32 × TT) := m_X11_passDay_l6 ag af an FU T x2 x3 (0 : Int32) (0 : Int32)
set_option maxHeartbeats 4000000 in
set_option maxRecDepth 100000 in
theorem k_X11_passDay_b57 {B : KB} {X : KE} {ag af an : Nat} {rec6 : TT → Int32 → Int32 → Int32 → Int32 → Option (Int32 × TT)} {res : Int32 × TT} (C : Cx B X "GriefEngineModel" cX11_passDay 6 4) (E : Cr B X (some .int) (some (.int res.1)) res.2) (hI : isI B ag af an) (hrec6 : ∀ (T : TT) (x2 : Int32) (x3 : Int32) (x4 : Int32) (x5 : Int32), rec6 T x2 x3 x4 x5 = some res → Wk B X 6 T 6 [(0, .ref (B.1 10 0)), (1, .ref (B.1 ag af)), (2, .int x2), (3, .int x3), (4, .int x4), (5, .int x5)] []) (T : TT) (x2 : Int32) (x3 : Int32) (x4 : Int32) (x5 : Int32) (s1 : Int32) (s2 : Int32) (s3 : Int32) (h : m_X11_passDay_b57 ag af an rec6 T x2 x3 x4 x5 s1 s2 s3 = some res) : Wk B X 6 T 57 [(0, .ref (B.1 10 0)), (1, .ref (B.1 ag af)), (2, .int x2), (3, .int x3), (4, .int x4), (5, .int x5)] [.int s3, .int s2, .int s1, .ref (B.1 10 0)] := by
  unfold m_X11_passDay_b57 at h
  obtain ⟨z7, e7, h⟩ := bnd h
  refine k_callvV (pc := 57) C lk_X11_101 (by decide) ix_X11 wo_X11 rfl rfl (kc_X11_goDay e7) dX11_passDay_57 rfl rfl (Nat.le_of_ble_eq_true rfl) ?_
  refine k_aload_n (pc := 60) C dX11_passDay_60 1 rfl ?_
  refine k_iconst (pc := 61) (v := (4 : Int32)) C dX11_passDay_61 ciconst_4 ?_
  refine k_iload (pc := 62) C dX11_passDay_62 5 rfl ?_
  refine k_iadd (pc := 64) C dX11_passDay_64 ?_
  refine k_aload_n (pc := 65) C dX11_passDay_65 0 rfl ?_
  refine gf_X11_88 (pc := 66) C dX11_passDay_66 ?_
  refine k_iast (pc := 69) C hI dX11_passDay_69 h (fun h => ?_)
  refine k_nT h (fun T8 h => ?_)
  refine k_aload_n (pc := 70) C dX11_passDay_70 1 rfl ?_
  refine k_bipush (pc := 71) (v := (10 : Int32)) C dX11_passDay_71 cbipush_10 ?_
  refine k_iload (pc := 73) C dX11_passDay_73 5 rfl ?_
  refine k_iadd (pc := 75) C dX11_passDay_75 ?_
  refine k_dup2 (pc := 76) C dX11_passDay_76 rfl rfl ?_
  refine k_iald (pc := 77) C hI dX11_passDay_77 h (fun h => ?_)
  refine k_aload_n (pc := 78) C dX11_passDay_78 0 rfl ?_
  refine gf_X11_84 (pc := 79) C dX11_passDay_79 ?_
  refine k_iadd (pc := 82) C dX11_passDay_82 ?_
  refine k_iast (pc := 83) C hI dX11_passDay_83 h (fun h => ?_)
  refine k_nT h (fun T9 h => ?_)
  refine k_iload (pc := 84) C dX11_passDay_84 4 rfl ?_
  refine k_aload_n (pc := 86) C dX11_passDay_86 0 rfl ?_
  refine gf_X11_84 (pc := 87) C dX11_passDay_87 ?_
  refine k_iadd (pc := 90) C dX11_passDay_90 ?_
  refine k_nI h (fun y10 h => ?_)
  refine k_istore (pc := 91) C [(4, .int y10), (0, .ref (B.1 10 0)), (1, .ref (B.1 ag af)), (2, .int x2), (3, .int x3), (5, .int x5)] dX11_passDay_91 (by decide) rfl ?_
  refine k_iincN (pc := 93) (x := x5) (c := (1 : Int32)) C (fun y11 => [(5, .int y11), (4, .int y10), (0, .ref (B.1 10 0)), (1, .ref (B.1 ag af)), (2, .int x2), (3, .int x3)]) dX11_passDay_93 5 rfl ciconst_1 (by decide) (fun _ => rfl) h (fun y11 h => ?_)
  refine k_goto (pc := 96) C 6 dX11_passDay_96 (by decide) ?_
  refine k_sub [2, 3, 4, 5, 1, 0] rfl ?_
  exact hrec6 T9 x2 x3 y10 y11 h
set_option maxHeartbeats 4000000 in
set_option maxRecDepth 100000 in
theorem k_X11_passDay_b52 {B : KB} {X : KE} {ag af an : Nat} {rec6 : TT → Int32 → Int32 → Int32 → Int32 → Option (Int32 × TT)} {res : Int32 × TT} (C : Cx B X "GriefEngineModel" cX11_passDay 6 4) (E : Cr B X (some .int) (some (.int res.1)) res.2) (hI : isI B ag af an) (hrec6 : ∀ (T : TT) (x2 : Int32) (x3 : Int32) (x4 : Int32) (x5 : Int32), rec6 T x2 x3 x4 x5 = some res → Wk B X 6 T 6 [(0, .ref (B.1 10 0)), (1, .ref (B.1 ag af)), (2, .int x2), (3, .int x3), (4, .int x4), (5, .int x5)] []) (T : TT) (x2 : Int32) (x3 : Int32) (x4 : Int32) (x5 : Int32) (s1 : Int32) (s2 : Int32) (h : m_X11_passDay_b52 ag af an rec6 T x2 x3 x4 x5 s1 s2 = some res) : Wk B X 6 T 52 [(0, .ref (B.1 10 0)), (1, .ref (B.1 ag af)), (2, .int x2), (3, .int x3), (4, .int x4), (5, .int x5)] [.int s2, .int s1, .ref (B.1 10 0)] := by
  unfold m_X11_passDay_b52 at h
  refine k_iload_n (pc := 52) C dX11_passDay_52 3 rfl ?_
  refine k_goto (pc := 53) C 57 dX11_passDay_53 (by decide) ?_
  refine k_sub [0, 1, 2, 3, 4, 5] rfl ?_
  exact k_X11_passDay_b57 C E hI hrec6 T x2 x3 x4 x5 s1 s2 x3 h
set_option maxHeartbeats 4000000 in
set_option maxRecDepth 100000 in
theorem k_X11_passDay_h6 {B : KB} {X : KE} {ag af an : Nat} {rec6 : TT → Int32 → Int32 → Int32 → Int32 → Option (Int32 × TT)} {res : Int32 × TT} (C : Cx B X "GriefEngineModel" cX11_passDay 6 4) (E : Cr B X (some .int) (some (.int res.1)) res.2) (hI : isI B ag af an) (hrec6 : ∀ (T : TT) (x2 : Int32) (x3 : Int32) (x4 : Int32) (x5 : Int32), rec6 T x2 x3 x4 x5 = some res → Wk B X 6 T 6 [(0, .ref (B.1 10 0)), (1, .ref (B.1 ag af)), (2, .int x2), (3, .int x3), (4, .int x4), (5, .int x5)] []) (T : TT) (x2 : Int32) (x3 : Int32) (x4 : Int32) (x5 : Int32) (h : m_X11_passDay_h6 ag af an rec6 T x2 x3 x4 x5 = some res) : Wk B X 6 T 6 [(0, .ref (B.1 10 0)), (1, .ref (B.1 ag af)), (2, .int x2), (3, .int x3), (4, .int x4), (5, .int x5)] [] := by
  unfold m_X11_passDay_h6 at h
  refine k_iload (pc := 6) C dX11_passDay_6 5 rfl ?_
  refine k_aload_n (pc := 8) C dX11_passDay_8 1 rfl ?_
  refine k_iconst (pc := 9) (v := (0 : Int32)) C dX11_passDay_9 ciconst_0 ?_
  refine k_iald (pc := 10) C hI dX11_passDay_10 h (fun h => ?_)
  refine k_icmp_ge (pc := 11) C 99 dX11_passDay_11 (by decide) h (fun c6 h => ?_) (fun c6 h => ?_)
  · refine k_aload_n (pc := 99) C dX11_passDay_99 1 rfl ?_
    refine k_bipush (pc := 100) (v := (16 : Int32)) C dX11_passDay_100 cbipush_16 ?_
    refine k_dup2 (pc := 102) C dX11_passDay_102 rfl rfl ?_
    refine k_iald (pc := 103) C hI dX11_passDay_103 h (fun h => ?_)
    refine k_iconst (pc := 104) (v := (1 : Int32)) C dX11_passDay_104 ciconst_1 ?_
    refine k_iadd (pc := 105) C dX11_passDay_105 ?_
    refine k_iast (pc := 106) C hI dX11_passDay_106 h (fun h => ?_)
    refine k_nT h (fun T1 h => ?_)
    refine k_iload (pc := 107) C dX11_passDay_107 4 rfl ?_
    exact k_iret (pc := 109) C E (some_1 h) (some_2 h) dX11_passDay_109
  · refine k_aload_n (pc := 14) C dX11_passDay_14 0 rfl ?_
    refine k_aload_n (pc := 15) C dX11_passDay_15 1 rfl ?_
    refine k_iconst (pc := 16) (v := (4 : Int32)) C dX11_passDay_16 ciconst_4 ?_
    refine k_iload (pc := 17) C dX11_passDay_17 5 rfl ?_
    refine k_iadd (pc := 19) C dX11_passDay_19 ?_
    refine k_iald (pc := 20) C hI dX11_passDay_20 h (fun h => ?_)
    refine pf_X11_88 (pc := 21) C dX11_passDay_21 ?_
    refine k_nT h (fun T2 h => ?_)
    refine k_aload_n (pc := 24) C dX11_passDay_24 0 rfl ?_
    refine k_iconst (pc := 25) (v := (0 : Int32)) C dX11_passDay_25 ciconst_0 ?_
    refine pf_X11_84 (pc := 26) C dX11_passDay_26 ?_
    refine k_nT h (fun T3 h => ?_)
    refine k_aload_n (pc := 29) C dX11_passDay_29 0 rfl ?_
    refine k_aload_n (pc := 30) C dX11_passDay_30 1 rfl ?_
    refine k_bipush (pc := 31) (v := (17 : Int32)) C dX11_passDay_31 cbipush_17 ?_
    refine k_iload (pc := 33) C dX11_passDay_33 5 rfl ?_
    refine k_iadd (pc := 35) C dX11_passDay_35 ?_
    refine k_iald (pc := 36) C hI dX11_passDay_36 h (fun h => ?_)
    refine k_aload_n (pc := 37) C dX11_passDay_37 1 rfl ?_
    refine k_bipush (pc := 38) (v := (16 : Int32)) C dX11_passDay_38 cbipush_16 ?_
    refine k_iald (pc := 40) C hI dX11_passDay_40 h (fun h => ?_)
    refine k_iload_n (pc := 41) C dX11_passDay_41 2 rfl ?_
    refine k_iconst (pc := 42) (v := (-1 : Int32)) C dX11_passDay_42 ciconst_m1 ?_
    refine k_icmp_eq (pc := 43) C 52 dX11_passDay_43 (by decide) h (fun c5 h => ?_) (fun c5 h => ?_)
    · refine k_sub [0, 1, 2, 3, 4, 5] rfl ?_
      exact k_X11_passDay_b52 C E hI hrec6 T3 x2 x3 x4 x5 (T3.1 ag af (Int32.toNatClampNeg ((17 : Int32) + x5))) (T3.1 ag af (Int32.toNatClampNeg (16 : Int32))) h
    · refine k_iload_n (pc := 46) C dX11_passDay_46 2 rfl ?_
      refine k_iload (pc := 47) C dX11_passDay_47 5 rfl ?_
      refine k_icmp_ne (pc := 49) C 56 dX11_passDay_49 (by decide) h (fun c4 h => ?_) (fun c4 h => ?_)
      · refine k_iconst (pc := 56) (v := (2 : Int32)) C dX11_passDay_56 ciconst_2 ?_
        refine k_sub [0, 1, 2, 3, 4, 5] rfl ?_
        exact k_X11_passDay_b57 C E hI hrec6 T3 x2 x3 x4 x5 (T3.1 ag af (Int32.toNatClampNeg ((17 : Int32) + x5))) (T3.1 ag af (Int32.toNatClampNeg (16 : Int32))) (2 : Int32) h
      · refine k_sub [0, 1, 2, 3, 4, 5] rfl ?_
        exact k_X11_passDay_b52 C E hI hrec6 T3 x2 x3 x4 x5 (T3.1 ag af (Int32.toNatClampNeg ((17 : Int32) + x5))) (T3.1 ag af (Int32.toNatClampNeg (16 : Int32))) h
set_option maxHeartbeats 4000000 in
set_option maxRecDepth 100000 in
theorem k_X11_passDay_l6 {B : KB} {X : KE} {ag af an : Nat} {res : Int32 × TT} (C : Cx B X "GriefEngineModel" cX11_passDay 6 4) (E : Cr B X (some .int) (some (.int res.1)) res.2) (hI : isI B ag af an) : ∀ (n : Nat) (T : TT) (x2 : Int32) (x3 : Int32) (x4 : Int32) (x5 : Int32) (h : m_X11_passDay_l6 ag af an n T x2 x3 x4 x5 = some res), Wk B X 6 T 6 [(0, .ref (B.1 10 0)), (1, .ref (B.1 ag af)), (2, .int x2), (3, .int x3), (4, .int x4), (5, .int x5)] [] := by
  intro n
  induction n with
  | zero =>
    intro T x2 x3 x4 x5 h
    exact no_some h
  | succ n ih =>
    intro T x2 x3 x4 x5 h
    exact k_X11_passDay_h6 C E hI (fun T x2 x3 x4 x5 h => ih T x2 x3 x4 x5 h) T x2 x3 x4 x5 h
set_option maxHeartbeats 4000000 in
set_option maxRecDepth 100000 in
theorem kc_X11_passDay {B : KB} {l : Launch} {T : TT} {ag af an : Nat} {x2 : Int32} {x3 : Int32} {res : Int32 × TT} (hI : isI B ag af an) (h : m_X11_passDay T ag af an x2 x3 = some res) : Kt B l 4 yX11_passDay cX11_passDay 6 (some .int) T [.ref (B.1 10 0), .ref (B.1 ag af), .int x2, .int x3] (some (.int res.1)) res.2 := by
  refine Kt.of (by decide) (Nat.le_of_ble_eq_true rfl) (fun X hX C E => ?_)
  subst hX
  have C : Cx B X "GriefEngineModel" cX11_passDay 6 4 := C
  show Wk B X 6 T 0 [(0, .ref (B.1 10 0)), (1, .ref (B.1 ag af)), (2, .int x2), (3, .int x3)] []
  unfold m_X11_passDay at h
  refine k_iconst (pc := 0) (v := (0 : Int32)) C dX11_passDay_0 ciconst_0 ?_
  refine k_istore (pc := 1) C [(4, .int (0 : Int32)), (0, .ref (B.1 10 0)), (1, .ref (B.1 ag af)), (2, .int x2), (3, .int x3)] dX11_passDay_1 (by decide) rfl ?_
  refine k_iconst (pc := 3) (v := (0 : Int32)) C dX11_passDay_3 ciconst_0 ?_
  refine k_istore (pc := 4) C [(5, .int (0 : Int32)), (4, .int (0 : Int32)), (0, .ref (B.1 10 0)), (1, .ref (B.1 ag af)), (2, .int x2), (3, .int x3)] dX11_passDay_4 (by decide) rfl ?_
  refine k_sub [2, 3, 4, 5, 1, 0] rfl ?_
  exact k_X11_passDay_l6 C E hI FU T x2 x3 (0 : Int32) (0 : Int32) h
def m_X11_days_h35 (rec35 : TT → Int32 → Int32 → Int32 → Int32 → Option (Int32 × TT)) (T : TT) (x1 : Int32) (x2 : Int32) (x3 : Int32) (x4 : Int32) : Option (Int32 × TT) := if x1 ≤ x4 then (some (x3, T)) else (if (9999 : Int32) ≤ (T.1 10 1 16) then (some (x3, T)) else ((m_X11_passDay T 10 1 175 (-1 : Int32) x2).bind (fun z6 => bT (x3 + z6.1) (fun y7 => bT (x4 + (1 : Int32)) (fun y8 => rec35 z6.2 x1 x2 y7 y8)))))
def m_X11_days_l35 : Nat → TT → Int32 → Int32 → Int32 → Int32 → Option (Int32 × TT)
  | 0 => fun _ _ _ _ _ => none
  | n + 1 => fun T x1 x2 x3 x4 => m_X11_days_h35 (m_X11_days_l35 n) T x1 x2 x3 x4
def m_X11_days_b19 (T : TT) : Option (Int32 × TT) := (m_X11_bad T (-2 : Int32)).bind (fun z11 => some (z11.1, z11.2))
def m_X11_days (T : TT) (x1 : Int32) (x2 : Int32) : Option (Int32 × TT) := (m_X11_in (x1.toInt64) (1 : Int64) (99 : Int64)).bind (fun z1 => if z1 = 0 then (m_X11_days_b19 T) else ((m_X11_isChoice x2).bind (fun z2 => if z2 = 0 then (m_X11_days_b19 T) else ((m_X11_keep T).bind (fun z3 => m_X11_days_l35 FU z3 x1 x2 (0 : Int32) (0 : Int32))))))
set_option maxHeartbeats 4000000 in
set_option maxRecDepth 100000 in
theorem k_X11_days_h35 {B : KB} {X : KE} {rec35 : TT → Int32 → Int32 → Int32 → Int32 → Option (Int32 × TT)} {res : Int32 × TT} (C : Cx B X "GriefEngineModel" cX11_days 5 5) (E : Cr B X (some .int) (some (.int res.1)) res.2) (hrec35 : ∀ (T : TT) (x1 : Int32) (x2 : Int32) (x3 : Int32) (x4 : Int32), rec35 T x1 x2 x3 x4 = some res → Wk B X 5 T 35 [(0, .ref (B.1 10 0)), (1, .int x1), (2, .int x2), (3, .int x3), (4, .int x4)] []) (T : TT) (x1 : Int32) (x2 : Int32) (x3 : Int32) (x4 : Int32) (h : m_X11_days_h35 rec35 T x1 x2 x3 x4 = some res) : Wk B X 5 T 35 [(0, .ref (B.1 10 0)), (1, .int x1), (2, .int x2), (3, .int x3), (4, .int x4)] [] := by
  unfold m_X11_days_h35 at h
  refine k_iload (pc := 35) C dX11_days_35 4 rfl ?_
  refine k_iload_n (pc := 37) C dX11_days_37 1 rfl ?_
  refine k_icmp_ge (pc := 38) C 73 dX11_days_38 (by decide) h (fun c10 h => ?_) (fun c10 h => ?_)
  · refine k_iload_n (pc := 73) C dX11_days_73 3 rfl ?_
    exact k_iret (pc := 74) C E (some_1 h) (some_2 h) dX11_days_74
  · refine k_aload_n (pc := 41) C dX11_days_41 0 rfl ?_
    refine gf_X11_7 (pc := 42) C dX11_days_42 ?_
    refine k_bipush (pc := 45) (v := (16 : Int32)) C dX11_days_45 cbipush_16 ?_
    refine k_ialdc (pc := 47) C ia_10_1 16 dX11_days_47 (by decide) (by decide) ?_
    refine k_sipush (pc := 48) (v := (9999 : Int32)) C dX11_days_48 csipush_9999 ?_
    refine k_icmp_ge (pc := 51) C 73 dX11_days_51 (by decide) h (fun c9 h => ?_) (fun c9 h => ?_)
    · refine k_iload_n (pc := 73) C dX11_days_73 3 rfl ?_
      exact k_iret (pc := 74) C E (some_1 h) (some_2 h) dX11_days_74
    · refine k_iload_n (pc := 54) C dX11_days_54 3 rfl ?_
      refine k_aload_n (pc := 55) C dX11_days_55 0 rfl ?_
      refine k_aload_n (pc := 56) C dX11_days_56 0 rfl ?_
      refine gf_X11_7 (pc := 57) C dX11_days_57 ?_
      refine k_iconst (pc := 60) (v := (-1 : Int32)) C dX11_days_60 ciconst_m1 ?_
      refine k_iload_n (pc := 61) C dX11_days_61 2 rfl ?_
      obtain ⟨z6, e6, h⟩ := bnd h
      refine k_callvI (pc := 62) C lk_X11_112 (by decide) ix_X11 wo_X11 rfl rfl (kc_X11_passDay ia_10_1 e6) dX11_days_62 rfl rfl (Nat.le_of_ble_eq_true rfl) ?_
      refine k_iadd (pc := 65) C dX11_days_65 ?_
      refine k_nI h (fun y7 h => ?_)
      refine k_istore_n (pc := 66) C [(3, .int y7), (0, .ref (B.1 10 0)), (1, .int x1), (2, .int x2), (4, .int x4)] dX11_days_66 (by decide) rfl ?_
      refine k_iincN (pc := 67) (x := x4) (c := (1 : Int32)) C (fun y8 => [(4, .int y8), (3, .int y7), (0, .ref (B.1 10 0)), (1, .int x1), (2, .int x2)]) dX11_days_67 4 rfl ciconst_1 (by decide) (fun _ => rfl) h (fun y8 h => ?_)
      refine k_goto (pc := 70) C 35 dX11_days_70 (by decide) ?_
      refine k_sub [2, 3, 4, 1, 0] rfl ?_
      exact hrec35 z6.2 x1 x2 y7 y8 h
set_option maxHeartbeats 4000000 in
set_option maxRecDepth 100000 in
theorem k_X11_days_l35 {B : KB} {X : KE} {res : Int32 × TT} (C : Cx B X "GriefEngineModel" cX11_days 5 5) (E : Cr B X (some .int) (some (.int res.1)) res.2) : ∀ (n : Nat) (T : TT) (x1 : Int32) (x2 : Int32) (x3 : Int32) (x4 : Int32) (h : m_X11_days_l35 n T x1 x2 x3 x4 = some res), Wk B X 5 T 35 [(0, .ref (B.1 10 0)), (1, .int x1), (2, .int x2), (3, .int x3), (4, .int x4)] [] := by
  intro n
  induction n with
  | zero =>
    intro T x1 x2 x3 x4 h
    exact no_some h
  | succ n ih =>
    intro T x1 x2 x3 x4 h
    exact k_X11_days_h35 C E (fun T x1 x2 x3 x4 h => ih T x1 x2 x3 x4 h) T x1 x2 x3 x4 h
set_option maxHeartbeats 4000000 in
set_option maxRecDepth 100000 in
theorem k_X11_days_b19 {B : KB} {X : KE} {res : Int32 × TT} (C : Cx B X "GriefEngineModel" cX11_days 5 5) (E : Cr B X (some .int) (some (.int res.1)) res.2) (T : TT) (h : m_X11_days_b19 T = some res) : Wk B X 5 T 19 [(0, .ref (B.1 10 0))] [] := by
  unfold m_X11_days_b19 at h
  refine k_aload_n (pc := 19) C dX11_days_19 0 rfl ?_
  refine k_bipush (pc := 20) (v := (-2 : Int32)) C dX11_days_20 cbipush_m2 ?_
  obtain ⟨z11, e11, h⟩ := bnd h
  refine k_callvI (pc := 22) C lk_X11_63 (by decide) ix_X11 wo_X11 rfl rfl (kc_X11_bad e11) dX11_days_22 rfl rfl (Nat.le_of_ble_eq_true rfl) ?_
  exact k_iret (pc := 25) C E (some_1 h) (some_2 h) dX11_days_25
set_option maxHeartbeats 4000000 in
set_option maxRecDepth 100000 in
theorem kc_X11_days {B : KB} {l : Launch} {T : TT} {x1 : Int32} {x2 : Int32} {res : Int32 × TT} (h : m_X11_days T x1 x2 = some res) : Kt B l 5 yX11_days cX11_days 5 (some .int) T [.ref (B.1 10 0), .int x1, .int x2] (some (.int res.1)) res.2 := by
  refine Kt.of (by decide) (Nat.le_of_ble_eq_true rfl) (fun X hX C E => ?_)
  subst hX
  have C : Cx B X "GriefEngineModel" cX11_days 5 5 := C
  show Wk B X 5 T 0 [(0, .ref (B.1 10 0)), (1, .int x1), (2, .int x2)] []
  unfold m_X11_days at h
  refine k_iload_n (pc := 0) C dX11_days_0 1 rfl ?_
  refine k_i2l (pc := 1) C dX11_days_1 ?_
  refine k_lconst (pc := 2) (v := (1 : Int64)) C dX11_days_2 (by decide) ?_
  refine k_ldc2_w (pc := 3) (v := (99 : Int64)) C dX11_days_3 tw4_138 ?_
  obtain ⟨z1, e1, h⟩ := bnd h
  refine k_callsI (pc := 6) C lk_X11_53 (by decide) (kc_X11_in e1) dX11_days_6 rfl rfl (Nat.le_of_ble_eq_true rfl) ?_
  refine k_if_eq (pc := 9) C 19 dX11_days_9 (by decide) h (fun c5 h => ?_) (fun c5 h => ?_)
  · refine k_sub [0] rfl ?_
    exact k_X11_days_b19 C E T h
  · refine k_iload_n (pc := 12) C dX11_days_12 2 rfl ?_
    obtain ⟨z2, e2, h⟩ := bnd h
    refine k_callsI (pc := 13) C lk_X11_105 (by decide) (kc_X11_isChoice e2) dX11_days_13 rfl rfl (Nat.le_of_ble_eq_true rfl) ?_
    refine k_if_ne (pc := 16) C 26 dX11_days_16 (by decide) h (fun c4 h => ?_) (fun c4 h => ?_)
    · refine k_iconst (pc := 26) (v := (0 : Int32)) C dX11_days_26 ciconst_0 ?_
      refine k_istore_n (pc := 27) C [(3, .int (0 : Int32)), (0, .ref (B.1 10 0)), (1, .int x1), (2, .int x2)] dX11_days_27 (by decide) rfl ?_
      refine k_aload_n (pc := 28) C dX11_days_28 1 rfl ?_
      obtain ⟨z3, e3, h⟩ := bnd h
      refine k_callvV (pc := 29) C lk_X11_109 (by decide) ix_X11 wo_X11 rfl rfl (kc_X11_keep e3) dX11_days_29 rfl rfl (Nat.le_of_ble_eq_true rfl) ?_
      refine k_iconst (pc := 32) (v := (0 : Int32)) C dX11_days_32 ciconst_0 ?_
      refine k_istore (pc := 33) C [(4, .int (0 : Int32)), (3, .int (0 : Int32)), (0, .ref (B.1 10 0)), (1, .int x1), (2, .int x2)] dX11_days_33 (by decide) rfl ?_
      refine k_sub [2, 3, 4, 1, 0] rfl ?_
      exact k_X11_days_l35 C E FU z3 x1 x2 (0 : Int32) (0 : Int32) h
    · refine k_sub [0] rfl ?_
      exact k_X11_days_b19 C E T h
def m_X11_day_b15 (T : TT) : Option (Int32 × TT) := (m_X11_bad T (-2 : Int32)).bind (fun z8 => some (z8.1, z8.2))
def m_X11_day (T : TT) (x1 : Int32) (x2 : Int32) : Option (Int32 × TT) := (m_X11_isDriver T x1).bind (fun z1 => if z1 = 0 then (m_X11_day_b15 T) else ((m_X11_isChoice x2).bind (fun z2 => if z2 = 0 then (m_X11_day_b15 T) else ((m_X11_keep T).bind (fun z3 => if (9999 : Int32) ≤ (z3.1 10 1 16) then (some ((0 : Int32), z3)) else ((m_X11_passDay z3 10 1 175 x1 x2).bind (fun z4 => some (z4.1, z4.2))))))))
set_option maxHeartbeats 4000000 in
set_option maxRecDepth 100000 in
theorem k_X11_day_b15 {B : KB} {X : KE} {res : Int32 × TT} (C : Cx B X "GriefEngineModel" cX11_day 3 5) (E : Cr B X (some .int) (some (.int res.1)) res.2) (T : TT) (h : m_X11_day_b15 T = some res) : Wk B X 3 T 15 [(0, .ref (B.1 10 0))] [] := by
  unfold m_X11_day_b15 at h
  refine k_aload_n (pc := 15) C dX11_day_15 0 rfl ?_
  refine k_bipush (pc := 16) (v := (-2 : Int32)) C dX11_day_16 cbipush_m2 ?_
  obtain ⟨z8, e8, h⟩ := bnd h
  refine k_callvI (pc := 18) C lk_X11_63 (by decide) ix_X11 wo_X11 rfl rfl (kc_X11_bad e8) dX11_day_18 rfl rfl (Nat.le_of_ble_eq_true rfl) ?_
  exact k_iret (pc := 21) C E (some_1 h) (some_2 h) dX11_day_21
set_option maxHeartbeats 4000000 in
set_option maxRecDepth 100000 in
theorem kc_X11_day {B : KB} {l : Launch} {T : TT} {x1 : Int32} {x2 : Int32} {res : Int32 × TT} (h : m_X11_day T x1 x2 = some res) : Kt B l 5 yX11_day cX11_day 3 (some .int) T [.ref (B.1 10 0), .int x1, .int x2] (some (.int res.1)) res.2 := by
  refine Kt.of (by decide) (Nat.le_of_ble_eq_true rfl) (fun X hX C E => ?_)
  subst hX
  have C : Cx B X "GriefEngineModel" cX11_day 3 5 := C
  show Wk B X 3 T 0 [(0, .ref (B.1 10 0)), (1, .int x1), (2, .int x2)] []
  unfold m_X11_day at h
  refine k_aload_n (pc := 0) C dX11_day_0 0 rfl ?_
  refine k_iload_n (pc := 1) C dX11_day_1 1 rfl ?_
  obtain ⟨z1, e1, h⟩ := bnd h
  refine k_callvI (pc := 2) C lk_X11_116 (by decide) ix_X11 wo_X11 rfl rfl (kc_X11_isDriver e1) dX11_day_2 rfl rfl (Nat.le_of_ble_eq_true rfl) ?_
  refine k_if_eq (pc := 5) C 15 dX11_day_5 (by decide) h (fun c7 h => ?_) (fun c7 h => ?_)
  · refine k_sub [0] rfl ?_
    exact k_X11_day_b15 C E T h
  · refine k_iload_n (pc := 8) C dX11_day_8 2 rfl ?_
    obtain ⟨z2, e2, h⟩ := bnd h
    refine k_callsI (pc := 9) C lk_X11_105 (by decide) (kc_X11_isChoice e2) dX11_day_9 rfl rfl (Nat.le_of_ble_eq_true rfl) ?_
    refine k_if_ne (pc := 12) C 22 dX11_day_12 (by decide) h (fun c6 h => ?_) (fun c6 h => ?_)
    · refine k_aload_n (pc := 22) C dX11_day_22 0 rfl ?_
      obtain ⟨z3, e3, h⟩ := bnd h
      refine k_callvV (pc := 23) C lk_X11_109 (by decide) ix_X11 wo_X11 rfl rfl (kc_X11_keep e3) dX11_day_23 rfl rfl (Nat.le_of_ble_eq_true rfl) ?_
      refine k_aload_n (pc := 26) C dX11_day_26 0 rfl ?_
      refine gf_X11_7 (pc := 27) C dX11_day_27 ?_
      refine k_bipush (pc := 30) (v := (16 : Int32)) C dX11_day_30 cbipush_16 ?_
      refine k_ialdc (pc := 32) C ia_10_1 16 dX11_day_32 (by decide) (by decide) ?_
      refine k_sipush (pc := 33) (v := (9999 : Int32)) C dX11_day_33 csipush_9999 ?_
      refine k_icmp_ge (pc := 36) C 52 dX11_day_36 (by decide) h (fun c5 h => ?_) (fun c5 h => ?_)
      · refine k_iconst (pc := 52) (v := (0 : Int32)) C dX11_day_52 ciconst_0 ?_
        exact k_iret (pc := 53) C E (some_1 h) (some_2 h) dX11_day_53
      · refine k_aload_n (pc := 39) C dX11_day_39 0 rfl ?_
        refine k_aload_n (pc := 40) C dX11_day_40 0 rfl ?_
        refine gf_X11_7 (pc := 41) C dX11_day_41 ?_
        refine k_iload_n (pc := 44) C dX11_day_44 1 rfl ?_
        refine k_iload_n (pc := 45) C dX11_day_45 2 rfl ?_
        obtain ⟨z4, e4, h⟩ := bnd h
        refine k_callvI (pc := 46) C lk_X11_112 (by decide) ix_X11 wo_X11 rfl rfl (kc_X11_passDay ia_10_1 e4) dX11_day_46 rfl rfl (Nat.le_of_ble_eq_true rfl) ?_
        refine k_goto (pc := 49) C 53 dX11_day_49 (by decide) ?_
        exact k_iret (pc := 53) C E (some_1 h) (some_2 h) dX11_day_53
    · refine k_sub [0] rfl ?_
      exact k_X11_day_b15 C E T h
