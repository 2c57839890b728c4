def m_X10_day_b18 (T : TT) : Option (Int32 × TT) := (m_X10_refuse T (-2 : Int32)).bind (fun z7 => some (z7.1, z7.2))
def m_X10_day (T : TT) (x1 : Int32) (x2 : Int32) : Option (Int32 × TT) := (m_X4_has T 0 x1).bind (fun z1 => if z1 = 0 then (m_X10_day_b18 T) else ((m_X10_isChoice x2).bind (fun z2 => if z2 = 0 then (m_X10_day_b18 T) else ((m_X4_remember T 0).bind (fun z3 => (m_X4_passDays z3 0 (1 : Int32) x1 x2).bind (fun z4 => some (z4.1, z4.2)))))))
set_option maxHeartbeats 4000000 in
set_option maxRecDepth 100000 in
theorem k_X10_day_b18 {B : KB} {X : KE} {res : Int32 × TT} (C : Cx B X "GriefEngine" cX10_day 3 6) (E : Cr B X (some .int) (some (.int res.1)) res.2) (T : TT) (h : m_X10_day_b18 T = some res) : Wk B X 3 T 18 [(0, .ref (B.1 4 0))] [] := by
  unfold m_X10_day_b18 at h
  refine k_aload_n (pc := 18) C dX10_day_18 0 rfl ?_
  refine k_bipush (pc := 19) (v := (-2 : Int32)) C dX10_day_19 cbipush_m2 ?_
  obtain ⟨z7, e7, h⟩ := bnd h
  refine k_callvI (pc := 21) C lk_X10_73 (by decide) ix_X10 wo_X10 rfl rfl (kc_X10_refuse e7) dX10_day_21 rfl rfl (Nat.le_of_ble_eq_true rfl) ?_
  exact k_iret (pc := 24) C E (some_1 h) (some_2 h) dX10_day_24
set_option maxHeartbeats 4000000 in
set_option maxRecDepth 100000 in
theorem kc_X10_day {B : KB} {l : Launch} {T : TT} {x1 : Int32} {x2 : Int32} {res : Int32 × TT} (h : m_X10_day T x1 x2 = some res) : Kt B l 6 yX10_day cX10_day 3 (some .int) T [.ref (B.1 4 0), .int x1, .int x2] (some (.int res.1)) res.2 := by
  refine Kt.of (by decide) (Nat.le_of_ble_eq_true rfl) (fun X hX C E => ?_)
  subst hX
  have C : Cx B X "GriefEngine" cX10_day 3 6 := C
  show Wk B X 3 T 0 [(0, .ref (B.1 4 0)), (1, .int x1), (2, .int x2)] []
  unfold m_X10_day at h
  refine k_aload_n (pc := 0) C dX10_day_0 0 rfl ?_
  refine gf_X10_12 (pc := 1) C dX10_day_1 ?_
  refine k_iload_n (pc := 4) C dX10_day_4 1 rfl ?_
  obtain ⟨z1, e1, h⟩ := bnd h
  refine k_callvI (pc := 5) C lk_X10_132 (by decide) (ix_X4 lt4_0) (wo_X4 lt4_0) rfl rfl (kc_X4_has lt4_0 e1) dX10_day_5 rfl rfl (Nat.le_of_ble_eq_true rfl) ?_
  refine k_if_eq (pc := 8) C 18 dX10_day_8 (by decide) h (fun c6 h => ?_) (fun c6 h => ?_)
  · refine k_sub [0] rfl ?_
    exact k_X10_day_b18 C E T h
  · refine k_iload_n (pc := 11) C dX10_day_11 2 rfl ?_
    obtain ⟨z2, e2, h⟩ := bnd h
    refine k_callsI (pc := 12) C lk_X10_125 (by decide) (kc_X10_isChoice e2) dX10_day_12 rfl rfl (Nat.le_of_ble_eq_true rfl) ?_
    refine k_if_ne (pc := 15) C 25 dX10_day_15 (by decide) h (fun c5 h => ?_) (fun c5 h => ?_)
    · refine k_aload_n (pc := 25) C dX10_day_25 0 rfl ?_
      refine gf_X10_12 (pc := 26) C dX10_day_26 ?_
      obtain ⟨z3, e3, h⟩ := bnd h
      refine k_callvV (pc := 29) C lk_X10_129 (by decide) (ix_X4 lt4_0) (wo_X4 lt4_0) rfl rfl (kc_X4_remember lt4_0 e3) dX10_day_29 rfl rfl (Nat.le_of_ble_eq_true rfl) ?_
      refine k_aload_n (pc := 32) C dX10_day_32 0 rfl ?_
      refine gf_X10_12 (pc := 33) C dX10_day_33 ?_
      refine k_iconst (pc := 36) (v := (1 : Int32)) C dX10_day_36 ciconst_1 ?_
      refine k_iload_n (pc := 37) C dX10_day_37 1 rfl ?_
      refine k_iload_n (pc := 38) C dX10_day_38 2 rfl ?_
      obtain ⟨z4, e4, h⟩ := bnd h
      refine k_callvI (pc := 39) C lk_X10_111 (by decide) (ix_X4 lt4_0) (wo_X4 lt4_0) rfl rfl (kc_X4_passDays lt4_0 e4) dX10_day_39 rfl rfl (Nat.le_of_ble_eq_true rfl) ?_
      exact k_iret (pc := 42) C E (some_1 h) (some_2 h) dX10_day_42
    · refine k_sub [0] rfl ?_
      exact k_X10_day_b18 C E T h
def m_X10_undo (T : TT) : Option (Int32 × TT) := if 0 < (T.2.1 0 11) then ((m_X4_takeBack T 0).bind (fun z1 => some ((z1.2.1 0 8), z1))) else ((m_X10_refuse T (-3 : Int32)).bind (fun z2 => some (z2.1, z2.2)))
set_option maxHeartbeats 4000000 in
set_option maxRecDepth 100000 in
theorem kc_X10_undo {B : KB} {l : Launch} {T : TT} {res : Int32 × TT} (h : m_X10_undo T = some res) : Kt B l 2 yX10_undo cX10_undo 1 (some .int) T [.ref (B.1 4 0)] (some (.int res.1)) res.2 := by
  refine Kt.of (by decide) (Nat.le_of_ble_eq_true rfl) (fun X hX C E => ?_)
  subst hX
  have C : Cx B X "GriefEngine" cX10_undo 1 2 := C
  show Wk B X 1 T 0 [(0, .ref (B.1 4 0))] []
  unfold m_X10_undo at h
  refine k_aload_n (pc := 0) C dX10_undo_0 0 rfl ?_
  refine gf_X10_12 (pc := 1) C dX10_undo_1 ?_
  refine gf_X10_135 (pc := 4) C lt4_0 dX10_undo_4 ?_
  refine k_if_gt (pc := 7) C 17 dX10_undo_7 (by decide) h (fun c3 h => ?_) (fun c3 h => ?_)
  · refine k_aload_n (pc := 17) C dX10_undo_17 0 rfl ?_
    refine gf_X10_12 (pc := 18) C dX10_undo_18 ?_
    obtain ⟨z1, e1, h⟩ := bnd h
    refine k_callvV (pc := 21) C lk_X10_138 (by decide) (ix_X4 lt4_0) (wo_X4 lt4_0) rfl rfl (kc_X4_takeBack lt4_0 e1) dX10_undo_21 rfl rfl (Nat.le_of_ble_eq_true rfl) ?_
    refine k_aload_n (pc := 24) C dX10_undo_24 0 rfl ?_
    refine gf_X10_12 (pc := 25) C dX10_undo_25 ?_
    refine gf_X10_141 (pc := 28) C lt4_0 dX10_undo_28 ?_
    exact k_iret (pc := 31) C E (some_1 h) (some_2 h) dX10_undo_31
  · refine k_aload_n (pc := 10) C dX10_undo_10 0 rfl ?_
    refine k_bipush (pc := 11) (v := (-3 : Int32)) C dX10_undo_11 cbipush_m3 ?_
    obtain ⟨z2, e2, h⟩ := bnd h
    refine k_callvI (pc := 13) C lk_X10_73 (by decide) ix_X10 wo_X10 rfl rfl (kc_X10_refuse e2) dX10_undo_13 rfl rfl (Nat.le_of_ble_eq_true rfl) ?_
    exact k_iret (pc := 16) C E (some_1 h) (some_2 h) dX10_undo_16
def m_X10_of (T : TT) (x1 : Int32) (x2 : Int32) : Option (Int32 × TT) := (m_X4_has T 0 x1).bind (fun z1 => if z1 = 0 then ((m_X10_refuse T (-2 : Int32)).bind (fun z6 => some (z6.1, z6.2))) else (if x2 = (0 : Int32) then (if inb x1 6 then (some ((T.1 0 2 (Int32.toNatClampNeg x1)), T)) else none) else (if x2 = (1 : Int32) then (if inb x1 6 then (some ((T.1 0 3 (Int32.toNatClampNeg x1)), T)) else none) else (if x2 = (2 : Int32) then (if inb x1 6 then (some ((T.1 0 4 (Int32.toNatClampNeg x1)), T)) else none) else ((m_X10_refuse T (-2 : Int32)).bind (fun z5 => some (z5.1, z5.2)))))))
set_option maxHeartbeats 4000000 in
set_option maxRecDepth 100000 in
theorem kc_X10_of {B : KB} {l : Launch} {T : TT} {x1 : Int32} {x2 : Int32} {res : Int32 × TT} (h : m_X10_of T x1 x2 = some res) : Kt B l 2 yX10_of cX10_of 3 (some .int) T [.ref (B.1 4 0), .int x1, .int x2] (some (.int res.1)) res.2 := by
  refine Kt.of (by decide) (Nat.le_of_ble_eq_true rfl) (fun X hX C E => ?_)
  subst hX
  have C : Cx B X "GriefEngine" cX10_of 3 2 := C
  show Wk B X 3 T 0 [(0, .ref (B.1 4 0)), (1, .int x1), (2, .int x2)] []
  unfold m_X10_of at h
  refine k_aload_n (pc := 0) C dX10_of_0 0 rfl ?_
  refine gf_X10_12 (pc := 1) C dX10_of_1 ?_
  refine k_iload_n (pc := 4) C dX10_of_4 1 rfl ?_
  obtain ⟨z1, e1, h⟩ := bnd h
  refine k_callvI (pc := 5) C lk_X10_132 (by decide) (ix_X4 lt4_0) (wo_X4 lt4_0) rfl rfl (kc_X4_has lt4_0 e1) dX10_of_5 rfl rfl (Nat.le_of_ble_eq_true rfl) ?_
  refine k_if_ne (pc := 8) C 18 dX10_of_8 (by decide) h (fun c7 h => ?_) (fun c7 h => ?_)
  · refine k_iload_n (pc := 18) C dX10_of_18 2 rfl ?_
    by_cases c2 : x2 = (0 : Int32)
    · rw [if_pos c2] at h
      refine k_tabIn (pc := 19) C 44 (0 : Int32) dX10_of_19 c2 (by decide) (by decide) rfl (by decide) ?_
      refine k_aload_n (pc := 44) C dX10_of_44 0 rfl ?_
      refine gf_X10_12 (pc := 45) C dX10_of_45 ?_
      refine gf_X10_144 (pc := 48) C lt4_0 dX10_of_48 ?_
      refine k_iload_n (pc := 51) C dX10_of_51 1 rfl ?_
      refine k_iald (pc := 52) C (ia_R2 lt4_0) dX10_of_52 h (fun h => ?_)
      exact k_iret (pc := 53) C E (some_1 h) (some_2 h) dX10_of_53
    · rw [if_neg c2] at h
      by_cases c3 : x2 = (1 : Int32)
      · rw [if_pos c3] at h
        refine k_tabIn (pc := 19) C 54 (1 : Int32) dX10_of_19 c3 (by decide) (by decide) rfl (by decide) ?_
        refine k_aload_n (pc := 54) C dX10_of_54 0 rfl ?_
        refine gf_X10_12 (pc := 55) C dX10_of_55 ?_
        refine gf_X10_147 (pc := 58) C lt4_0 dX10_of_58 ?_
        refine k_iload_n (pc := 61) C dX10_of_61 1 rfl ?_
        refine k_iald (pc := 62) C (ia_R3 lt4_0) dX10_of_62 h (fun h => ?_)
        exact k_iret (pc := 63) C E (some_1 h) (some_2 h) dX10_of_63
      · rw [if_neg c3] at h
        by_cases c4 : x2 = (2 : Int32)
        · rw [if_pos c4] at h
          refine k_tabIn (pc := 19) C 64 (2 : Int32) dX10_of_19 c4 (by decide) (by decide) rfl (by decide) ?_
          refine k_aload_n (pc := 64) C dX10_of_64 0 rfl ?_
          refine gf_X10_12 (pc := 65) C dX10_of_65 ?_
          refine gf_X10_150 (pc := 68) C lt4_0 dX10_of_68 ?_
          refine k_iload_n (pc := 71) C dX10_of_71 1 rfl ?_
          refine k_iald (pc := 72) C (ia_R4 lt4_0) dX10_of_72 h (fun h => ?_)
          exact k_iret (pc := 73) C E (some_1 h) (some_2 h) dX10_of_73
        · rw [if_neg c4] at h
          have n2 : x2.toInt ≠ 0 := ne_toInt c2
          have n3 : x2.toInt ≠ 1 := ne_toInt c3
          have n4 : x2.toInt ≠ 2 := ne_toInt c4
          refine k_tabOut (pc := 19) C 74 dX10_of_19 (by omega) (by decide) ?_
          refine k_aload_n (pc := 74) C dX10_of_74 0 rfl ?_
          refine k_bipush (pc := 75) (v := (-2 : Int32)) C dX10_of_75 cbipush_m2 ?_
          obtain ⟨z5, e5, h⟩ := bnd h
          refine k_callvI (pc := 77) C lk_X10_73 (by decide) ix_X10 wo_X10 rfl rfl (kc_X10_refuse e5) dX10_of_77 rfl rfl (Nat.le_of_ble_eq_true rfl) ?_
          exact k_iret (pc := 80) C E (some_1 h) (some_2 h) dX10_of_80
  · refine k_aload_n (pc := 11) C dX10_of_11 0 rfl ?_
    refine k_bipush (pc := 12) (v := (-2 : Int32)) C dX10_of_12 cbipush_m2 ?_
    obtain ⟨z6, e6, h⟩ := bnd h
    refine k_callvI (pc := 14) C lk_X10_73 (by decide) ix_X10 wo_X10 rfl rfl (kc_X10_refuse e6) dX10_of_14 rfl rfl (Nat.le_of_ble_eq_true rfl) ?_
    exact k_iret (pc := 17) C E (some_1 h) (some_2 h) dX10_of_17
def m_X10_today_b30 (T : TT) (x1 : Int32) (x2 : Int32) : Option (Int32 × TT) := (m_X4_kindOf T 0 x1).bind (fun z6 => if inb x1 6 then (bT (T.1 0 3 (Int32.toNatClampNeg x1)) (fun y7 => if x2 = (-1 : Int32) then ((m_X10_seasonOf (T.2.1 0 8)).bind (fun z9 => (v_runs z6 z9 y7).bind (fun z10 => some (z10, T)))) else ((v_left z6 x2 y7).bind (fun z8 => some (z8, T))))) else none)
def m_X10_today_b23 (T : TT) : Option (Int32 × TT) := (m_X10_refuse T (-2 : Int32)).bind (fun z12 => some (z12.1, z12.2))
def m_X10_today (T : TT) (x1 : Int32) (x2 : Int32) : Option (Int32 × TT) := (m_X4_has T 0 x1).bind (fun z1 => if z1 = 0 then (m_X10_today_b23 T) else (if x2 = (-1 : Int32) then (m_X10_today_b30 T x1 x2) else ((m_X10_isChoice x2).bind (fun z2 => if z2 = 0 then (m_X10_today_b23 T) else (m_X10_today_b30 T x1 x2)))))
set_option maxHeartbeats 4000000 in
set_option maxRecDepth 100000 in
theorem k_X10_today_b30 {B : KB} {X : KE} {res : Int32 × TT} (C : Cx B X "GriefEngine" cX10_today 5 4) (E : Cr B X (some .int) (some (.int res.1)) res.2) (T : TT) (x1 : Int32) (x2 : Int32) (h : m_X10_today_b30 T x1 x2 = some res) : Wk B X 5 T 30 [(0, .ref (B.1 4 0)), (1, .int x1), (2, .int x2)] [] := by
  unfold m_X10_today_b30 at h
  refine k_aload_n (pc := 30) C dX10_today_30 0 rfl ?_
  refine gf_X10_12 (pc := 31) C dX10_today_31 ?_
  refine k_iload_n (pc := 34) C dX10_today_34 1 rfl ?_
  obtain ⟨z6, e6, h⟩ := bnd h
  have hz6 := kr_X4_kindOf lt4_0 e6
  refine k_callvA (pc := 35) C lk_X10_153 (by decide) (ix_X4 lt4_0) (wo_X4 lt4_0) rfl rfl (kc_X4_kindOf lt4_0 e6) dX10_today_35 rfl rfl (Nat.le_of_ble_eq_true rfl) ?_
  refine k_astore_n (pc := 38) C [(3, .ref (B.1 z6.1 z6.2)), (0, .ref (B.1 4 0)), (1, .int x1), (2, .int x2)] dX10_today_38 (by decide) rfl ?_
  refine k_aload_n (pc := 39) C dX10_today_39 1 rfl ?_
  refine gf_X10_12 (pc := 40) C dX10_today_40 ?_
  refine gf_X10_147 (pc := 43) C lt4_0 dX10_today_43 ?_
  refine k_iload_n (pc := 46) C dX10_today_46 2 rfl ?_
  refine k_iald (pc := 47) C (ia_R3 lt4_0) dX10_today_47 h (fun h => ?_)
  refine k_nI h (fun y7 h => ?_)
  refine k_istore (pc := 48) C [(4, .int y7), (3, .ref (B.1 z6.1 z6.2)), (0, .ref (B.1 4 0)), (1, .int x1), (2, .int x2)] dX10_today_48 (by decide) rfl ?_
  refine k_iload_n (pc := 50) C dX10_today_50 4 rfl ?_
  refine k_iconst (pc := 51) (v := (-1 : Int32)) C dX10_today_51 ciconst_m1 ?_
  refine k_icmp_ne (pc := 52) C 74 dX10_today_52 (by decide) h (fun c11 h => ?_) (fun c11 h => ?_)
  · refine k_aload_n (pc := 74) C dX10_today_74 1 rfl ?_
    refine k_iload_n (pc := 75) C dX10_today_75 4 rfl ?_
    refine k_iload (pc := 76) C dX10_today_76 0 rfl ?_
    obtain ⟨z8, e8, h⟩ := bnd h
    refine kv_left (pc := 78) C lk_X10_165 (by decide) hz6 e8 dX10_today_78 (Nat.le_of_ble_eq_true rfl) ?_
    exact k_iret (pc := 81) C E (some_1 h) (some_2 h) dX10_today_81
  · refine k_aload_n (pc := 55) C dX10_today_55 1 rfl ?_
    refine k_aload_n (pc := 56) C dX10_today_56 2 rfl ?_
    refine gf_X10_12 (pc := 57) C dX10_today_57 ?_
    refine gf_X10_141 (pc := 60) C lt4_0 dX10_today_60 ?_
    obtain ⟨z9, e9, h⟩ := bnd h
    refine k_callsI (pc := 63) C lk_X10_157 (by decide) (kc_X10_seasonOf e9) dX10_today_63 rfl rfl (Nat.le_of_ble_eq_true rfl) ?_
    refine k_iload (pc := 66) C dX10_today_66 0 rfl ?_
    obtain ⟨z10, e10, h⟩ := bnd h
    refine kv_runs (pc := 68) C lk_X10_160 (by decide) hz6 e10 dX10_today_68 (Nat.le_of_ble_eq_true rfl) ?_
    refine k_goto (pc := 71) C 81 dX10_today_71 (by decide) ?_
    exact k_iret (pc := 81) C E (some_1 h) (some_2 h) dX10_today_81
set_option maxHeartbeats 4000000 in
set_option maxRecDepth 100000 in
theorem k_X10_today_b23 {B : KB} {X : KE} {res : Int32 × TT} (C : Cx B X "GriefEngine" cX10_today 5 4) (E : Cr B X (some .int) (some (.int res.1)) res.2) (T : TT) (h : m_X10_today_b23 T = some res) : Wk B X 5 T 23 [(0, .ref (B.1 4 0))] [] := by
  unfold m_X10_today_b23 at h
  refine k_aload_n (pc := 23) C dX10_today_23 0 rfl ?_
  refine k_bipush (pc := 24) (v := (-2 : Int32)) C dX10_today_24 cbipush_m2 ?_
  obtain ⟨z12, e12, h⟩ := bnd h
  refine k_callvI (pc := 26) C lk_X10_73 (by decide) ix_X10 wo_X10 rfl rfl (kc_X10_refuse e12) dX10_today_26 rfl rfl (Nat.le_of_ble_eq_true rfl) ?_
  exact k_iret (pc := 29) C E (some_1 h) (some_2 h) dX10_today_29
set_option maxHeartbeats 4000000 in
set_option maxRecDepth 100000 in
theorem kc_X10_today {B : KB} {l : Launch} {T : TT} {x1 : Int32} {x2 : Int32} {res : Int32 × TT} (h : m_X10_today T x1 x2 = some res) : Kt B l 4 yX10_today cX10_today 5 (some .int) T [.ref (B.1 4 0), .int x1, .int x2] (some (.int res.1)) res.2 := by
  refine Kt.of (by decide) (Nat.le_of_ble_eq_true rfl) (fun X hX C E => ?_)
  subst hX
  have C : Cx B X "GriefEngine" cX10_today 5 4 := C
  show Wk B X 5 T 0 [(0, .ref (B.1 4 0)), (1, .int x1), (2, .int x2)] []
  unfold m_X10_today at h
  refine k_aload_n (pc := 0) C dX10_today_0 0 rfl ?_
  refine gf_X10_12 (pc := 1) C dX10_today_1 ?_
  refine k_iload_n (pc := 4) C dX10_today_4 1 rfl ?_
  obtain ⟨z1, e1, h⟩ := bnd h
  refine k_callvI (pc := 5) C lk_X10_132 (by decide) (ix_X4 lt4_0) (wo_X4 lt4_0) rfl rfl (kc_X4_has lt4_0 e1) dX10_today_5 rfl rfl (Nat.le_of_ble_eq_true rfl) ?_
  refine k_if_eq (pc := 8) C 23 dX10_today_8 (by decide) h (fun c5 h => ?_) (fun c5 h => ?_)
  · refine k_sub [0] rfl ?_
    exact k_X10_today_b23 C E T h
  · refine k_iload_n (pc := 11) C dX10_today_11 2 rfl ?_
    refine k_iconst (pc := 12) (v := (-1 : Int32)) C dX10_today_12 ciconst_m1 ?_
    refine k_icmp_eq (pc := 13) C 30 dX10_today_13 (by decide) h (fun c4 h => ?_) (fun c4 h => ?_)
    · refine k_sub [0, 1, 2] rfl ?_
      exact k_X10_today_b30 C E T x1 x2 h
    · refine k_iload_n (pc := 16) C dX10_today_16 2 rfl ?_
      obtain ⟨z2, e2, h⟩ := bnd h
      refine k_callsI (pc := 17) C lk_X10_125 (by decide) (kc_X10_isChoice e2) dX10_today_17 rfl rfl (Nat.le_of_ble_eq_true rfl) ?_
      refine k_if_ne (pc := 20) C 30 dX10_today_20 (by decide) h (fun c3 h => ?_) (fun c3 h => ?_)
      · refine k_sub [0, 1, 2] rfl ?_
        exact k_X10_today_b30 C E T x1 x2 h
      · refine k_sub [0] rfl ?_
        exact k_X10_today_b23 C E T h
def m_X10_then_b116 (rec80 : TT → Int32 → Int32 → Int32 → (Nat × Nat) → Int32 → Int32 → Int32 → Option (Int32 × TT)) (T : TT) (x2 : Int32) (x3 : Int32) (x4 : Int32) (hx5 : Nat × Nat) (x6 : Int32) (x8 : Int32) (s0 : Int32) (s1 : Int32) : Option (Int32 × TT) := bT (s0 + s1) (fun y17 => (v_left hx5 x3 x6).bind (fun z18 => bT (x8 + (1 : Int32)) (fun y19 => rec80 T x2 x3 x4 hx5 z18 y17 y19)))
def m_X10_then_h80 (rec80 : TT → Int32 → Int32 → Int32 → (Nat × Nat) → Int32 → Int32 → Int32 → Option (Int32 × TT)) (T : TT) (x2 : Int32) (x3 : Int32) (x4 : Int32) (hx5 : Nat × Nat) (x6 : Int32) (x7 : Int32) (x8 : Int32) : Option (Int32 × TT) := if x2 ≤ x8 then (if x4 = 0 then (some (x6, T)) else (some (x7, T))) else (if x3 = 0 then ((m_X10_seasonOf ((T.2.1 0 8) + x8)).bind (fun z13 => (v_runs hx5 z13 x6).bind (fun z14 => m_X10_then_b116 rec80 T x2 x3 x4 hx5 x6 x8 x7 z14))) else (m_X10_then_b116 rec80 T x2 x3 x4 hx5 x6 x8 x7 (0 : Int32)))
def m_X10_then_l80 : Nat → TT → Int32 → Int32 → Int32 → (Nat × Nat) → Int32 → Int32 → Int32 → Option (Int32 × TT)
  | 0 => fun _ _ _ _ _ _ _ _ => none
  | n + 1 => fun T x2 x3 x4 hx5 x6 x7 x8 => m_X10_then_h80 (m_X10_then_l80 n) T x2 x3 x4 hx5 x6 x7 x8
def m_X10_then_b38 (T : TT) : Option (Int32 × TT) := (m_X10_refuse T (-2 : Int32)).bind (fun z20 => some (z20.1, z20.2))
def m_X10_then (T : TT) (x1 : Int32) (x2 : Int32) (x3 : Int32) (x4 : Int32) : Option (Int32 × TT) := (m_X4_has T 0 x1).bind (fun z1 => if z1 = 0 then (m_X10_then_b38 T) else ((m_X10_within x2 (0 : Int32) (99 : Int32)).bind (fun z2 => if z2 = 0 then (m_X10_then_b38 T) else ((m_X10_isChoice x3).bind (fun z3 => if z3 = 0 then (m_X10_then_b38 T) else ((m_X10_within x4 (0 : Int32) (1 : Int32)).bind (fun z4 => if z4 = 0 then (m_X10_then_b38 T) else ((m_X4_kindOf T 0 x1).bind (fun z5 => if inb x1 6 then (bT (T.1 0 3 (Int32.toNatClampNeg x1)) (fun y6 => if inb x1 6 then (bT (T.1 0 4 (Int32.toNatClampNeg x1)) (fun y7 => m_X10_then_l80 FU T x2 x3 x4 z5 y6 y7 (0 : Int32))) else none)) else none)))))))))
set_option maxHeartbeats 4000000 in
set_option maxRecDepth 100000 in
theorem k_X10_then_b116 {B : KB} {X : KE} {rec80 : TT → Int32 → Int32 → Int32 → (Nat × Nat) → Int32 → Int32 → Int32 → Option (Int32 × TT)} {res : Int32 × TT} (C : Cx B X "GriefEngine" cX10_then 9 4) (E : Cr B X (some .int) (some (.int res.1)) res.2) (hrec80 : ∀ (T : TT) (x2 : Int32) (x3 : Int32) (x4 : Int32) (hx5 : Nat × Nat) (x6 : Int32) (x7 : Int32) (x8 : Int32), kok hx5.1 hx5.2 → rec80 T x2 x3 x4 hx5 x6 x7 x8 = some res → Wk B X 9 T 80 [(0, .ref (B.1 4 0)), (2, .int x2), (3, .int x3), (4, .int x4), (5, .ref (B.1 hx5.1 hx5.2)), (6, .int x6), (7, .int x7), (8, .int x8)] []) (T : TT) (x2 : Int32) (x3 : Int32) (x4 : Int32) (hx5 : Nat × Nat) (x6 : Int32) (x8 : Int32) (s0 : Int32) (s1 : Int32) (hkx5 : kok hx5.1 hx5.2) (h : m_X10_then_b116 rec80 T x2 x3 x4 hx5 x6 x8 s0 s1 = some res) : Wk B X 9 T 116 [(0, .ref (B.1 4 0)), (2, .int x2), (3, .int x3), (4, .int x4), (5, .ref (B.1 hx5.1 hx5.2)), (6, .int x6), (8, .int x8)] [.int s1, .int s0] := by
  unfold m_X10_then_b116 at h
  refine k_iadd (pc := 116) C dX10_then_116 ?_
  refine k_nI h (fun y17 h => ?_)
  refine k_istore (pc := 117) C [(7, .int y17), (0, .ref (B.1 4 0)), (2, .int x2), (3, .int x3), (4, .int x4), (5, .ref (B.1 hx5.1 hx5.2)), (6, .int x6), (8, .int x8)] dX10_then_117 (by decide) rfl ?_
  refine k_aload (pc := 119) C dX10_then_119 5 rfl ?_
  refine k_iload_n (pc := 121) C dX10_then_121 3 rfl ?_
  refine k_iload (pc := 122) C dX10_then_122 6 rfl ?_
  obtain ⟨z18, e18, h⟩ := bnd h
  refine kv_left (pc := 124) C lk_X10_165 (by decide) hkx5 e18 dX10_then_124 (Nat.le_of_ble_eq_true rfl) ?_
  refine k_istore (pc := 127) C [(6, .int z18), (7, .int y17), (0, .ref (B.1 4 0)), (2, .int x2), (3, .int x3), (4, .int x4), (5, .ref (B.1 hx5.1 hx5.2)), (8, .int x8)] dX10_then_127 (by decide) rfl ?_
  refine k_iincN (pc := 129) (x := x8) (c := (1 : Int32)) C (fun y19 => [(8, .int y19), (6, .int z18), (7, .int y17), (0, .ref (B.1 4 0)), (2, .int x2), (3, .int x3), (4, .int x4), (5, .ref (B.1 hx5.1 hx5.2))]) dX10_then_129 7 rfl ciconst_1 (by decide) (fun _ => rfl) h (fun y19 h => ?_)
  refine k_goto (pc := 132) C 80 dX10_then_132 (by decide) ?_
  refine k_sub [3, 4, 5, 6, 7, 1, 2, 0] rfl ?_
  exact hrec80 T x2 x3 x4 hx5 z18 y17 y19 hkx5 h
set_option maxHeartbeats 4000000 in
set_option maxRecDepth 100000 in
theorem k_X10_then_h80 {B : KB} {X : KE} {rec80 : TT → Int32 → Int32 → Int32 → (Nat × Nat) → Int32 → Int32 → Int32 → Option (Int32 × TT)} {res : Int32 × TT} (C : Cx B X "GriefEngine" cX10_then 9 4) (E : Cr B X (some .int) (some (.int res.1)) res.2) (hrec80 : ∀ (T : TT) (x2 : Int32) (x3 : Int32) (x4 : Int32) (hx5 : Nat × Nat) (x6 : Int32) (x7 : Int32) (x8 : Int32), kok hx5.1 hx5.2 → rec80 T x2 x3 x4 hx5 x6 x7 x8 = some res → Wk B X 9 T 80 [(0, .ref (B.1 4 0)), (2, .int x2), (3, .int x3), (4, .int x4), (5, .ref (B.1 hx5.1 hx5.2)), (6, .int x6), (7, .int x7), (8, .int x8)] []) (T : TT) (x2 : Int32) (x3 : Int32) (x4 : Int32) (hx5 : Nat × Nat) (x6 : Int32) (x7 : Int32) (x8 : Int32) (hkx5 : kok hx5.1 hx5.2) (h : m_X10_then_h80 rec80 T x2 x3 x4 hx5 x6 x7 x8 = some res) : Wk B X 9 T 80 [(0, .ref (B.1 4 0)), (2, .int x2), (3, .int x3), (4, .int x4), (5, .ref (B.1 hx5.1 hx5.2)), (6, .int x6), (7, .int x7), (8, .int x8)] [] := by
  unfold m_X10_then_h80 at h
  refine k_iload (pc := 80) C dX10_then_80 7 rfl ?_
  refine k_iload_n (pc := 82) C dX10_then_82 1 rfl ?_
  refine k_icmp_ge (pc := 83) C 135 dX10_then_83 (by decide) h (fun c16 h => ?_) (fun c16 h => ?_)
  · refine k_iload (pc := 135) C dX10_then_135 3 rfl ?_
    refine k_if_ne (pc := 137) C 145 dX10_then_137 (by decide) h (fun c12 h => ?_) (fun c12 h => ?_)
    · refine k_iload (pc := 145) C dX10_then_145 6 rfl ?_
      exact k_iret (pc := 147) C E (some_1 h) (some_2 h) dX10_then_147
    · refine k_iload (pc := 140) C dX10_then_140 5 rfl ?_
      refine k_goto (pc := 142) C 147 dX10_then_142 (by decide) ?_
      exact k_iret (pc := 147) C E (some_1 h) (some_2 h) dX10_then_147
  · refine k_iload (pc := 86) C dX10_then_86 6 rfl ?_
    refine k_iload_n (pc := 88) C dX10_then_88 2 rfl ?_
    refine k_if_ne (pc := 89) C 115 dX10_then_89 (by decide) h (fun c15 h => ?_) (fun c15 h => ?_)
    · refine k_iconst (pc := 115) (v := (0 : Int32)) C dX10_then_115 ciconst_0 ?_
      refine k_sub [0, 1, 2, 3, 4, 5, 7] rfl ?_
      exact k_X10_then_b116 C E hrec80 T x2 x3 x4 hx5 x6 x8 x7 (0 : Int32) hkx5 h
    · refine k_aload (pc := 92) C dX10_then_92 4 rfl ?_
      refine k_aload_n (pc := 94) C dX10_then_94 0 rfl ?_
      refine gf_X10_12 (pc := 95) C dX10_then_95 ?_
      refine gf_X10_141 (pc := 98) C lt4_0 dX10_then_98 ?_
      refine k_iload (pc := 101) C dX10_then_101 7 rfl ?_
      refine k_iadd (pc := 103) C dX10_then_103 ?_
      obtain ⟨z13, e13, h⟩ := bnd h
      refine k_callsI (pc := 104) C lk_X10_157 (by decide) (kc_X10_seasonOf e13) dX10_then_104 rfl rfl (Nat.le_of_ble_eq_true rfl) ?_
      refine k_iload (pc := 107) C dX10_then_107 5 rfl ?_
      obtain ⟨z14, e14, h⟩ := bnd h
      refine kv_runs (pc := 109) C lk_X10_160 (by decide) hkx5 e14 dX10_then_109 (Nat.le_of_ble_eq_true rfl) ?_
      refine k_goto (pc := 112) C 116 dX10_then_112 (by decide) ?_
      refine k_sub [0, 1, 2, 3, 4, 5, 7] rfl ?_
      exact k_X10_then_b116 C E hrec80 T x2 x3 x4 hx5 x6 x8 x7 z14 hkx5 h
set_option maxHeartbeats 4000000 in
set_option maxRecDepth 100000 in
theorem k_X10_then_l80 {B : KB} {X : KE} {res : Int32 × TT} (C : Cx B X "GriefEngine" cX10_then 9 4) (E : Cr B X (some .int) (some (.int res.1)) res.2) : ∀ (n : Nat) (T : TT) (x2 : Int32) (x3 : Int32) (x4 : Int32) (hx5 : Nat × Nat) (x6 : Int32) (x7 : Int32) (x8 : Int32) (hkx5 : kok hx5.1 hx5.2) (h : m_X10_then_l80 n T x2 x3 x4 hx5 x6 x7 x8 = some res), Wk B X 9 T 80 [(0, .ref (B.1 4 0)), (2, .int x2), (3, .int x3), (4, .int x4), (5, .ref (B.1 hx5.1 hx5.2)), (6, .int x6), (7, .int x7), (8, .int x8)] [] := by
  intro n
  induction n with
  | zero =>
    intro T x2 x3 x4 hx5 x6 x7 x8 hkx5 h
    exact no_some h
  | succ n ih =>
    intro T x2 x3 x4 hx5 x6 x7 x8 hkx5 h
    exact k_X10_then_h80 C E (fun T x2 x3 x4 hx5 x6 x7 x8 hkx5 h => ih T x2 x3 x4 hx5 x6 x7 x8 hkx5 h) T x2 x3 x4 hx5 x6 x7 x8 hkx5 h
set_option maxHeartbeats 4000000 in
set_option maxRecDepth 100000 in
theorem k_X10_then_b38 {B : KB} {X : KE} {res : Int32 × TT} (C : Cx B X "GriefEngine" cX10_then 9 4) (E : Cr B X (some .int) (some (.int res.1)) res.2) (T : TT) (h : m_X10_then_b38 T = some res) : Wk B X 9 T 38 [(0, .ref (B.1 4 0))] [] := by
  unfold m_X10_then_b38 at h
  refine k_aload_n (pc := 38) C dX10_then_38 0 rfl ?_
  refine k_bipush (pc := 39) (v := (-2 : Int32)) C dX10_then_39 cbipush_m2 ?_
  obtain ⟨z20, e20, h⟩ := bnd h
  refine k_callvI (pc := 41) C lk_X10_73 (by decide) ix_X10 wo_X10 rfl rfl (kc_X10_refuse e20) dX10_then_41 rfl rfl (Nat.le_of_ble_eq_true rfl) ?_
  exact k_iret (pc := 44) C E (some_1 h) (some_2 h) dX10_then_44
set_option maxHeartbeats 4000000 in
set_option maxRecDepth 100000 in
theorem kc_X10_then {B : KB} {l : Launch} {T : TT} {x1 : Int32} {x2 : Int32} {x3 : Int32} {x4 : Int32} {res : Int32 × TT} (h : m_X10_then T x1 x2 x3 x4 = some res) : Kt B l 4 yX10_then cX10_then 9 (some .int) T [.ref (B.1 4 0), .int x1, .int x2, .int x3, .int x4] (some (.int res.1)) res.2 := by
  refine Kt.of (by decide) (Nat.le_of_ble_eq_true rfl) (fun X hX C E => ?_)
  subst hX
  have C : Cx B X "GriefEngine" cX10_then 9 4 := C
  show Wk B X 9 T 0 [(0, .ref (B.1 4 0)), (1, .int x1), (2, .int x2), (3, .int x3), (4, .int x4)] []
  unfold m_X10_then at h
  refine k_aload_n (pc := 0) C dX10_then_0 0 rfl ?_
  refine gf_X10_12 (pc := 1) C dX10_then_1 ?_
  refine k_iload_n (pc := 4) C dX10_then_4 1 rfl ?_
  obtain ⟨z1, e1, h⟩ := bnd h
  refine k_callvI (pc := 5) C lk_X10_132 (by decide) (ix_X4 lt4_0) (wo_X4 lt4_0) rfl rfl (kc_X4_has lt4_0 e1) dX10_then_5 rfl rfl (Nat.le_of_ble_eq_true rfl) ?_
  refine k_if_eq (pc := 8) C 38 dX10_then_8 (by decide) h (fun c11 h => ?_) (fun c11 h => ?_)
  · refine k_sub [0] rfl ?_
    exact k_X10_then_b38 C E T h
  · refine k_iload_n (pc := 11) C dX10_then_11 2 rfl ?_
    refine k_iconst (pc := 12) (v := (0 : Int32)) C dX10_then_12 ciconst_0 ?_
    refine k_bipush (pc := 13) (v := (99 : Int32)) C dX10_then_13 cbipush_99 ?_
    obtain ⟨z2, e2, h⟩ := bnd h
    refine k_callsI (pc := 15) C lk_X10_69 (by decide) (kc_X10_within e2) dX10_then_15 rfl rfl (Nat.le_of_ble_eq_true rfl) ?_
    refine k_if_eq (pc := 18) C 38 dX10_then_18 (by decide) h (fun c10 h => ?_) (fun c10 h => ?_)
    · refine k_sub [0] rfl ?_
      exact k_X10_then_b38 C E T h
    · refine k_iload_n (pc := 21) C dX10_then_21 3 rfl ?_
      obtain ⟨z3, e3, h⟩ := bnd h
      refine k_callsI (pc := 22) C lk_X10_125 (by decide) (kc_X10_isChoice e3) dX10_then_22 rfl rfl (Nat.le_of_ble_eq_true rfl) ?_
      refine k_if_eq (pc := 25) C 38 dX10_then_25 (by decide) h (fun c9 h => ?_) (fun c9 h => ?_)
      · refine k_sub [0] rfl ?_
        exact k_X10_then_b38 C E T h
      · refine k_iload (pc := 28) C dX10_then_28 4 rfl ?_
        refine k_iconst (pc := 30) (v := (0 : Int32)) C dX10_then_30 ciconst_0 ?_
        refine k_iconst (pc := 31) (v := (1 : Int32)) C dX10_then_31 ciconst_1 ?_
        obtain ⟨z4, e4, h⟩ := bnd h
        refine k_callsI (pc := 32) C lk_X10_69 (by decide) (kc_X10_within e4) dX10_then_32 rfl rfl (Nat.le_of_ble_eq_true rfl) ?_
        refine k_if_ne (pc := 35) C 45 dX10_then_35 (by decide) h (fun c8 h => ?_) (fun c8 h => ?_)
        · refine k_aload_n (pc := 45) C dX10_then_45 0 rfl ?_
          refine gf_X10_12 (pc := 46) C dX10_then_46 ?_
          refine k_iload_n (pc := 49) C dX10_then_49 1 rfl ?_
          obtain ⟨z5, e5, h⟩ := bnd h
          have hz5 := kr_X4_kindOf lt4_0 e5
          refine k_callvA (pc := 50) C lk_X10_153 (by decide) (ix_X4 lt4_0) (wo_X4 lt4_0) rfl rfl (kc_X4_kindOf lt4_0 e5) dX10_then_50 rfl rfl (Nat.le_of_ble_eq_true rfl) ?_
          refine k_astore (pc := 53) C [(5, .ref (B.1 z5.1 z5.2)), (0, .ref (B.1 4 0)), (1, .int x1), (2, .int x2), (3, .int x3), (4, .int x4)] dX10_then_53 (by decide) rfl ?_
          refine k_aload_n (pc := 55) C dX10_then_55 1 rfl ?_
          refine gf_X10_12 (pc := 56) C dX10_then_56 ?_
          refine gf_X10_147 (pc := 59) C lt4_0 dX10_then_59 ?_
          refine k_iload_n (pc := 62) C dX10_then_62 2 rfl ?_
          refine k_iald (pc := 63) C (ia_R3 lt4_0) dX10_then_63 h (fun h => ?_)
          refine k_nI h (fun y6 h => ?_)
          refine k_istore (pc := 64) C [(6, .int y6), (5, .ref (B.1 z5.1 z5.2)), (0, .ref (B.1 4 0)), (1, .int x1), (2, .int x2), (3, .int x3), (4, .int x4)] dX10_then_64 (by decide) rfl ?_
          refine k_aload_n (pc := 66) C dX10_then_66 2 rfl ?_
          refine gf_X10_12 (pc := 67) C dX10_then_67 ?_
          refine gf_X10_150 (pc := 70) C lt4_0 dX10_then_70 ?_
          refine k_iload_n (pc := 73) C dX10_then_73 3 rfl ?_
          refine k_iald (pc := 74) C (ia_R4 lt4_0) dX10_then_74 h (fun h => ?_)
          refine k_nI h (fun y7 h => ?_)
          refine k_istore (pc := 75) C [(7, .int y7), (6, .int y6), (5, .ref (B.1 z5.1 z5.2)), (0, .ref (B.1 4 0)), (1, .int x1), (2, .int x2), (3, .int x3), (4, .int x4)] dX10_then_75 (by decide) rfl ?_
          refine k_iconst (pc := 77) (v := (0 : Int32)) C dX10_then_77 ciconst_0 ?_
          refine k_istore (pc := 78) C [(8, .int (0 : Int32)), (7, .int y7), (6, .int y6), (5, .ref (B.1 z5.1 z5.2)), (0, .ref (B.1 4 0)), (1, .int x1), (2, .int x2), (3, .int x3), (4, .int x4)] dX10_then_78 (by decide) rfl ?_
          refine k_sub [4, 6, 7, 8, 3, 2, 1, 0] rfl ?_
          exact k_X10_then_l80 C E FU T x2 x3 x4 z5 y6 y7 (0 : Int32) hz5 h
        · refine k_sub [0] rfl ?_
          exact k_X10_then_b38 C E T h
def m_X10_over_h40 (rec40 : TT → (Nat × Nat) → Int32 → Int32 → Option (Int32 × TT)) (T : TT) (hx2 : Nat × Nat) (x3 : Int32) (x4 : Int32) : Option (Int32 × TT) := if (99 : Int32) < x4 then (some ((-1 : Int32), T)) else (if x3 = 0 then (some (x4, T)) else ((v_left hx2 (0 : Int32) x3).bind (fun z6 => bT (x4 + (1 : Int32)) (fun y7 => rec40 T hx2 z6 y7))))
def m_X10_over_l40 : Nat → TT → (Nat × Nat) → Int32 → Int32 → Option (Int32 × TT)
  | 0 => fun _ _ _ _ => none
  | n + 1 => fun T hx2 x3 x4 => m_X10_over_h40 (m_X10_over_l40 n) T hx2 x3 x4
def m_X10_over (T : TT) (x1 : Int32) : Option (Int32 × TT) := (m_X4_has T 0 x1).bind (fun z1 => if z1 = 0 then ((m_X10_refuse T (-2 : Int32)).bind (fun z4 => some (z4.1, z4.2))) else ((m_X4_kindOf T 0 x1).bind (fun z2 => if inb x1 6 then (bT (T.1 0 3 (Int32.toNatClampNeg x1)) (fun y3 => m_X10_over_l40 FU T z2 y3 (0 : Int32))) else none)))
set_option maxHeartbeats 4000000 in
set_option maxRecDepth 100000 in
theorem k_X10_over_h40 {B : KB} {X : KE} {rec40 : TT → (Nat × Nat) → Int32 → Int32 → Option (Int32 × TT)} {res : Int32 × TT} (C : Cx B X "GriefEngine" cX10_over 5 4) (E : Cr B X (some .int) (some (.int res.1)) res.2) (hrec40 : ∀ (T : TT) (hx2 : Nat × Nat) (x3 : Int32) (x4 : Int32), kok hx2.1 hx2.2 → rec40 T hx2 x3 x4 = some res → Wk B X 5 T 40 [(2, .ref (B.1 hx2.1 hx2.2)), (3, .int x3), (4, .int x4)] []) (T : TT) (hx2 : Nat × Nat) (x3 : Int32) (x4 : Int32) (hkx2 : kok hx2.1 hx2.2) (h : m_X10_over_h40 rec40 T hx2 x3 x4 = some res) : Wk B X 5 T 40 [(2, .ref (B.1 hx2.1 hx2.2)), (3, .int x3), (4, .int x4)] [] := by
  unfold m_X10_over_h40 at h
  refine k_iload (pc := 40) C dX10_over_40 2 rfl ?_
  refine k_bipush (pc := 42) (v := (99 : Int32)) C dX10_over_42 cbipush_99 ?_
  refine k_icmp_gt (pc := 44) C 67 dX10_over_44 (by decide) h (fun c9 h => ?_) (fun c9 h => ?_)
  · refine k_iconst (pc := 67) (v := (-1 : Int32)) C dX10_over_67 ciconst_m1 ?_
    exact k_iret (pc := 68) C E (some_1 h) (some_2 h) dX10_over_68
  · refine k_iload_n (pc := 47) C dX10_over_47 1 rfl ?_
    refine k_if_ne (pc := 48) C 54 dX10_over_48 (by decide) h (fun c8 h => ?_) (fun c8 h => ?_)
    · refine k_aload_n (pc := 54) C dX10_over_54 0 rfl ?_
      refine k_iconst (pc := 55) (v := (0 : Int32)) C dX10_over_55 ciconst_0 ?_
      refine k_iload_n (pc := 56) C dX10_over_56 1 rfl ?_
      obtain ⟨z6, e6, h⟩ := bnd h
      refine kv_left (pc := 57) C lk_X10_165 (by decide) hkx2 e6 dX10_over_57 (Nat.le_of_ble_eq_true rfl) ?_
      refine k_istore_n (pc := 60) C [(3, .int z6), (2, .ref (B.1 hx2.1 hx2.2)), (4, .int x4)] dX10_over_60 (by decide) rfl ?_
      refine k_iincN (pc := 61) (x := x4) (c := (1 : Int32)) C (fun y7 => [(4, .int y7), (3, .int z6), (2, .ref (B.1 hx2.1 hx2.2))]) dX10_over_61 2 rfl ciconst_1 (by decide) (fun _ => rfl) h (fun y7 h => ?_)
      refine k_goto (pc := 64) C 40 dX10_over_64 (by decide) ?_
      refine k_sub [2, 1, 0] rfl ?_
      exact hrec40 T hx2 z6 y7 hkx2 h
    · refine k_iload (pc := 51) C dX10_over_51 2 rfl ?_
      exact k_iret (pc := 53) C E (some_1 h) (some_2 h) dX10_over_53
set_option maxHeartbeats 4000000 in
set_option maxRecDepth 100000 in
theorem k_X10_over_l40 {B : KB} {X : KE} {res : Int32 × TT} (C : Cx B X "GriefEngine" cX10_over 5 4) (E : Cr B X (some .int) (some (.int res.1)) res.2) : ∀ (n : Nat) (T : TT) (hx2 : Nat × Nat) (x3 : Int32) (x4 : Int32) (hkx2 : kok hx2.1 hx2.2) (h : m_X10_over_l40 n T hx2 x3 x4 = some res), Wk B X 5 T 40 [(2, .ref (B.1 hx2.1 hx2.2)), (3, .int x3), (4, .int x4)] [] := by
  intro n
  induction n with
  | zero =>
    intro T hx2 x3 x4 hkx2 h
    exact no_some h
  | succ n ih =>
    intro T hx2 x3 x4 hkx2 h
    exact k_X10_over_h40 C E (fun T hx2 x3 x4 hkx2 h => ih T hx2 x3 x4 hkx2 h) T hx2 x3 x4 hkx2 h
set_option maxHeartbeats 4000000 in
set_option maxRecDepth 100000 in
theorem kc_X10_over {B : KB} {l : Launch} {T : TT} {x1 : Int32} {res : Int32 × TT} (h : m_X10_over T x1 = some res) : Kt B l 4 yX10_over cX10_over 5 (some .int) T [.ref (B.1 4 0), .int x1] (some (.int res.1)) res.2 := by
  refine Kt.of (by decide) (Nat.le_of_ble_eq_true rfl) (fun X hX C E => ?_)
  subst hX
  have C : Cx B X "GriefEngine" cX10_over 5 4 := C
  show Wk B X 5 T 0 [(0, .ref (B.1 4 0)), (1, .int x1)] []
  unfold m_X10_over at h
  refine k_aload_n (pc := 0) C dX10_over_0 0 rfl ?_
  refine gf_X10_12 (pc := 1) C dX10_over_1 ?_
  refine k_iload_n (pc := 4) C dX10_over_4 1 rfl ?_
  obtain ⟨z1, e1, h⟩ := bnd h
  refine k_callvI (pc := 5) C lk_X10_132 (by decide) (ix_X4 lt4_0) (wo_X4 lt4_0) rfl rfl (kc_X4_has lt4_0 e1) dX10_over_5 rfl rfl (Nat.le_of_ble_eq_true rfl) ?_
  refine k_if_ne (pc := 8) C 18 dX10_over_8 (by decide) h (fun c5 h => ?_) (fun c5 h => ?_)
  · refine k_aload_n (pc := 18) C dX10_over_18 0 rfl ?_
    refine gf_X10_12 (pc := 19) C dX10_over_19 ?_
    refine k_iload_n (pc := 22) C dX10_over_22 1 rfl ?_
    obtain ⟨z2, e2, h⟩ := bnd h
    have hz2 := kr_X4_kindOf lt4_0 e2
    refine k_callvA (pc := 23) C lk_X10_153 (by decide) (ix_X4 lt4_0) (wo_X4 lt4_0) rfl rfl (kc_X4_kindOf lt4_0 e2) dX10_over_23 rfl rfl (Nat.le_of_ble_eq_true rfl) ?_
    refine k_astore_n (pc := 26) C [(2, .ref (B.1 z2.1 z2.2)), (0, .ref (B.1 4 0)), (1, .int x1)] dX10_over_26 (by decide) rfl ?_
    refine k_aload_n (pc := 27) C dX10_over_27 1 rfl ?_
    refine gf_X10_12 (pc := 28) C dX10_over_28 ?_
    refine gf_X10_147 (pc := 31) C lt4_0 dX10_over_31 ?_
    refine k_iload_n (pc := 34) C dX10_over_34 2 rfl ?_
    refine k_iald (pc := 35) C (ia_R3 lt4_0) dX10_over_35 h (fun h => ?_)
    refine k_nI h (fun y3 h => ?_)
    refine k_istore_n (pc := 36) C [(3, .int y3), (2, .ref (B.1 z2.1 z2.2)), (0, .ref (B.1 4 0)), (1, .int x1)] dX10_over_36 (by decide) rfl ?_
    refine k_iconst (pc := 37) (v := (0 : Int32)) C dX10_over_37 ciconst_0 ?_
    refine k_istore (pc := 38) C [(4, .int (0 : Int32)), (3, .int y3), (2, .ref (B.1 z2.1 z2.2)), (0, .ref (B.1 4 0)), (1, .int x1)] dX10_over_38 (by decide) rfl ?_
    refine k_sub [2, 1, 0] rfl ?_
    exact k_X10_over_l40 C E FU T z2 y3 (0 : Int32) hz2 h
  · refine k_aload_n (pc := 11) C dX10_over_11 0 rfl ?_
    refine k_bipush (pc := 12) (v := (-2 : Int32)) C dX10_over_12 cbipush_m2 ?_
    obtain ⟨z4, e4, h⟩ := bnd h
    refine k_callvI (pc := 14) C lk_X10_73 (by decide) ix_X10 wo_X10 rfl rfl (kc_X10_refuse e4) dX10_over_14 rfl rfl (Nat.le_of_ble_eq_true rfl) ?_
    exact k_iret (pc := 17) C E (some_1 h) (some_2 h) dX10_over_17
def m_X10_most_b26 (T : TT) : Option (Int32 × TT) := (m_X10_refuse T (-2 : Int32)).bind (fun z11 => some ((-10 : Int32), z11.2))
def m_X10_most (T : TT) (x1 : Int32) (x2 : Int32) (x3 : Int32) : Option (Int32 × TT) := (m_X4_has T 0 x1).bind (fun z1 => if z1 = 0 then (m_X10_most_b26 T) else ((m_X10_within x2 (1 : Int32) (7 : Int32)).bind (fun z2 => if z2 = 0 then (m_X10_most_b26 T) else (if (-1 : Int32) ≤ x3 then (if x3 < x2 then ((m_X5_reckon T 0 x1 x2).bind (fun z3 => if x3 = (-1 : Int32) then ((m_X5_mostMiles z3).bind (fun z5 => some (z5, z3))) else ((m_X5_choiceOf z3 x3).bind (fun z4 => some (z4, z3))))) else (some ((-5 : Int32), T))) else (m_X10_most_b26 T)))))
set_option maxHeartbeats 4000000 in
set_option maxRecDepth 100000 in
theorem k_X10_most_b26 {B : KB} {X : KE} {res : Int32 × TT} (C : Cx B X "GriefEngine" cX10_most 4 7) (E : Cr B X (some .int) (some (.int res.1)) res.2) (T : TT) (h : m_X10_most_b26 T = some res) : Wk B X 4 T 26 [(0, .ref (B.1 4 0))] [] := by
  unfold m_X10_most_b26 at h
  refine k_aload_n (pc := 26) C dX10_most_26 0 rfl ?_
  refine k_bipush (pc := 27) (v := (-2 : Int32)) C dX10_most_27 cbipush_m2 ?_
  obtain ⟨z11, e11, h⟩ := bnd h
  refine k_callvI (pc := 29) C lk_X10_73 (by decide) ix_X10 wo_X10 rfl rfl (kc_X10_refuse e11) dX10_most_29 rfl rfl (Nat.le_of_ble_eq_true rfl) ?_
  refine k_pop (pc := 32) C dX10_most_32 rfl ?_
  refine k_bipush (pc := 33) (v := (-10 : Int32)) C dX10_most_33 cbipush_m10 ?_
  exact k_iret (pc := 35) C E (some_1 h) (some_2 h) dX10_most_35
set_option maxHeartbeats 4000000 in
set_option maxRecDepth 100000 in
theorem kc_X10_most {B : KB} {l : Launch} {T : TT} {x1 : Int32} {x2 : Int32} {x3 : Int32} {res : Int32 × TT} (h : m_X10_most T x1 x2 x3 = some res) : Kt B l 7 yX10_most cX10_most 4 (some .int) T [.ref (B.1 4 0), .int x1, .int x2, .int x3] (some (.int res.1)) res.2 := by
  refine Kt.of (by decide) (Nat.le_of_ble_eq_true rfl) (fun X hX C E => ?_)
  subst hX
  have C : Cx B X "GriefEngine" cX10_most 4 7 := C
  show Wk B X 4 T 0 [(0, .ref (B.1 4 0)), (1, .int x1), (2, .int x2), (3, .int x3)] []
  unfold m_X10_most at h
  refine k_aload_n (pc := 0) C dX10_most_0 0 rfl ?_
  refine gf_X10_12 (pc := 1) C dX10_most_1 ?_
  refine k_iload_n (pc := 4) C dX10_most_4 1 rfl ?_
  obtain ⟨z1, e1, h⟩ := bnd h
  refine k_callvI (pc := 5) C lk_X10_132 (by decide) (ix_X4 lt4_0) (wo_X4 lt4_0) rfl rfl (kc_X4_has lt4_0 e1) dX10_most_5 rfl rfl (Nat.le_of_ble_eq_true rfl) ?_
  refine k_if_eq (pc := 8) C 26 dX10_most_8 (by decide) h (fun c10 h => ?_) (fun c10 h => ?_)
  · refine k_sub [0] rfl ?_
    exact k_X10_most_b26 C E T h
  · refine k_iload_n (pc := 11) C dX10_most_11 2 rfl ?_
    refine k_iconst (pc := 12) (v := (1 : Int32)) C dX10_most_12 ciconst_1 ?_
    refine k_bipush (pc := 13) (v := (7 : Int32)) C dX10_most_13 cbipush_7 ?_
    obtain ⟨z2, e2, h⟩ := bnd h
    refine k_callsI (pc := 15) C lk_X10_69 (by decide) (kc_X10_within e2) dX10_most_15 rfl rfl (Nat.le_of_ble_eq_true rfl) ?_
    refine k_if_eq (pc := 18) C 26 dX10_most_18 (by decide) h (fun c9 h => ?_) (fun c9 h => ?_)
    · refine k_sub [0] rfl ?_
      exact k_X10_most_b26 C E T h
    · refine k_iload_n (pc := 21) C dX10_most_21 3 rfl ?_
      refine k_iconst (pc := 22) (v := (-1 : Int32)) C dX10_most_22 ciconst_m1 ?_
      refine k_icmp_ge (pc := 23) C 36 dX10_most_23 (by decide) h (fun c8 h => ?_) (fun c8 h => ?_)
      · refine k_iload_n (pc := 36) C dX10_most_36 3 rfl ?_
        refine k_iload_n (pc := 37) C dX10_most_37 2 rfl ?_
        refine k_icmp_lt (pc := 38) C 44 dX10_most_38 (by decide) h (fun c7 h => ?_) (fun c7 h => ?_)
        · refine k_aload_n (pc := 44) C dX10_most_44 0 rfl ?_
          refine gf_X10_37 (pc := 45) C dX10_most_45 ?_
          refine k_aload_n (pc := 48) C dX10_most_48 0 rfl ?_
          refine gf_X10_12 (pc := 49) C dX10_most_49 ?_
          refine k_iload_n (pc := 52) C dX10_most_52 1 rfl ?_
          refine k_iload_n (pc := 53) C dX10_most_53 2 rfl ?_
          obtain ⟨z3, e3, h⟩ := bnd h
          refine k_callvV (pc := 54) C lk_X10_168 (by decide) ix_X5 wo_X5 rfl rfl (kc_X5_reckon lt4_0 e3) dX10_most_54 rfl rfl (Nat.le_of_ble_eq_true rfl) ?_
          refine k_iload_n (pc := 57) C dX10_most_57 3 rfl ?_
          refine k_iconst (pc := 58) (v := (-1 : Int32)) C dX10_most_58 ciconst_m1 ?_
          refine k_icmp_ne (pc := 59) C 72 dX10_most_59 (by decide) h (fun c6 h => ?_) (fun c6 h => ?_)
          · refine k_aload_n (pc := 72) C dX10_most_72 0 rfl ?_
            refine gf_X10_37 (pc := 73) C dX10_most_73 ?_
            refine k_iload_n (pc := 76) C dX10_most_76 3 rfl ?_
            obtain ⟨z4, e4, h⟩ := bnd h
            refine k_callvI (pc := 77) C lk_X10_176 (by decide) ix_X5 wo_X5 rfl rfl (kc_X5_choiceOf e4) dX10_most_77 rfl rfl (Nat.le_of_ble_eq_true rfl) ?_
            exact k_iret (pc := 80) C E (some_1 h) (some_2 h) dX10_most_80
          · refine k_aload_n (pc := 62) C dX10_most_62 0 rfl ?_
            refine gf_X10_37 (pc := 63) C dX10_most_63 ?_
            obtain ⟨z5, e5, h⟩ := bnd h
            refine k_callvI (pc := 66) C lk_X10_172 (by decide) ix_X5 wo_X5 rfl rfl (kc_X5_mostMiles e5) dX10_most_66 rfl rfl (Nat.le_of_ble_eq_true rfl) ?_
            refine k_goto (pc := 69) C 80 dX10_most_69 (by decide) ?_
            exact k_iret (pc := 80) C E (some_1 h) (some_2 h) dX10_most_80
        · refine k_bipush (pc := 41) (v := (-5 : Int32)) C dX10_most_41 cbipush_m5 ?_
          exact k_iret (pc := 43) C E (some_1 h) (some_2 h) dX10_most_43
      · refine k_sub [0] rfl ?_
        exact k_X10_most_b26 C E T h
def m_X10_soonest_b22 (T : TT) : Option (Int32 × TT) := (m_X10_refuse T (-2 : Int32)).bind (fun z7 => some (z7.1, z7.2))
def m_X10_soonest (T : TT) (x1 : Int32) (x2 : Int32) : Option (Int32 × TT) := (m_X4_has T 0 x1).bind (fun z1 => if z1 = 0 then (m_X10_soonest_b22 T) else ((m_X10_within x2 (1 : Int32) (999 : Int32)).bind (fun z2 => if z2 = 0 then (m_X10_soonest_b22 T) else ((m_X5_reckon T 0 x1 (7 : Int32)).bind (fun z3 => (m_X5_fewestDaysFor z3 x2).bind (fun z4 => some (z4, z3)))))))
set_option maxHeartbeats 4000000 in
set_option maxRecDepth 100000 in
theorem k_X10_soonest_b22 {B : KB} {X : KE} {res : Int32 × TT} (C : Cx B X "GriefEngine" cX10_soonest 3 7) (E : Cr B X (some .int) (some (.int res.1)) res.2) (T : TT) (h : m_X10_soonest_b22 T = some res) : Wk B X 3 T 22 [(0, .ref (B.1 4 0))] [] := by
  unfold m_X10_soonest_b22 at h
  refine k_aload_n (pc := 22) C dX10_soonest_22 0 rfl ?_
  refine k_bipush (pc := 23) (v := (-2 : Int32)) C dX10_soonest_23 cbipush_m2 ?_
  obtain ⟨z7, e7, h⟩ := bnd h
  refine k_callvI (pc := 25) C lk_X10_73 (by decide) ix_X10 wo_X10 rfl rfl (kc_X10_refuse e7) dX10_soonest_25 rfl rfl (Nat.le_of_ble_eq_true rfl) ?_
  exact k_iret (pc := 28) C E (some_1 h) (some_2 h) dX10_soonest_28
set_option maxHeartbeats 4000000 in
set_option maxRecDepth 100000 in
theorem kc_X10_soonest {B : KB} {l : Launch} {T : TT} {x1 : Int32} {x2 : Int32} {res : Int32 × TT} (h : m_X10_soonest T x1 x2 = some res) : Kt B l 7 yX10_soonest cX10_soonest 3 (some .int) T [.ref (B.1 4 0), .int x1, .int x2] (some (.int res.1)) res.2 := by
  refine Kt.of (by decide) (Nat.le_of_ble_eq_true rfl) (fun X hX C E => ?_)
  subst hX
  have C : Cx B X "GriefEngine" cX10_soonest 3 7 := C
  show Wk B X 3 T 0 [(0, .ref (B.1 4 0)), (1, .int x1), (2, .int x2)] []
  unfold m_X10_soonest at h
  refine k_aload_n (pc := 0) C dX10_soonest_0 0 rfl ?_
  refine gf_X10_12 (pc := 1) C dX10_soonest_1 ?_
  refine k_iload_n (pc := 4) C dX10_soonest_4 1 rfl ?_
  obtain ⟨z1, e1, h⟩ := bnd h
  refine k_callvI (pc := 5) C lk_X10_132 (by decide) (ix_X4 lt4_0) (wo_X4 lt4_0) rfl rfl (kc_X4_has lt4_0 e1) dX10_soonest_5 rfl rfl (Nat.le_of_ble_eq_true rfl) ?_
  refine k_if_eq (pc := 8) C 22 dX10_soonest_8 (by decide) h (fun c6 h => ?_) (fun c6 h => ?_)
  · refine k_sub [0] rfl ?_
    exact k_X10_soonest_b22 C E T h
  · refine k_iload_n (pc := 11) C dX10_soonest_11 2 rfl ?_
    refine k_iconst (pc := 12) (v := (1 : Int32)) C dX10_soonest_12 ciconst_1 ?_
    refine k_sipush (pc := 13) (v := (999 : Int32)) C dX10_soonest_13 csipush_999 ?_
    obtain ⟨z2, e2, h⟩ := bnd h
    refine k_callsI (pc := 16) C lk_X10_69 (by decide) (kc_X10_within e2) dX10_soonest_16 rfl rfl (Nat.le_of_ble_eq_true rfl) ?_
    refine k_if_ne (pc := 19) C 29 dX10_soonest_19 (by decide) h (fun c5 h => ?_) (fun c5 h => ?_)
    · refine k_aload_n (pc := 29) C dX10_soonest_29 0 rfl ?_
      refine gf_X10_37 (pc := 30) C dX10_soonest_30 ?_
      refine k_aload_n (pc := 33) C dX10_soonest_33 0 rfl ?_
      refine gf_X10_12 (pc := 34) C dX10_soonest_34 ?_
      refine k_iload_n (pc := 37) C dX10_soonest_37 1 rfl ?_
      refine k_bipush (pc := 38) (v := (7 : Int32)) C dX10_soonest_38 cbipush_7 ?_
      obtain ⟨z3, e3, h⟩ := bnd h
      refine k_callvV (pc := 40) C lk_X10_168 (by decide) ix_X5 wo_X5 rfl rfl (kc_X5_reckon lt4_0 e3) dX10_soonest_40 rfl rfl (Nat.le_of_ble_eq_true rfl) ?_
      refine k_aload_n (pc := 43) C dX10_soonest_43 0 rfl ?_
      refine gf_X10_37 (pc := 44) C dX10_soonest_44 ?_
      refine k_iload_n (pc := 47) C dX10_soonest_47 2 rfl ?_
      obtain ⟨z4, e4, h⟩ := bnd h
      refine k_callvI (pc := 48) C lk_X10_179 (by decide) ix_X5 wo_X5 rfl rfl (kc_X5_fewestDaysFor e4) dX10_soonest_48 rfl rfl (Nat.le_of_ble_eq_true rfl) ?_
      exact k_iret (pc := 51) C E (some_1 h) (some_2 h) dX10_soonest_51
    · refine k_sub [0] rfl ?_
      exact k_X10_soonest_b22 C E T h
def m_X10_home_b30 (T : TT) : Option (Int32 × TT) := (m_X10_refuse T (-2 : Int32)).bind (fun z12 => some (z12.1, z12.2))
def m_X10_home (T : TT) (x1 : Int32) (x2 : Int32) (x3 : Int32) : Option (Int32 × TT) := (m_X4_has T 0 x1).bind (fun z1 => if z1 = 0 then (m_X10_home_b30 T) else ((m_X10_within x2 (2 : Int32) (7 : Int32)).bind (fun z2 => if z2 = 0 then (m_X10_home_b30 T) else ((m_X10_within x3 (0 : Int32) (1 : Int32)).bind (fun z3 => if z3 = 0 then (m_X10_home_b30 T) else ((m_X5_reckon T 0 x1 x2).bind (fun z4 => if x3 = 0 then ((m_X5_farthestTurn z4).bind (fun z7 => some (z7, z4))) else ((m_X5_farthestTurn z4).bind (fun z5 => (m_X5_firstTurnAt z4 z5).bind (fun z6 => some (z6, z4)))))))))))
set_option maxHeartbeats 4000000 in
set_option maxRecDepth 100000 in
theorem k_X10_home_b30 {B : KB} {X : KE} {res : Int32 × TT} (C : Cx B X "GriefEngine" cX10_home 4 7) (E : Cr B X (some .int) (some (.int res.1)) res.2) (T : TT) (h : m_X10_home_b30 T = some res) : Wk B X 4 T 30 [(0, .ref (B.1 4 0))] [] := by
  unfold m_X10_home_b30 at h
  refine k_aload_n (pc := 30) C dX10_home_30 0 rfl ?_
  refine k_bipush (pc := 31) (v := (-2 : Int32)) C dX10_home_31 cbipush_m2 ?_
  obtain ⟨z12, e12, h⟩ := bnd h
  refine k_callvI (pc := 33) C lk_X10_73 (by decide) ix_X10 wo_X10 rfl rfl (kc_X10_refuse e12) dX10_home_33 rfl rfl (Nat.le_of_ble_eq_true rfl) ?_
  exact k_iret (pc := 36) C E (some_1 h) (some_2 h) dX10_home_36
set_option maxHeartbeats 4000000 in
set_option maxRecDepth 100000 in
theorem kc_X10_home {B : KB} {l : Launch} {T : TT} {x1 : Int32} {x2 : Int32} {x3 : Int32} {res : Int32 × TT} (h : m_X10_home T x1 x2 x3 = some res) : Kt B l 7 yX10_home cX10_home 4 (some .int) T [.ref (B.1 4 0), .int x1, .int x2, .int x3] (some (.int res.1)) res.2 := by
  refine Kt.of (by decide) (Nat.le_of_ble_eq_true rfl) (fun X hX C E => ?_)
  subst hX
  have C : Cx B X "GriefEngine" cX10_home 4 7 := C
  show Wk B X 4 T 0 [(0, .ref (B.1 4 0)), (1, .int x1), (2, .int x2), (3, .int x3)] []
  unfold m_X10_home at h
  refine k_aload_n (pc := 0) C dX10_home_0 0 rfl ?_
  refine gf_X10_12 (pc := 1) C dX10_home_1 ?_
  refine k_iload_n (pc := 4) C dX10_home_4 1 rfl ?_
  obtain ⟨z1, e1, h⟩ := bnd h
  refine k_callvI (pc := 5) C lk_X10_132 (by decide) (ix_X4 lt4_0) (wo_X4 lt4_0) rfl rfl (kc_X4_has lt4_0 e1) dX10_home_5 rfl rfl (Nat.le_of_ble_eq_true rfl) ?_
  refine k_if_eq (pc := 8) C 30 dX10_home_8 (by decide) h (fun c11 h => ?_) (fun c11 h => ?_)
  · refine k_sub [0] rfl ?_
    exact k_X10_home_b30 C E T h
  · refine k_iload_n (pc := 11) C dX10_home_11 2 rfl ?_
    refine k_iconst (pc := 12) (v := (2 : Int32)) C dX10_home_12 ciconst_2 ?_
    refine k_bipush (pc := 13) (v := (7 : Int32)) C dX10_home_13 cbipush_7 ?_
    obtain ⟨z2, e2, h⟩ := bnd h
    refine k_callsI (pc := 15) C lk_X10_69 (by decide) (kc_X10_within e2) dX10_home_15 rfl rfl (Nat.le_of_ble_eq_true rfl) ?_
    refine k_if_eq (pc := 18) C 30 dX10_home_18 (by decide) h (fun c10 h => ?_) (fun c10 h => ?_)
    · refine k_sub [0] rfl ?_
      exact k_X10_home_b30 C E T h
    · refine k_iload_n (pc := 21) C dX10_home_21 3 rfl ?_
      refine k_iconst (pc := 22) (v := (0 : Int32)) C dX10_home_22 ciconst_0 ?_
      refine k_iconst (pc := 23) (v := (1 : Int32)) C dX10_home_23 ciconst_1 ?_
      obtain ⟨z3, e3, h⟩ := bnd h
      refine k_callsI (pc := 24) C lk_X10_69 (by decide) (kc_X10_within e3) dX10_home_24 rfl rfl (Nat.le_of_ble_eq_true rfl) ?_
      refine k_if_ne (pc := 27) C 37 dX10_home_27 (by decide) h (fun c9 h => ?_) (fun c9 h => ?_)
      · refine k_aload_n (pc := 37) C dX10_home_37 0 rfl ?_
        refine gf_X10_37 (pc := 38) C dX10_home_38 ?_
        refine k_aload_n (pc := 41) C dX10_home_41 0 rfl ?_
        refine gf_X10_12 (pc := 42) C dX10_home_42 ?_
        refine k_iload_n (pc := 45) C dX10_home_45 1 rfl ?_
        refine k_iload_n (pc := 46) C dX10_home_46 2 rfl ?_
        obtain ⟨z4, e4, h⟩ := bnd h
        refine k_callvV (pc := 47) C lk_X10_168 (by decide) ix_X5 wo_X5 rfl rfl (kc_X5_reckon lt4_0 e4) dX10_home_47 rfl rfl (Nat.le_of_ble_eq_true rfl) ?_
        refine k_iload_n (pc := 50) C dX10_home_50 3 rfl ?_
        refine k_if_ne (pc := 51) C 64 dX10_home_51 (by decide) h (fun c8 h => ?_) (fun c8 h => ?_)
        · refine k_aload_n (pc := 64) C dX10_home_64 0 rfl ?_
          refine gf_X10_37 (pc := 65) C dX10_home_65 ?_
          refine k_aload_n (pc := 68) C dX10_home_68 0 rfl ?_
          refine gf_X10_37 (pc := 69) C dX10_home_69 ?_
          obtain ⟨z5, e5, h⟩ := bnd h
          refine k_callvI (pc := 72) C lk_X10_182 (by decide) ix_X5 wo_X5 rfl rfl (kc_X5_farthestTurn e5) dX10_home_72 rfl rfl (Nat.le_of_ble_eq_true rfl) ?_
          obtain ⟨z6, e6, h⟩ := bnd h
          refine k_callvI (pc := 75) C lk_X10_185 (by decide) ix_X5 wo_X5 rfl rfl (kc_X5_firstTurnAt e6) dX10_home_75 rfl rfl (Nat.le_of_ble_eq_true rfl) ?_
          exact k_iret (pc := 78) C E (some_1 h) (some_2 h) dX10_home_78
        · refine k_aload_n (pc := 54) C dX10_home_54 0 rfl ?_
          refine gf_X10_37 (pc := 55) C dX10_home_55 ?_
          obtain ⟨z7, e7, h⟩ := bnd h
          refine k_callvI (pc := 58) C lk_X10_182 (by decide) ix_X5 wo_X5 rfl rfl (kc_X5_farthestTurn e7) dX10_home_58 rfl rfl (Nat.le_of_ble_eq_true rfl) ?_
          refine k_goto (pc := 61) C 78 dX10_home_61 (by decide) ?_
          exact k_iret (pc := 78) C E (some_1 h) (some_2 h) dX10_home_78
      · refine k_sub [0] rfl ?_
        exact k_X10_home_b30 C E T h
def m_X10_tell_b26 (T : TT) (x1 : Int32) : Option (Int32 × TT) := (m_X2_reckon T 0).bind (fun z5 => if x1 = (-1 : Int32) then (some ((z5.2.1 7 1), z5)) else (if inb x1 6 then (some ((z5.1 7 1 (Int32.toNatClampNeg x1)), z5)) else none))
def m_X10_tell (T : TT) (x1 : Int32) : Option (Int32 × TT) := if x1 = (-1 : Int32) then (m_X10_tell_b26 T x1) else ((m_X4_has T 0 x1).bind (fun z1 => if z1 = 0 then ((m_X10_refuse T (-2 : Int32)).bind (fun z2 => some ((-10 : Int32), z2.2))) else (m_X10_tell_b26 T x1)))
set_option maxHeartbeats 4000000 in
set_option maxRecDepth 100000 in
theorem k_X10_tell_b26 {B : KB} {X : KE} {res : Int32 × TT} (C : Cx B X "GriefEngine" cX10_tell 2 16) (E : Cr B X (some .int) (some (.int res.1)) res.2) (T : TT) (x1 : Int32) (h : m_X10_tell_b26 T x1 = some res) : Wk B X 2 T 26 [(0, .ref (B.1 4 0)), (1, .int x1)] [] := by
  unfold m_X10_tell_b26 at h
  refine k_aload_n (pc := 26) C dX10_tell_26 0 rfl ?_
  refine gf_X10_44 (pc := 27) C dX10_tell_27 ?_
  refine k_aload_n (pc := 30) C dX10_tell_30 0 rfl ?_
  refine gf_X10_12 (pc := 31) C dX10_tell_31 ?_
  obtain ⟨z5, e5, h⟩ := bnd h
  refine k_callvV (pc := 34) C lk_X10_188 (by decide) ix_X2 wo_X2 rfl rfl (kc_X2_reckon lt4_0 e5) dX10_tell_34 rfl rfl (Nat.le_of_ble_eq_true rfl) ?_
  refine k_iload_n (pc := 37) C dX10_tell_37 1 rfl ?_
  refine k_iconst (pc := 38) (v := (-1 : Int32)) C dX10_tell_38 ciconst_m1 ?_
  refine k_icmp_ne (pc := 39) C 52 dX10_tell_39 (by decide) h (fun c6 h => ?_) (fun c6 h => ?_)
  · refine k_aload_n (pc := 52) C dX10_tell_52 0 rfl ?_
    refine gf_X10_44 (pc := 53) C dX10_tell_53 ?_
    refine gf_X10_193 (pc := 56) C dX10_tell_56 ?_
    refine k_iload_n (pc := 59) C dX10_tell_59 1 rfl ?_
    refine k_iald (pc := 60) C ia_7_1 dX10_tell_60 h (fun h => ?_)
    exact k_iret (pc := 61) C E (some_1 h) (some_2 h) dX10_tell_61
  · refine k_aload_n (pc := 42) C dX10_tell_42 0 rfl ?_
    refine gf_X10_44 (pc := 43) C dX10_tell_43 ?_
    refine gf_X10_190 (pc := 46) C dX10_tell_46 ?_
    refine k_goto (pc := 49) C 61 dX10_tell_49 (by decide) ?_
    exact k_iret (pc := 61) C E (some_1 h) (some_2 h) dX10_tell_61
set_option maxHeartbeats 4000000 in
set_option maxRecDepth 100000 in
theorem kc_X10_tell {B : KB} {l : Launch} {T : TT} {x1 : Int32} {res : Int32 × TT} (h : m_X10_tell T x1 = some res) : Kt B l 16 yX10_tell cX10_tell 2 (some .int) T [.ref (B.1 4 0), .int x1] (some (.int res.1)) res.2 := by
  refine Kt.of (by decide) (Nat.le_of_ble_eq_true rfl) (fun X hX C E => ?_)
  subst hX
  have C : Cx B X "GriefEngine" cX10_tell 2 16 := C
  show Wk B X 2 T 0 [(0, .ref (B.1 4 0)), (1, .int x1)] []
  unfold m_X10_tell at h
  refine k_iload_n (pc := 0) C dX10_tell_0 1 rfl ?_
  refine k_iconst (pc := 1) (v := (-1 : Int32)) C dX10_tell_1 ciconst_m1 ?_
  refine k_icmp_eq (pc := 2) C 26 dX10_tell_2 (by decide) h (fun c4 h => ?_) (fun c4 h => ?_)
  · refine k_sub [0, 1] rfl ?_
    exact k_X10_tell_b26 C E T x1 h
  · refine k_aload_n (pc := 5) C dX10_tell_5 0 rfl ?_
    refine gf_X10_12 (pc := 6) C dX10_tell_6 ?_
    refine k_iload_n (pc := 9) C dX10_tell_9 1 rfl ?_
    obtain ⟨z1, e1, h⟩ := bnd h
    refine k_callvI (pc := 10) C lk_X10_132 (by decide) (ix_X4 lt4_0) (wo_X4 lt4_0) rfl rfl (kc_X4_has lt4_0 e1) dX10_tell_10 rfl rfl (Nat.le_of_ble_eq_true rfl) ?_
    refine k_if_ne (pc := 13) C 26 dX10_tell_13 (by decide) h (fun c3 h => ?_) (fun c3 h => ?_)
    · refine k_sub [0, 1] rfl ?_
      exact k_X10_tell_b26 C E T x1 h
    · refine k_aload_n (pc := 16) C dX10_tell_16 0 rfl ?_
      refine k_bipush (pc := 17) (v := (-2 : Int32)) C dX10_tell_17 cbipush_m2 ?_
      obtain ⟨z2, e2, h⟩ := bnd h
      refine k_callvI (pc := 19) C lk_X10_73 (by decide) ix_X10 wo_X10 rfl rfl (kc_X10_refuse e2) dX10_tell_19 rfl rfl (Nat.le_of_ble_eq_true rfl) ?_
      refine k_pop (pc := 22) C dX10_tell_22 rfl ?_
      refine k_bipush (pc := 23) (v := (-10 : Int32)) C dX10_tell_23 cbipush_m10 ?_
      exact k_iret (pc := 25) C E (some_1 h) (some_2 h) dX10_tell_25
def m_X10_note_b73 (T : TT) : Option (Int32 × TT) := (m_X10_refuse T (-2 : Int32)).bind (fun z16 => some (z16.1, z16.2))
def m_X10_note_b35 (T : TT) (x1 : Int32) (x2 : Int32) (x3 : Int32) (x4 : Int32) (x5 : Int32) (x6 : Int32) (s0 : Int32) : Option (Int32 × TT) := if s0 = 0 then (m_X10_note_b73 T) else ((m_X10_within x4 (0 : Int32) (200 : Int32)).bind (fun z7 => if z7 = 0 then (m_X10_note_b73 T) else ((m_X10_isChoice x5).bind (fun z8 => if z8 = 0 then (m_X10_note_b73 T) else ((m_X10_within x6 (0 : Int32) (99 : Int32)).bind (fun z9 => if z9 = 0 then (m_X10_note_b73 T) else ((m_X4_addNote T 0 x1 x2 x3 x4 x5 x6).bind (fun z10 => (m_X10_refuseIfFull z10.2 z10.1).bind (fun z11 => some (z11.1, z11.2))))))))))
def m_X10_note_b34 (T : TT) (x1 : Int32) (x2 : Int32) (x3 : Int32) (x4 : Int32) (x5 : Int32) (x6 : Int32) : Option (Int32 × TT) := m_X10_note_b35 T x1 x2 x3 x4 x5 x6 (0 : Int32)
def m_X10_note (T : TT) (x1 : Int32) (x2 : Int32) (x3 : Int32) (x4 : Int32) (x5 : Int32) (x6 : Int32) : Option (Int32 × TT) := (m_X4_has T 0 x1).bind (fun z1 => if z1 = 0 then (m_X10_note_b34 T x1 x2 x3 x4 x5 x6) else ((m_X10_within x2 (0 : Int32) (99 : Int32)).bind (fun z2 => if z2 = 0 then (m_X10_note_b34 T x1 x2 x3 x4 x5 x6) else ((m_X10_within x3 (0 : Int32) (3 : Int32)).bind (fun z3 => if z3 = 0 then (m_X10_note_b34 T x1 x2 x3 x4 x5 x6) else (m_X10_note_b35 T x1 x2 x3 x4 x5 x6 (1 : Int32)))))))
set_option maxHeartbeats 4000000 in
set_option maxRecDepth 100000 in
theorem k_X10_note_b73 {B : KB} {X : KE} {res : Int32 × TT} (C : Cx B X "GriefEngine" cX10_note 8 3) (E : Cr B X (some .int) (some (.int res.1)) res.2) (T : TT) (h : m_X10_note_b73 T = some res) : Wk B X 8 T 73 [(0, .ref (B.1 4 0))] [] := by
  unfold m_X10_note_b73 at h
  refine k_aload_n (pc := 73) C dX10_note_73 0 rfl ?_
  refine k_bipush (pc := 74) (v := (-2 : Int32)) C dX10_note_74 cbipush_m2 ?_
  obtain ⟨z16, e16, h⟩ := bnd h
  refine k_callvI (pc := 76) C lk_X10_73 (by decide) ix_X10 wo_X10 rfl rfl (kc_X10_refuse e16) dX10_note_76 rfl rfl (Nat.le_of_ble_eq_true rfl) ?_
  exact k_iret (pc := 79) C E (some_1 h) (some_2 h) dX10_note_79
set_option maxHeartbeats 4000000 in
set_option maxRecDepth 100000 in
theorem k_X10_note_b35 {B : KB} {X : KE} {res : Int32 × TT} (C : Cx B X "GriefEngine" cX10_note 8 3) (E : Cr B X (some .int) (some (.int res.1)) res.2) (T : TT) (x1 : Int32) (x2 : Int32) (x3 : Int32) (x4 : Int32) (x5 : Int32) (x6 : Int32) (s0 : Int32) (h : m_X10_note_b35 T x1 x2 x3 x4 x5 x6 s0 = some res) : Wk B X 8 T 35 [(0, .ref (B.1 4 0)), (1, .int x1), (2, .int x2), (3, .int x3), (4, .int x4), (5, .int x5), (6, .int x6)] [.int s0] := by
  unfold m_X10_note_b35 at h
  refine k_istore (pc := 35) C [(7, .int s0), (0, .ref (B.1 4 0)), (1, .int x1), (2, .int x2), (3, .int x3), (4, .int x4), (5, .int x5), (6, .int x6)] dX10_note_35 (by decide) rfl ?_
  refine k_iload (pc := 37) C dX10_note_37 0 rfl ?_
  refine k_if_eq (pc := 39) C 73 dX10_note_39 (by decide) h (fun c15 h => ?_) (fun c15 h => ?_)
  · refine k_sub [1] rfl ?_
    exact k_X10_note_b73 C E T h
  · refine k_iload (pc := 42) C dX10_note_42 5 rfl ?_
    refine k_iconst (pc := 44) (v := (0 : Int32)) C dX10_note_44 ciconst_0 ?_
    refine k_sipush (pc := 45) (v := (200 : Int32)) C dX10_note_45 csipush_200 ?_
    obtain ⟨z7, e7, h⟩ := bnd h
    refine k_callsI (pc := 48) C lk_X10_69 (by decide) (kc_X10_within e7) dX10_note_48 rfl rfl (Nat.le_of_ble_eq_true rfl) ?_
    refine k_if_eq (pc := 51) C 73 dX10_note_51 (by decide) h (fun c14 h => ?_) (fun c14 h => ?_)
    · refine k_sub [1] rfl ?_
      exact k_X10_note_b73 C E T h
    · refine k_iload (pc := 54) C dX10_note_54 6 rfl ?_
      obtain ⟨z8, e8, h⟩ := bnd h
      refine k_callsI (pc := 56) C lk_X10_125 (by decide) (kc_X10_isChoice e8) dX10_note_56 rfl rfl (Nat.le_of_ble_eq_true rfl) ?_
      refine k_if_eq (pc := 59) C 73 dX10_note_59 (by decide) h (fun c13 h => ?_) (fun c13 h => ?_)
      · refine k_sub [1] rfl ?_
        exact k_X10_note_b73 C E T h
      · refine k_iload (pc := 62) C dX10_note_62 7 rfl ?_
        refine k_iconst (pc := 64) (v := (0 : Int32)) C dX10_note_64 ciconst_0 ?_
        refine k_bipush (pc := 65) (v := (99 : Int32)) C dX10_note_65 cbipush_99 ?_
        obtain ⟨z9, e9, h⟩ := bnd h
        refine k_callsI (pc := 67) C lk_X10_69 (by decide) (kc_X10_within e9) dX10_note_67 rfl rfl (Nat.le_of_ble_eq_true rfl) ?_
        refine k_if_ne (pc := 70) C 80 dX10_note_70 (by decide) h (fun c12 h => ?_) (fun c12 h => ?_)
        · refine k_aload_n (pc := 80) C dX10_note_80 1 rfl ?_
          refine k_aload_n (pc := 81) C dX10_note_81 1 rfl ?_
          refine gf_X10_12 (pc := 82) C dX10_note_82 ?_
          refine k_iload_n (pc := 85) C dX10_note_85 2 rfl ?_
          refine k_iload_n (pc := 86) C dX10_note_86 3 rfl ?_
          refine k_iload_n (pc := 87) C dX10_note_87 4 rfl ?_
          refine k_iload (pc := 88) C dX10_note_88 5 rfl ?_
          refine k_iload (pc := 90) C dX10_note_90 6 rfl ?_
          refine k_iload (pc := 92) C dX10_note_92 7 rfl ?_
          obtain ⟨z10, e10, h⟩ := bnd h
          refine k_callvI (pc := 94) C lk_X10_196 (by decide) (ix_X4 lt4_0) (wo_X4 lt4_0) rfl rfl (kc_X4_addNote lt4_0 e10) dX10_note_94 rfl rfl (Nat.le_of_ble_eq_true rfl) ?_
          obtain ⟨z11, e11, h⟩ := bnd h
          refine k_callvI (pc := 97) C lk_X10_81 (by decide) ix_X10 wo_X10 rfl rfl (kc_X10_refuseIfFull e11) dX10_note_97 rfl rfl (Nat.le_of_ble_eq_true rfl) ?_
          exact k_iret (pc := 100) C E (some_1 h) (some_2 h) dX10_note_100
        · refine k_sub [1] rfl ?_
          exact k_X10_note_b73 C E T h
set_option maxHeartbeats 4000000 in
set_option maxRecDepth 100000 in
theorem k_X10_note_b34 {B : KB} {X : KE} {res : Int32 × TT} (C : Cx B X "GriefEngine" cX10_note 8 3) (E : Cr B X (some .int) (some (.int res.1)) res.2) (T : TT) (x1 : Int32) (x2 : Int32) (x3 : Int32) (x4 : Int32) (x5 : Int32) (x6 : Int32) (h : m_X10_note_b34 T x1 x2 x3 x4 x5 x6 = some res) : Wk B X 8 T 34 [(0, .ref (B.1 4 0)), (1, .int x1), (2, .int x2), (3, .int x3), (4, .int x4), (5, .int x5), (6, .int x6)] [] := by
  unfold m_X10_note_b34 at h
  refine k_iconst (pc := 34) (v := (0 : Int32)) C dX10_note_34 ciconst_0 ?_
  refine k_sub [0, 1, 2, 3, 4, 5, 6] rfl ?_
  exact k_X10_note_b35 C E T x1 x2 x3 x4 x5 x6 (0 : Int32) h
set_option maxHeartbeats 4000000 in
set_option maxRecDepth 100000 in
theorem kc_X10_note {B : KB} {l : Launch} {T : TT} {x1 : Int32} {x2 : Int32} {x3 : Int32} {x4 : Int32} {x5 : Int32} {x6 : Int32} {res : Int32 × TT} (h : m_X10_note T x1 x2 x3 x4 x5 x6 = some res) : Kt B l 3 yX10_note cX10_note 8 (some .int) T [.ref (B.1 4 0), .int x1, .int x2, .int x3, .int x4, .int x5, .int x6] (some (.int res.1)) res.2 := by
  refine Kt.of (by decide) (Nat.le_of_ble_eq_true rfl) (fun X hX C E => ?_)
  subst hX
  have C : Cx B X "GriefEngine" cX10_note 8 3 := C
  show Wk B X 8 T 0 [(0, .ref (B.1 4 0)), (1, .int x1), (2, .int x2), (3, .int x3), (4, .int x4), (5, .int x5), (6, .int x6)] []
  unfold m_X10_note at h
  refine k_aload_n (pc := 0) C dX10_note_0 0 rfl ?_
  refine gf_X10_12 (pc := 1) C dX10_note_1 ?_
  refine k_iload_n (pc := 4) C dX10_note_4 1 rfl ?_
  obtain ⟨z1, e1, h⟩ := bnd h
  refine k_callvI (pc := 5) C lk_X10_132 (by decide) (ix_X4 lt4_0) (wo_X4 lt4_0) rfl rfl (kc_X4_has lt4_0 e1) dX10_note_5 rfl rfl (Nat.le_of_ble_eq_true rfl) ?_
  refine k_if_eq (pc := 8) C 34 dX10_note_8 (by decide) h (fun c6 h => ?_) (fun c6 h => ?_)
  · refine k_sub [0, 1, 2, 3, 4, 5, 6] rfl ?_
    exact k_X10_note_b34 C E T x1 x2 x3 x4 x5 x6 h
  · refine k_iload_n (pc := 11) C dX10_note_11 2 rfl ?_
    refine k_iconst (pc := 12) (v := (0 : Int32)) C dX10_note_12 ciconst_0 ?_
    refine k_bipush (pc := 13) (v := (99 : Int32)) C dX10_note_13 cbipush_99 ?_
    obtain ⟨z2, e2, h⟩ := bnd h
    refine k_callsI (pc := 15) C lk_X10_69 (by decide) (kc_X10_within e2) dX10_note_15 rfl rfl (Nat.le_of_ble_eq_true rfl) ?_
    refine k_if_eq (pc := 18) C 34 dX10_note_18 (by decide) h (fun c5 h => ?_) (fun c5 h => ?_)
    · refine k_sub [0, 1, 2, 3, 4, 5, 6] rfl ?_
      exact k_X10_note_b34 C E T x1 x2 x3 x4 x5 x6 h
    · refine k_iload_n (pc := 21) C dX10_note_21 3 rfl ?_
      refine k_iconst (pc := 22) (v := (0 : Int32)) C dX10_note_22 ciconst_0 ?_
      refine k_iconst (pc := 23) (v := (3 : Int32)) C dX10_note_23 ciconst_3 ?_
      obtain ⟨z3, e3, h⟩ := bnd h
      refine k_callsI (pc := 24) C lk_X10_69 (by decide) (kc_X10_within e3) dX10_note_24 rfl rfl (Nat.le_of_ble_eq_true rfl) ?_
      refine k_if_eq (pc := 27) C 34 dX10_note_27 (by decide) h (fun c4 h => ?_) (fun c4 h => ?_)
      · refine k_sub [0, 1, 2, 3, 4, 5, 6] rfl ?_
        exact k_X10_note_b34 C E T x1 x2 x3 x4 x5 x6 h
      · refine k_iconst (pc := 30) (v := (1 : Int32)) C dX10_note_30 ciconst_1 ?_
        refine k_goto (pc := 31) C 35 dX10_note_31 (by decide) ?_
        refine k_sub [0, 1, 2, 3, 4, 5, 6] rfl ?_
        exact k_X10_note_b35 C E T x1 x2 x3 x4 x5 x6 (1 : Int32) h
def m_X10_gone_b32 (T : TT) : Option (Int32 × TT) := (m_X10_refuse T (-2 : Int32)).bind (fun z9 => some (z9.1, z9.2))
def m_X10_gone (T : TT) (x1 : Int32) (x2 : Int32) (x3 : Int32) : Option (Int32 × TT) := (m_X4_has T 0 x1).bind (fun z1 => if z1 = 0 then (m_X10_gone_b32 T) else ((m_X10_within x2 (1 : Int32) (30 : Int32)).bind (fun z2 => if z2 = 0 then (m_X10_gone_b32 T) else ((m_X10_within x3 (0 : Int32) (6000 : Int32)).bind (fun z3 => if z3 = 0 then (m_X10_gone_b32 T) else ((m_X4_addTrip T 0 x1 x2 x3).bind (fun z4 => (m_X10_refuseIfFull z4.2 z4.1).bind (fun z5 => some (z5.1, z5.2)))))))))
set_option maxHeartbeats 4000000 in
set_option maxRecDepth 100000 in
theorem k_X10_gone_b32 {B : KB} {X : KE} {res : Int32 × TT} (C : Cx B X "GriefEngine" cX10_gone 4 3) (E : Cr B X (some .int) (some (.int res.1)) res.2) (T : TT) (h : m_X10_gone_b32 T = some res) : Wk B X 4 T 32 [(0, .ref (B.1 4 0))] [] := by
  unfold m_X10_gone_b32 at h
  refine k_aload_n (pc := 32) C dX10_gone_32 0 rfl ?_
  refine k_bipush (pc := 33) (v := (-2 : Int32)) C dX10_gone_33 cbipush_m2 ?_
  obtain ⟨z9, e9, h⟩ := bnd h
  refine k_callvI (pc := 35) C lk_X10_73 (by decide) ix_X10 wo_X10 rfl rfl (kc_X10_refuse e9) dX10_gone_35 rfl rfl (Nat.le_of_ble_eq_true rfl) ?_
  exact k_iret (pc := 38) C E (some_1 h) (some_2 h) dX10_gone_38
set_option maxHeartbeats 4000000 in
set_option maxRecDepth 100000 in
theorem kc_X10_gone {B : KB} {l : Launch} {T : TT} {x1 : Int32} {x2 : Int32} {x3 : Int32} {res : Int32 × TT} (h : m_X10_gone T x1 x2 x3 = some res) : Kt B l 3 yX10_gone cX10_gone 4 (some .int) T [.ref (B.1 4 0), .int x1, .int x2, .int x3] (some (.int res.1)) res.2 := by
  refine Kt.of (by decide) (Nat.le_of_ble_eq_true rfl) (fun X hX C E => ?_)
  subst hX
  have C : Cx B X "GriefEngine" cX10_gone 4 3 := C
  show Wk B X 4 T 0 [(0, .ref (B.1 4 0)), (1, .int x1), (2, .int x2), (3, .int x3)] []
  unfold m_X10_gone at h
  refine k_aload_n (pc := 0) C dX10_gone_0 0 rfl ?_
  refine gf_X10_12 (pc := 1) C dX10_gone_1 ?_
  refine k_iload_n (pc := 4) C dX10_gone_4 1 rfl ?_
  obtain ⟨z1, e1, h⟩ := bnd h
  refine k_callvI (pc := 5) C lk_X10_132 (by decide) (ix_X4 lt4_0) (wo_X4 lt4_0) rfl rfl (kc_X4_has lt4_0 e1) dX10_gone_5 rfl rfl (Nat.le_of_ble_eq_true rfl) ?_
  refine k_if_eq (pc := 8) C 32 dX10_gone_8 (by decide) h (fun c8 h => ?_) (fun c8 h => ?_)
  · refine k_sub [0] rfl ?_
    exact k_X10_gone_b32 C E T h
  · refine k_iload_n (pc := 11) C dX10_gone_11 2 rfl ?_
    refine k_iconst (pc := 12) (v := (1 : Int32)) C dX10_gone_12 ciconst_1 ?_
    refine k_bipush (pc := 13) (v := (30 : Int32)) C dX10_gone_13 cbipush_30 ?_
    obtain ⟨z2, e2, h⟩ := bnd h
    refine k_callsI (pc := 15) C lk_X10_69 (by decide) (kc_X10_within e2) dX10_gone_15 rfl rfl (Nat.le_of_ble_eq_true rfl) ?_
    refine k_if_eq (pc := 18) C 32 dX10_gone_18 (by decide) h (fun c7 h => ?_) (fun c7 h => ?_)
    · refine k_sub [0] rfl ?_
      exact k_X10_gone_b32 C E T h
    · refine k_iload_n (pc := 21) C dX10_gone_21 3 rfl ?_
      refine k_iconst (pc := 22) (v := (0 : Int32)) C dX10_gone_22 ciconst_0 ?_
      refine k_sipush (pc := 23) (v := (6000 : Int32)) C dX10_gone_23 csipush_6000 ?_
      obtain ⟨z3, e3, h⟩ := bnd h
      refine k_callsI (pc := 26) C lk_X10_69 (by decide) (kc_X10_within e3) dX10_gone_26 rfl rfl (Nat.le_of_ble_eq_true rfl) ?_
      refine k_if_ne (pc := 29) C 39 dX10_gone_29 (by decide) h (fun c6 h => ?_) (fun c6 h => ?_)
      · refine k_aload_n (pc := 39) C dX10_gone_39 0 rfl ?_
        refine k_aload_n (pc := 40) C dX10_gone_40 0 rfl ?_
        refine gf_X10_12 (pc := 41) C dX10_gone_41 ?_
        refine k_iload_n (pc := 44) C dX10_gone_44 1 rfl ?_
        refine k_iload_n (pc := 45) C dX10_gone_45 2 rfl ?_
        refine k_iload_n (pc := 46) C dX10_gone_46 3 rfl ?_
        obtain ⟨z4, e4, h⟩ := bnd h
        refine k_callvI (pc := 47) C lk_X10_200 (by decide) (ix_X4 lt4_0) (wo_X4 lt4_0) rfl rfl (kc_X4_addTrip lt4_0 e4) dX10_gone_47 rfl rfl (Nat.le_of_ble_eq_true rfl) ?_
        obtain ⟨z5, e5, h⟩ := bnd h
        refine k_callvI (pc := 50) C lk_X10_81 (by decide) ix_X10 wo_X10 rfl rfl (kc_X10_refuseIfFull e5) dX10_gone_50 rfl rfl (Nat.le_of_ble_eq_true rfl) ?_
        exact k_iret (pc := 53) C E (some_1 h) (some_2 h) dX10_gone_53
      · refine k_sub [0] rfl ?_
        exact k_X10_gone_b32 C E T h
