def m_X11_undo_h26 (rec26 : TT → Int32 → Option (Int32 × TT)) (T : TT) (x1 : Int32) : Option (Int32 × TT) := if (13 : Int32) ≤ x1 then (some ((T.1 10 1 16), T)) else (if inb (((71 : Int32) + ((13 : Int32) * (T.1 10 1 3))) + x1) 175 then (if inb ((4 : Int32) + x1) 175 then bT (sA T 10 1 (Int32.toNatClampNeg ((4 : Int32) + x1)) (T.1 10 1 (Int32.toNatClampNeg (((71 : Int32) + ((13 : Int32) * (T.1 10 1 3))) + x1)))) (fun T4 => bT (x1 + (1 : Int32)) (fun y5 => rec26 T4 y5)) else none) else none)
def m_X11_undo_l26 : Nat → TT → Int32 → Option (Int32 × TT)
  | 0 => fun _ _ => none
  | n + 1 => fun T x1 => m_X11_undo_h26 (m_X11_undo_l26 n) T x1
def m_X11_undo (T : TT) : Option (Int32 × TT) := if (T.1 10 1 3) = 0 then ((m_X11_no T).bind (fun z2 => some (z2.1, z2.2))) else (bT (sA T 10 1 3 ((T.1 10 1 3) - (1 : Int32))) (fun T1 => m_X11_undo_l26 FU T1 (0 : Int32)))
set_option maxHeartbeats 4000000 in
set_option maxRecDepth 100000 in
theorem k_X11_undo_h26 {B : KB} {X : KE} {rec26 : TT → Int32 → Option (Int32 × TT)} {res : Int32 × TT} (C : Cx B X "GriefEngineModel" cX11_undo 2 2) (E : Cr B X (some .int) (some (.int res.1)) res.2) (hrec26 : ∀ (T : TT) (x1 : Int32), rec26 T x1 = some res → Wk B X 2 T 26 [(0, .ref (B.1 10 0)), (1, .int x1)] []) (T : TT) (x1 : Int32) (h : m_X11_undo_h26 rec26 T x1 = some res) : Wk B X 2 T 26 [(0, .ref (B.1 10 0)), (1, .int x1)] [] := by
  unfold m_X11_undo_h26 at h
  refine k_iload_n (pc := 26) C dX11_undo_26 1 rfl ?_
  refine k_bipush (pc := 27) (v := (13 : Int32)) C dX11_undo_27 cbipush_13 ?_
  refine k_icmp_ge (pc := 29) C 65 dX11_undo_29 (by decide) h (fun c6 h => ?_) (fun c6 h => ?_)
  · refine k_aload_n (pc := 65) C dX11_undo_65 0 rfl ?_
    refine gf_X11_7 (pc := 66) C dX11_undo_66 ?_
    refine k_bipush (pc := 69) (v := (16 : Int32)) C dX11_undo_69 cbipush_16 ?_
    refine k_ialdc (pc := 71) C ia_10_1 16 dX11_undo_71 (by decide) (by decide) ?_
    exact k_iret (pc := 72) C E (some_1 h) (some_2 h) dX11_undo_72
  · refine k_aload_n (pc := 32) C dX11_undo_32 0 rfl ?_
    refine gf_X11_7 (pc := 33) C dX11_undo_33 ?_
    refine k_iconst (pc := 36) (v := (4 : Int32)) C dX11_undo_36 ciconst_4 ?_
    refine k_iload_n (pc := 37) C dX11_undo_37 1 rfl ?_
    refine k_iadd (pc := 38) C dX11_undo_38 ?_
    refine k_aload_n (pc := 39) C dX11_undo_39 0 rfl ?_
    refine gf_X11_7 (pc := 40) C dX11_undo_40 ?_
    refine k_bipush (pc := 43) (v := (71 : Int32)) C dX11_undo_43 cbipush_71 ?_
    refine k_bipush (pc := 45) (v := (13 : Int32)) C dX11_undo_45 cbipush_13 ?_
    refine k_aload_n (pc := 47) C dX11_undo_47 0 rfl ?_
    refine gf_X11_7 (pc := 48) C dX11_undo_48 ?_
    refine k_iconst (pc := 51) (v := (3 : Int32)) C dX11_undo_51 ciconst_3 ?_
    refine k_ialdc (pc := 52) C ia_10_1 3 dX11_undo_52 (by decide) (by decide) ?_
    refine k_imul (pc := 53) C dX11_undo_53 ?_
    refine k_iadd (pc := 54) C dX11_undo_54 ?_
    refine k_iload_n (pc := 55) C dX11_undo_55 1 rfl ?_
    refine k_iadd (pc := 56) C dX11_undo_56 ?_
    refine k_iald (pc := 57) C ia_10_1 dX11_undo_57 h (fun h => ?_)
    refine k_iast (pc := 58) C ia_10_1 dX11_undo_58 h (fun h => ?_)
    refine k_nT h (fun T4 h => ?_)
    refine k_iincN (pc := 59) (x := x1) (c := (1 : Int32)) C (fun y5 => [(1, .int y5), (0, .ref (B.1 10 0))]) dX11_undo_59 1 rfl ciconst_1 (by decide) (fun _ => rfl) h (fun y5 h => ?_)
    refine k_goto (pc := 62) C 26 dX11_undo_62 (by decide) ?_
    refine k_sub [1, 0] rfl ?_
    exact hrec26 T4 y5 h
set_option maxHeartbeats 4000000 in
set_option maxRecDepth 100000 in
theorem k_X11_undo_l26 {B : KB} {X : KE} {res : Int32 × TT} (C : Cx B X "GriefEngineModel" cX11_undo 2 2) (E : Cr B X (some .int) (some (.int res.1)) res.2) : ∀ (n : Nat) (T : TT) (x1 : Int32) (h : m_X11_undo_l26 n T x1 = some res), Wk B X 2 T 26 [(0, .ref (B.1 10 0)), (1, .int x1)] [] := by
  intro n
  induction n with
  | zero =>
    intro T x1 h
    exact no_some h
  | succ n ih =>
    intro T x1 h
    exact k_X11_undo_h26 C E (fun T x1 h => ih T x1 h) T x1 h
set_option maxHeartbeats 4000000 in
set_option maxRecDepth 100000 in
theorem kc_X11_undo {B : KB} {l : Launch} {T : TT} {res : Int32 × TT} (h : m_X11_undo T = some res) : Kt B l 2 yX11_undo cX11_undo 2 (some .int) T [.ref (B.1 10 0)] (some (.int res.1)) res.2 := by
  refine Kt.of (by decide) (Nat.le_of_ble_eq_true rfl) (fun X hX C E => ?_)
  subst hX
  have C : Cx B X "GriefEngineModel" cX11_undo 2 2 := C
  show Wk B X 2 T 0 [(0, .ref (B.1 10 0))] []
  unfold m_X11_undo at h
  refine k_aload_n (pc := 0) C dX11_undo_0 0 rfl ?_
  refine gf_X11_7 (pc := 1) C dX11_undo_1 ?_
  refine k_iconst (pc := 4) (v := (3 : Int32)) C dX11_undo_4 ciconst_3 ?_
  refine k_ialdc (pc := 5) C ia_10_1 3 dX11_undo_5 (by decide) (by decide) ?_
  refine k_if_ne (pc := 6) C 14 dX11_undo_6 (by decide) h (fun c3 h => ?_) (fun c3 h => ?_)
  · refine k_aload_n (pc := 14) C dX11_undo_14 0 rfl ?_
    refine gf_X11_7 (pc := 15) C dX11_undo_15 ?_
    refine k_iconst (pc := 18) (v := (3 : Int32)) C dX11_undo_18 ciconst_3 ?_
    refine k_dup2 (pc := 19) C dX11_undo_19 rfl rfl ?_
    refine k_ialdc (pc := 20) C ia_10_1 3 dX11_undo_20 (by decide) (by decide) ?_
    refine k_iconst (pc := 21) (v := (1 : Int32)) C dX11_undo_21 ciconst_1 ?_
    refine k_isub (pc := 22) C dX11_undo_22 ?_
    refine k_iastc (pc := 23) C ia_10_1 3 dX11_undo_23 (by decide) (by decide) ?_
    refine k_nT h (fun T1 h => ?_)
    refine k_iconst (pc := 24) (v := (0 : Int32)) C dX11_undo_24 ciconst_0 ?_
    refine k_istore_n (pc := 25) C [(1, .int (0 : Int32)), (0, .ref (B.1 10 0))] dX11_undo_25 (by decide) rfl ?_
    refine k_sub [1, 0] rfl ?_
    exact k_X11_undo_l26 C E FU T1 (0 : Int32) h
  · refine k_aload_n (pc := 9) C dX11_undo_9 0 rfl ?_
    obtain ⟨z2, e2, h⟩ := bnd h
    refine k_callvI (pc := 10) C lk_X11_119 (by decide) ix_X11 wo_X11 rfl rfl (kc_X11_no e2) dX11_undo_10 rfl rfl (Nat.le_of_ble_eq_true rfl) ?_
    exact k_iret (pc := 13) C E (some_1 h) (some_2 h) dX11_undo_13
def m_X11_of_b20 (T : TT) : Option (Int32 × TT) := (m_X11_bad T (-2 : Int32)).bind (fun z7 => some (z7.1, z7.2))
def m_X11_of (T : TT) (x1 : Int32) (x2 : Int32) : Option (Int32 × TT) := (m_X11_isDriver T x1).bind (fun z1 => if z1 = 0 then (m_X11_of_b20 T) else ((m_X11_in (x2.toInt64) (0 : Int64) (2 : Int64)).bind (fun z2 => if z2 = 0 then (m_X11_of_b20 T) else (if x2 = 0 then (if inb ((17 : Int32) + x1) 175 then (some ((T.1 10 1 (Int32.toNatClampNeg ((17 : Int32) + x1))), T)) else none) else (if x2 = (1 : Int32) then (if inb ((4 : Int32) + x1) 175 then (some ((T.1 10 1 (Int32.toNatClampNeg ((4 : Int32) + x1))), T)) else none) else (if inb ((10 : Int32) + x1) 175 then (some ((T.1 10 1 (Int32.toNatClampNeg ((10 : Int32) + x1))), T)) else none))))))
set_option maxHeartbeats 4000000 in
set_option maxRecDepth 100000 in
theorem k_X11_of_b20 {B : KB} {X : KE} {res : Int32 × TT} (C : Cx B X "GriefEngineModel" cX11_of 3 3) (E : Cr B X (some .int) (some (.int res.1)) res.2) (T : TT) (h : m_X11_of_b20 T = some res) : Wk B X 3 T 20 [(0, .ref (B.1 10 0))] [] := by
  unfold m_X11_of_b20 at h
  refine k_aload_n (pc := 20) C dX11_of_20 0 rfl ?_
  refine k_bipush (pc := 21) (v := (-2 : Int32)) C dX11_of_21 cbipush_m2 ?_
  obtain ⟨z7, e7, h⟩ := bnd h
  refine k_callvI (pc := 23) C lk_X11_63 (by decide) ix_X11 wo_X11 rfl rfl (kc_X11_bad e7) dX11_of_23 rfl rfl (Nat.le_of_ble_eq_true rfl) ?_
  exact k_iret (pc := 26) C E (some_1 h) (some_2 h) dX11_of_26
set_option maxHeartbeats 4000000 in
set_option maxRecDepth 100000 in
theorem kc_X11_of {B : KB} {l : Launch} {T : TT} {x1 : Int32} {x2 : Int32} {res : Int32 × TT} (h : m_X11_of T x1 x2 = some res) : Kt B l 3 yX11_of cX11_of 3 (some .int) T [.ref (B.1 10 0), .int x1, .int x2] (some (.int res.1)) res.2 := by
  refine Kt.of (by decide) (Nat.le_of_ble_eq_true rfl) (fun X hX C E => ?_)
  subst hX
  have C : Cx B X "GriefEngineModel" cX11_of 3 3 := C
  show Wk B X 3 T 0 [(0, .ref (B.1 10 0)), (1, .int x1), (2, .int x2)] []
  unfold m_X11_of at h
  refine k_aload_n (pc := 0) C dX11_of_0 0 rfl ?_
  refine k_iload_n (pc := 1) C dX11_of_1 1 rfl ?_
  obtain ⟨z1, e1, h⟩ := bnd h
  refine k_callvI (pc := 2) C lk_X11_116 (by decide) ix_X11 wo_X11 rfl rfl (kc_X11_isDriver e1) dX11_of_2 rfl rfl (Nat.le_of_ble_eq_true rfl) ?_
  refine k_if_eq (pc := 5) C 20 dX11_of_5 (by decide) h (fun c6 h => ?_) (fun c6 h => ?_)
  · refine k_sub [0] rfl ?_
    exact k_X11_of_b20 C E T h
  · refine k_iload_n (pc := 8) C dX11_of_8 2 rfl ?_
    refine k_i2l (pc := 9) C dX11_of_9 ?_
    refine k_lconst (pc := 10) (v := (0 : Int64)) C dX11_of_10 (by decide) ?_
    refine k_ldc2_w (pc := 11) (v := (2 : Int64)) C dX11_of_11 tw4_157 ?_
    obtain ⟨z2, e2, h⟩ := bnd h
    refine k_callsI (pc := 14) C lk_X11_53 (by decide) (kc_X11_in e2) dX11_of_14 rfl rfl (Nat.le_of_ble_eq_true rfl) ?_
    refine k_if_ne (pc := 17) C 27 dX11_of_17 (by decide) h (fun c5 h => ?_) (fun c5 h => ?_)
    · refine k_aload_n (pc := 27) C dX11_of_27 0 rfl ?_
      refine gf_X11_7 (pc := 28) C dX11_of_28 ?_
      refine k_iload_n (pc := 31) C dX11_of_31 2 rfl ?_
      refine k_if_ne (pc := 32) C 40 dX11_of_32 (by decide) h (fun c4 h => ?_) (fun c4 h => ?_)
      · refine k_iload_n (pc := 40) C dX11_of_40 2 rfl ?_
        refine k_iconst (pc := 41) (v := (1 : Int32)) C dX11_of_41 ciconst_1 ?_
        refine k_icmp_ne (pc := 42) C 49 dX11_of_42 (by decide) h (fun c3 h => ?_) (fun c3 h => ?_)
        · refine k_bipush (pc := 49) (v := (10 : Int32)) C dX11_of_49 cbipush_10 ?_
          refine k_iload_n (pc := 51) C dX11_of_51 1 rfl ?_
          refine k_iadd (pc := 52) C dX11_of_52 ?_
          refine k_iald (pc := 53) C ia_10_1 dX11_of_53 h (fun h => ?_)
          exact k_iret (pc := 54) C E (some_1 h) (some_2 h) dX11_of_54
        · refine k_iconst (pc := 45) (v := (4 : Int32)) C dX11_of_45 ciconst_4 ?_
          refine k_goto (pc := 46) C 51 dX11_of_46 (by decide) ?_
          refine k_iload_n (pc := 51) C dX11_of_51 1 rfl ?_
          refine k_iadd (pc := 52) C dX11_of_52 ?_
          refine k_iald (pc := 53) C ia_10_1 dX11_of_53 h (fun h => ?_)
          exact k_iret (pc := 54) C E (some_1 h) (some_2 h) dX11_of_54
      · refine k_bipush (pc := 35) (v := (17 : Int32)) C dX11_of_35 cbipush_17 ?_
        refine k_goto (pc := 37) C 51 dX11_of_37 (by decide) ?_
        refine k_iload_n (pc := 51) C dX11_of_51 1 rfl ?_
        refine k_iadd (pc := 52) C dX11_of_52 ?_
        refine k_iald (pc := 53) C ia_10_1 dX11_of_53 h (fun h => ?_)
        exact k_iret (pc := 54) C E (some_1 h) (some_2 h) dX11_of_54
    · refine k_sub [0] rfl ?_
      exact k_X11_of_b20 C E T h
def m_X11_today_b22 (T : TT) : Option (Int32 × TT) := (m_X11_bad T (-2 : Int32)).bind (fun z12 => some (z12.1, z12.2))
def m_X11_today (T : TT) (x1 : Int32) (x2 : Int32) : Option (Int32 × TT) := (m_X11_isDriver T x1).bind (fun z1 => if z1 = 0 then (m_X11_today_b22 T) else ((m_X11_in (x2.toInt64) (-1 : Int64) (2 : Int64)).bind (fun z2 => if z2 = 0 then (m_X11_today_b22 T) else (if inb ((4 : Int32) + x1) 175 then (bT (T.1 10 1 (Int32.toNatClampNeg ((4 : Int32) + x1))) (fun y3 => if x2 = (-1 : Int32) then ((m_X11_kindOf T x1).bind (fun z6 => (m_X11_seasonOf (T.1 10 1 16)).bind (fun z7 => (m_X11_runsAs z6 y3 z7).bind (fun z8 => some (z8, T))))) else ((m_X11_kindOf T x1).bind (fun z4 => (m_X11_leftAs z4 y3 x2).bind (fun z5 => some (z5, T)))))) else none))))
set_option maxHeartbeats 4000000 in
set_option maxRecDepth 100000 in
theorem k_X11_today_b22 {B : KB} {X : KE} {res : Int32 × TT} (C : Cx B X "GriefEngineModel" cX11_today 4 3) (E : Cr B X (some .int) (some (.int res.1)) res.2) (T : TT) (h : m_X11_today_b22 T = some res) : Wk B X 4 T 22 [(0, .ref (B.1 10 0))] [] := by
  unfold m_X11_today_b22 at h
  refine k_aload_n (pc := 22) C dX11_today_22 0 rfl ?_
  refine k_bipush (pc := 23) (v := (-2 : Int32)) C dX11_today_23 cbipush_m2 ?_
  obtain ⟨z12, e12, h⟩ := bnd h
  refine k_callvI (pc := 25) C lk_X11_63 (by decide) ix_X11 wo_X11 rfl rfl (kc_X11_bad e12) dX11_today_25 rfl rfl (Nat.le_of_ble_eq_true rfl) ?_
  exact k_iret (pc := 28) C E (some_1 h) (some_2 h) dX11_today_28
set_option maxHeartbeats 4000000 in
set_option maxRecDepth 100000 in
theorem kc_X11_today {B : KB} {l : Launch} {T : TT} {x1 : Int32} {x2 : Int32} {res : Int32 × TT} (h : m_X11_today T x1 x2 = some res) : Kt B l 3 yX11_today cX11_today 4 (some .int) T [.ref (B.1 10 0), .int x1, .int x2] (some (.int res.1)) res.2 := by
  refine Kt.of (by decide) (Nat.le_of_ble_eq_true rfl) (fun X hX C E => ?_)
  subst hX
  have C : Cx B X "GriefEngineModel" cX11_today 4 3 := C
  show Wk B X 4 T 0 [(0, .ref (B.1 10 0)), (1, .int x1), (2, .int x2)] []
  unfold m_X11_today at h
  refine k_aload_n (pc := 0) C dX11_today_0 0 rfl ?_
  refine k_iload_n (pc := 1) C dX11_today_1 1 rfl ?_
  obtain ⟨z1, e1, h⟩ := bnd h
  refine k_callvI (pc := 2) C lk_X11_116 (by decide) ix_X11 wo_X11 rfl rfl (kc_X11_isDriver e1) dX11_today_2 rfl rfl (Nat.le_of_ble_eq_true rfl) ?_
  refine k_if_eq (pc := 5) C 22 dX11_today_5 (by decide) h (fun c11 h => ?_) (fun c11 h => ?_)
  · refine k_sub [0] rfl ?_
    exact k_X11_today_b22 C E T h
  · refine k_iload_n (pc := 8) C dX11_today_8 2 rfl ?_
    refine k_i2l (pc := 9) C dX11_today_9 ?_
    refine k_ldc2_w (pc := 10) (v := (-1 : Int64)) C dX11_today_10 tw4_212 ?_
    refine k_ldc2_w (pc := 13) (v := (2 : Int64)) C dX11_today_13 tw4_157 ?_
    obtain ⟨z2, e2, h⟩ := bnd h
    refine k_callsI (pc := 16) C lk_X11_53 (by decide) (kc_X11_in e2) dX11_today_16 rfl rfl (Nat.le_of_ble_eq_true rfl) ?_
    refine k_if_ne (pc := 19) C 29 dX11_today_19 (by decide) h (fun c10 h => ?_) (fun c10 h => ?_)
    · refine k_aload_n (pc := 29) C dX11_today_29 0 rfl ?_
      refine gf_X11_7 (pc := 30) C dX11_today_30 ?_
      refine k_iconst (pc := 33) (v := (4 : Int32)) C dX11_today_33 ciconst_4 ?_
      refine k_iload_n (pc := 34) C dX11_today_34 1 rfl ?_
      refine k_iadd (pc := 35) C dX11_today_35 ?_
      refine k_iald (pc := 36) C ia_10_1 dX11_today_36 h (fun h => ?_)
      refine k_nI h (fun y3 h => ?_)
      refine k_istore_n (pc := 37) C [(3, .int y3), (0, .ref (B.1 10 0)), (1, .int x1), (2, .int x2)] dX11_today_37 (by decide) rfl ?_
      refine k_iload_n (pc := 38) C dX11_today_38 3 rfl ?_
      refine k_iconst (pc := 39) (v := (-1 : Int32)) C dX11_today_39 ciconst_m1 ?_
      refine k_icmp_ne (pc := 40) C 65 dX11_today_40 (by decide) h (fun c9 h => ?_) (fun c9 h => ?_)
      · refine k_aload_n (pc := 65) C dX11_today_65 1 rfl ?_
        refine k_iload_n (pc := 66) C dX11_today_66 2 rfl ?_
        obtain ⟨z4, e4, h⟩ := bnd h
        refine k_callvI (pc := 67) C lk_X11_124 (by decide) ix_X11 wo_X11 rfl rfl (kc_X11_kindOf e4) dX11_today_67 rfl rfl (Nat.le_of_ble_eq_true rfl) ?_
        refine k_iload_n (pc := 70) C dX11_today_70 0 rfl ?_
        refine k_iload_n (pc := 71) C dX11_today_71 3 rfl ?_
        obtain ⟨z5, e5, h⟩ := bnd h
        refine k_callsI (pc := 72) C lk_X11_98 (by decide) (kc_X11_leftAs e5) dX11_today_72 rfl rfl (Nat.le_of_ble_eq_true rfl) ?_
        exact k_iret (pc := 75) C E (some_1 h) (some_2 h) dX11_today_75
      · refine k_aload_n (pc := 43) C dX11_today_43 1 rfl ?_
        refine k_iload_n (pc := 44) C dX11_today_44 2 rfl ?_
        obtain ⟨z6, e6, h⟩ := bnd h
        refine k_callvI (pc := 45) C lk_X11_124 (by decide) ix_X11 wo_X11 rfl rfl (kc_X11_kindOf e6) dX11_today_45 rfl rfl (Nat.le_of_ble_eq_true rfl) ?_
        refine k_iload_n (pc := 48) C dX11_today_48 0 rfl ?_
        refine k_aload_n (pc := 49) C dX11_today_49 1 rfl ?_
        refine gf_X11_7 (pc := 50) C dX11_today_50 ?_
        refine k_bipush (pc := 53) (v := (16 : Int32)) C dX11_today_53 cbipush_16 ?_
        refine k_ialdc (pc := 55) C ia_10_1 16 dX11_today_55 (by decide) (by decide) ?_
        obtain ⟨z7, e7, h⟩ := bnd h
        refine k_callsI (pc := 56) C lk_X11_91 (by decide) (kc_X11_seasonOf e7) dX11_today_56 rfl rfl (Nat.le_of_ble_eq_true rfl) ?_
        obtain ⟨z8, e8, h⟩ := bnd h
        refine k_callsI (pc := 59) C lk_X11_94 (by decide) (kc_X11_runsAs e8) dX11_today_59 rfl rfl (Nat.le_of_ble_eq_true rfl) ?_
        refine k_goto (pc := 62) C 75 dX11_today_62 (by decide) ?_
        exact k_iret (pc := 75) C E (some_1 h) (some_2 h) dX11_today_75
    · refine k_sub [0] rfl ?_
      exact k_X11_today_b22 C E T h
def m_X11_then_h53 (rec53 : TT → Int32 → Int32 → Int32 → Int32 → Int32 → Option (Int32 × TT)) (T : TT) (x1 : Int32) (x2 : Int32) (x3 : Int32) (x4 : Int32) (x5 : Int32) : Option (Int32 × TT) := if x2 ≤ x5 then (if x4 = 0 then (some ((T.2.1 10 6), T)) else (if inb ((10 : Int32) + x1) 175 then (some (((T.1 10 1 (Int32.toNatClampNeg ((10 : Int32) + x1))) + (T.2.1 10 7)), T)) else none)) else ((m_X11_kindOf T x1).bind (fun z11 => (m_X11_goDay T z11 ((T.1 10 1 16) + x5) x3).bind (fun z12 => bT (x5 + (1 : Int32)) (fun y13 => rec53 z12 x1 x2 x3 x4 y13))))
def m_X11_then_l53 : Nat → TT → Int32 → Int32 → Int32 → Int32 → Int32 → Option (Int32 × TT)
  | 0 => fun _ _ _ _ _ _ => none
  | n + 1 => fun T x1 x2 x3 x4 x5 => m_X11_then_h53 (m_X11_then_l53 n) T x1 x2 x3 x4 x5
def m_X11_then_b38 (T : TT) : Option (Int32 × TT) := (m_X11_bad T (-2 : Int32)).bind (fun z15 => some (z15.1, z15.2))
def m_X11_then (T : TT) (x1 : Int32) (x2 : Int32) (x3 : Int32) (x4 : Int32) : Option (Int32 × TT) := (m_X11_isDriver T x1).bind (fun z1 => if z1 = 0 then (m_X11_then_b38 T) else ((m_X11_in (x2.toInt64) (0 : Int64) (99 : Int64)).bind (fun z2 => if z2 = 0 then (m_X11_then_b38 T) else ((m_X11_isChoice x3).bind (fun z3 => if z3 = 0 then (m_X11_then_b38 T) else ((m_X11_in (x4.toInt64) (0 : Int64) (1 : Int64)).bind (fun z4 => if z4 = 0 then (m_X11_then_b38 T) else ((m_X11_layOne T x1).bind (fun z5 => m_X11_then_l53 FU z5 x1 x2 x3 x4 (0 : Int32))))))))))
set_option maxHeartbeats 4000000 in
set_option maxRecDepth 100000 in
theorem k_X11_then_h53 {B : KB} {X : KE} {rec53 : TT → Int32 → Int32 → Int32 → Int32 → Int32 → Option (Int32 × TT)} {res : Int32 × TT} (C : Cx B X "GriefEngineModel" cX11_then 6 4) (E : Cr B X (some .int) (some (.int res.1)) res.2) (hrec53 : ∀ (T : TT) (x1 : Int32) (x2 : Int32) (x3 : Int32) (x4 : Int32) (x5 : Int32), rec53 T x1 x2 x3 x4 x5 = some res → Wk B X 6 T 53 [(0, .ref (B.1 10 0)), (1, .int x1), (2, .int x2), (3, .int x3), (4, .int x4), (5, .int x5)] []) (T : TT) (x1 : Int32) (x2 : Int32) (x3 : Int32) (x4 : Int32) (x5 : Int32) (h : m_X11_then_h53 rec53 T x1 x2 x3 x4 x5 = some res) : Wk B X 6 T 53 [(0, .ref (B.1 10 0)), (1, .int x1), (2, .int x2), (3, .int x3), (4, .int x4), (5, .int x5)] [] := by
  unfold m_X11_then_h53 at h
  refine k_iload (pc := 53) C dX11_then_53 5 rfl ?_
  refine k_iload_n (pc := 55) C dX11_then_55 2 rfl ?_
  refine k_icmp_ge (pc := 56) C 85 dX11_then_56 (by decide) h (fun c14 h => ?_) (fun c14 h => ?_)
  · refine k_iload (pc := 85) C dX11_then_85 4 rfl ?_
    refine k_if_ne (pc := 87) C 97 dX11_then_87 (by decide) h (fun c10 h => ?_) (fun c10 h => ?_)
    · refine k_aload_n (pc := 97) C dX11_then_97 0 rfl ?_
      refine gf_X11_7 (pc := 98) C dX11_then_98 ?_
      refine k_bipush (pc := 101) (v := (10 : Int32)) C dX11_then_101 cbipush_10 ?_
      refine k_iload_n (pc := 103) C dX11_then_103 1 rfl ?_
      refine k_iadd (pc := 104) C dX11_then_104 ?_
      refine k_iald (pc := 105) C ia_10_1 dX11_then_105 h (fun h => ?_)
      refine k_aload_n (pc := 106) C dX11_then_106 0 rfl ?_
      refine gf_X11_84 (pc := 107) C dX11_then_107 ?_
      refine k_iadd (pc := 110) C dX11_then_110 ?_
      exact k_iret (pc := 111) C E (some_1 h) (some_2 h) dX11_then_111
    · refine k_aload_n (pc := 90) C dX11_then_90 0 rfl ?_
      refine gf_X11_88 (pc := 91) C dX11_then_91 ?_
      refine k_goto (pc := 94) C 111 dX11_then_94 (by decide) ?_
      exact k_iret (pc := 111) C E (some_1 h) (some_2 h) dX11_then_111
  · refine k_aload_n (pc := 59) C dX11_then_59 0 rfl ?_
    refine k_aload_n (pc := 60) C dX11_then_60 0 rfl ?_
    refine k_iload_n (pc := 61) C dX11_then_61 1 rfl ?_
    obtain ⟨z11, e11, h⟩ := bnd h
    refine k_callvI (pc := 62) C lk_X11_124 (by decide) ix_X11 wo_X11 rfl rfl (kc_X11_kindOf e11) dX11_then_62 rfl rfl (Nat.le_of_ble_eq_true rfl) ?_
    refine k_aload_n (pc := 65) C dX11_then_65 0 rfl ?_
    refine gf_X11_7 (pc := 66) C dX11_then_66 ?_
    refine k_bipush (pc := 69) (v := (16 : Int32)) C dX11_then_69 cbipush_16 ?_
    refine k_ialdc (pc := 71) C ia_10_1 16 dX11_then_71 (by decide) (by decide) ?_
    refine k_iload (pc := 72) C dX11_then_72 5 rfl ?_
    refine k_iadd (pc := 74) C dX11_then_74 ?_
    refine k_iload_n (pc := 75) C dX11_then_75 3 rfl ?_
    obtain ⟨z12, e12, h⟩ := bnd h
    refine k_callvV (pc := 76) C lk_X11_101 (by decide) ix_X11 wo_X11 rfl rfl (kc_X11_goDay e12) dX11_then_76 rfl rfl (Nat.le_of_ble_eq_true rfl) ?_
    refine k_iincN (pc := 79) (x := x5) (c := (1 : Int32)) C (fun y13 => [(5, .int y13), (0, .ref (B.1 10 0)), (1, .int x1), (2, .int x2), (3, .int x3), (4, .int x4)]) dX11_then_79 5 rfl ciconst_1 (by decide) (fun _ => rfl) h (fun y13 h => ?_)
    refine k_goto (pc := 82) C 53 dX11_then_82 (by decide) ?_
    refine k_sub [1, 2, 3, 4, 5, 0] rfl ?_
    exact hrec53 z12 x1 x2 x3 x4 y13 h
set_option maxHeartbeats 4000000 in
set_option maxRecDepth 100000 in
theorem k_X11_then_l53 {B : KB} {X : KE} {res : Int32 × TT} (C : Cx B X "GriefEngineModel" cX11_then 6 4) (E : Cr B X (some .int) (some (.int res.1)) res.2) : ∀ (n : Nat) (T : TT) (x1 : Int32) (x2 : Int32) (x3 : Int32) (x4 : Int32) (x5 : Int32) (h : m_X11_then_l53 n T x1 x2 x3 x4 x5 = some res), Wk B X 6 T 53 [(0, .ref (B.1 10 0)), (1, .int x1), (2, .int x2), (3, .int x3), (4, .int x4), (5, .int x5)] [] := by
  intro n
  induction n with
  | zero =>
    intro T x1 x2 x3 x4 x5 h
    exact no_some h
  | succ n ih =>
    intro T x1 x2 x3 x4 x5 h
    exact k_X11_then_h53 C E (fun T x1 x2 x3 x4 x5 h => ih T x1 x2 x3 x4 x5 h) T x1 x2 x3 x4 x5 h
set_option maxHeartbeats 4000000 in
set_option maxRecDepth 100000 in
theorem k_X11_then_b38 {B : KB} {X : KE} {res : Int32 × TT} (C : Cx B X "GriefEngineModel" cX11_then 6 4) (E : Cr B X (some .int) (some (.int res.1)) res.2) (T : TT) (h : m_X11_then_b38 T = some res) : Wk B X 6 T 38 [(0, .ref (B.1 10 0))] [] := by
  unfold m_X11_then_b38 at h
  refine k_aload_n (pc := 38) C dX11_then_38 0 rfl ?_
  refine k_bipush (pc := 39) (v := (-2 : Int32)) C dX11_then_39 cbipush_m2 ?_
  obtain ⟨z15, e15, h⟩ := bnd h
  refine k_callvI (pc := 41) C lk_X11_63 (by decide) ix_X11 wo_X11 rfl rfl (kc_X11_bad e15) dX11_then_41 rfl rfl (Nat.le_of_ble_eq_true rfl) ?_
  exact k_iret (pc := 44) C E (some_1 h) (some_2 h) dX11_then_44
set_option maxHeartbeats 4000000 in
set_option maxRecDepth 100000 in
theorem kc_X11_then {B : KB} {l : Launch} {T : TT} {x1 : Int32} {x2 : Int32} {x3 : Int32} {x4 : Int32} {res : Int32 × TT} (h : m_X11_then T x1 x2 x3 x4 = some res) : Kt B l 4 yX11_then cX11_then 6 (some .int) T [.ref (B.1 10 0), .int x1, .int x2, .int x3, .int x4] (some (.int res.1)) res.2 := by
  refine Kt.of (by decide) (Nat.le_of_ble_eq_true rfl) (fun X hX C E => ?_)
  subst hX
  have C : Cx B X "GriefEngineModel" cX11_then 6 4 := C
  show Wk B X 6 T 0 [(0, .ref (B.1 10 0)), (1, .int x1), (2, .int x2), (3, .int x3), (4, .int x4)] []
  unfold m_X11_then at h
  refine k_aload_n (pc := 0) C dX11_then_0 0 rfl ?_
  refine k_iload_n (pc := 1) C dX11_then_1 1 rfl ?_
  obtain ⟨z1, e1, h⟩ := bnd h
  refine k_callvI (pc := 2) C lk_X11_116 (by decide) ix_X11 wo_X11 rfl rfl (kc_X11_isDriver e1) dX11_then_2 rfl rfl (Nat.le_of_ble_eq_true rfl) ?_
  refine k_if_eq (pc := 5) C 38 dX11_then_5 (by decide) h (fun c9 h => ?_) (fun c9 h => ?_)
  · refine k_sub [0] rfl ?_
    exact k_X11_then_b38 C E T h
  · refine k_iload_n (pc := 8) C dX11_then_8 2 rfl ?_
    refine k_i2l (pc := 9) C dX11_then_9 ?_
    refine k_lconst (pc := 10) (v := (0 : Int64)) C dX11_then_10 (by decide) ?_
    refine k_ldc2_w (pc := 11) (v := (99 : Int64)) C dX11_then_11 tw4_138 ?_
    obtain ⟨z2, e2, h⟩ := bnd h
    refine k_callsI (pc := 14) C lk_X11_53 (by decide) (kc_X11_in e2) dX11_then_14 rfl rfl (Nat.le_of_ble_eq_true rfl) ?_
    refine k_if_eq (pc := 17) C 38 dX11_then_17 (by decide) h (fun c8 h => ?_) (fun c8 h => ?_)
    · refine k_sub [0] rfl ?_
      exact k_X11_then_b38 C E T h
    · refine k_iload_n (pc := 20) C dX11_then_20 3 rfl ?_
      obtain ⟨z3, e3, h⟩ := bnd h
      refine k_callsI (pc := 21) C lk_X11_105 (by decide) (kc_X11_isChoice e3) dX11_then_21 rfl rfl (Nat.le_of_ble_eq_true rfl) ?_
      refine k_if_eq (pc := 24) C 38 dX11_then_24 (by decide) h (fun c7 h => ?_) (fun c7 h => ?_)
      · refine k_sub [0] rfl ?_
        exact k_X11_then_b38 C E T h
      · refine k_iload (pc := 27) C dX11_then_27 4 rfl ?_
        refine k_i2l (pc := 29) C dX11_then_29 ?_
        refine k_lconst (pc := 30) (v := (0 : Int64)) C dX11_then_30 (by decide) ?_
        refine k_lconst (pc := 31) (v := (1 : Int64)) C dX11_then_31 (by decide) ?_
        obtain ⟨z4, e4, h⟩ := bnd h
        refine k_callsI (pc := 32) C lk_X11_53 (by decide) (kc_X11_in e4) dX11_then_32 rfl rfl (Nat.le_of_ble_eq_true rfl) ?_
        refine k_if_ne (pc := 35) C 45 dX11_then_35 (by decide) h (fun c6 h => ?_) (fun c6 h => ?_)
        · refine k_aload_n (pc := 45) C dX11_then_45 0 rfl ?_
          refine k_iload_n (pc := 46) C dX11_then_46 1 rfl ?_
          obtain ⟨z5, e5, h⟩ := bnd h
          refine k_callvV (pc := 47) C lk_X11_127 (by decide) ix_X11 wo_X11 rfl rfl (kc_X11_layOne e5) dX11_then_47 rfl rfl (Nat.le_of_ble_eq_true rfl) ?_
          refine k_iconst (pc := 50) (v := (0 : Int32)) C dX11_then_50 ciconst_0 ?_
          refine k_istore (pc := 51) C [(5, .int (0 : Int32)), (0, .ref (B.1 10 0)), (1, .int x1), (2, .int x2), (3, .int x3), (4, .int x4)] dX11_then_51 (by decide) rfl ?_
          refine k_sub [1, 2, 3, 4, 5, 0] rfl ?_
          exact k_X11_then_l53 C E FU z5 x1 x2 x3 x4 (0 : Int32) h
        · refine k_sub [0] rfl ?_
          exact k_X11_then_b38 C E T h
def m_X11_over_h22 (rec22 : TT → Int32 → Int32 → Option (Int32 × TT)) (T : TT) (x1 : Int32) (x2 : Int32) : Option (Int32 × TT) := if (100 : Int32) ≤ x2 then (some ((-1 : Int32), T)) else (if (T.2.1 10 6) = 0 then (some (x2, T)) else ((m_X11_kindOf T x1).bind (fun z5 => (m_X11_goDay T z5 ((T.1 10 1 16) + x2) (0 : Int32)).bind (fun z6 => bT (x2 + (1 : Int32)) (fun y7 => rec22 z6 x1 y7)))))
def m_X11_over_l22 : Nat → TT → Int32 → Int32 → Option (Int32 × TT)
  | 0 => fun _ _ _ => none
  | n + 1 => fun T x1 x2 => m_X11_over_h22 (m_X11_over_l22 n) T x1 x2
def m_X11_over (T : TT) (x1 : Int32) : Option (Int32 × TT) := (m_X11_isDriver T x1).bind (fun z1 => if z1 = 0 then ((m_X11_bad T (-2 : Int32)).bind (fun z3 => some (z3.1, z3.2))) else ((m_X11_layOne T x1).bind (fun z2 => m_X11_over_l22 FU z2 x1 (0 : Int32))))
set_option maxHeartbeats 4000000 in
set_option maxRecDepth 100000 in
theorem k_X11_over_h22 {B : KB} {X : KE} {rec22 : TT → Int32 → Int32 → Option (Int32 × TT)} {res : Int32 × TT} (C : Cx B X "GriefEngineModel" cX11_over 3 4) (E : Cr B X (some .int) (some (.int res.1)) res.2) (hrec22 : ∀ (T : TT) (x1 : Int32) (x2 : Int32), rec22 T x1 x2 = some res → Wk B X 3 T 22 [(0, .ref (B.1 10 0)), (1, .int x1), (2, .int x2)] []) (T : TT) (x1 : Int32) (x2 : Int32) (h : m_X11_over_h22 rec22 T x1 x2 = some res) : Wk B X 3 T 22 [(0, .ref (B.1 10 0)), (1, .int x1), (2, .int x2)] [] := by
  unfold m_X11_over_h22 at h
  refine k_iload_n (pc := 22) C dX11_over_22 2 rfl ?_
  refine k_bipush (pc := 23) (v := (100 : Int32)) C dX11_over_23 cbipush_100 ?_
  refine k_icmp_ge (pc := 25) C 62 dX11_over_25 (by decide) h (fun c9 h => ?_) (fun c9 h => ?_)
  · refine k_iconst (pc := 62) (v := (-1 : Int32)) C dX11_over_62 ciconst_m1 ?_
    exact k_iret (pc := 63) C E (some_1 h) (some_2 h) dX11_over_63
  · refine k_aload_n (pc := 28) C dX11_over_28 0 rfl ?_
    refine gf_X11_88 (pc := 29) C dX11_over_29 ?_
    refine k_if_ne (pc := 32) C 37 dX11_over_32 (by decide) h (fun c8 h => ?_) (fun c8 h => ?_)
    · refine k_aload_n (pc := 37) C dX11_over_37 0 rfl ?_
      refine k_aload_n (pc := 38) C dX11_over_38 0 rfl ?_
      refine k_iload_n (pc := 39) C dX11_over_39 1 rfl ?_
      obtain ⟨z5, e5, h⟩ := bnd h
      refine k_callvI (pc := 40) C lk_X11_124 (by decide) ix_X11 wo_X11 rfl rfl (kc_X11_kindOf e5) dX11_over_40 rfl rfl (Nat.le_of_ble_eq_true rfl) ?_
      refine k_aload_n (pc := 43) C dX11_over_43 0 rfl ?_
      refine gf_X11_7 (pc := 44) C dX11_over_44 ?_
      refine k_bipush (pc := 47) (v := (16 : Int32)) C dX11_over_47 cbipush_16 ?_
      refine k_ialdc (pc := 49) C ia_10_1 16 dX11_over_49 (by decide) (by decide) ?_
      refine k_iload_n (pc := 50) C dX11_over_50 2 rfl ?_
      refine k_iadd (pc := 51) C dX11_over_51 ?_
      refine k_iconst (pc := 52) (v := (0 : Int32)) C dX11_over_52 ciconst_0 ?_
      obtain ⟨z6, e6, h⟩ := bnd h
      refine k_callvV (pc := 53) C lk_X11_101 (by decide) ix_X11 wo_X11 rfl rfl (kc_X11_goDay e6) dX11_over_53 rfl rfl (Nat.le_of_ble_eq_true rfl) ?_
      refine k_iincN (pc := 56) (x := x2) (c := (1 : Int32)) C (fun y7 => [(2, .int y7), (0, .ref (B.1 10 0)), (1, .int x1)]) dX11_over_56 2 rfl ciconst_1 (by decide) (fun _ => rfl) h (fun y7 h => ?_)
      refine k_goto (pc := 59) C 22 dX11_over_59 (by decide) ?_
      refine k_sub [1, 2, 0] rfl ?_
      exact hrec22 z6 x1 y7 h
    · refine k_iload_n (pc := 35) C dX11_over_35 2 rfl ?_
      exact k_iret (pc := 36) C E (some_1 h) (some_2 h) dX11_over_36
set_option maxHeartbeats 4000000 in
set_option maxRecDepth 100000 in
theorem k_X11_over_l22 {B : KB} {X : KE} {res : Int32 × TT} (C : Cx B X "GriefEngineModel" cX11_over 3 4) (E : Cr B X (some .int) (some (.int res.1)) res.2) : ∀ (n : Nat) (T : TT) (x1 : Int32) (x2 : Int32) (h : m_X11_over_l22 n T x1 x2 = some res), Wk B X 3 T 22 [(0, .ref (B.1 10 0)), (1, .int x1), (2, .int x2)] [] := by
  intro n
  induction n with
  | zero =>
    intro T x1 x2 h
    exact no_some h
  | succ n ih =>
    intro T x1 x2 h
    exact k_X11_over_h22 C E (fun T x1 x2 h => ih T x1 x2 h) T x1 x2 h
set_option maxHeartbeats 4000000 in
set_option maxRecDepth 100000 in
theorem kc_X11_over {B : KB} {l : Launch} {T : TT} {x1 : Int32} {res : Int32 × TT} (h : m_X11_over T x1 = some res) : Kt B l 4 yX11_over cX11_over 3 (some .int) T [.ref (B.1 10 0), .int x1] (some (.int res.1)) res.2 := by
  refine Kt.of (by decide) (Nat.le_of_ble_eq_true rfl) (fun X hX C E => ?_)
  subst hX
  have C : Cx B X "GriefEngineModel" cX11_over 3 4 := C
  show Wk B X 3 T 0 [(0, .ref (B.1 10 0)), (1, .int x1)] []
  unfold m_X11_over at h
  refine k_aload_n (pc := 0) C dX11_over_0 0 rfl ?_
  refine k_iload_n (pc := 1) C dX11_over_1 1 rfl ?_
  obtain ⟨z1, e1, h⟩ := bnd h
  refine k_callvI (pc := 2) C lk_X11_116 (by decide) ix_X11 wo_X11 rfl rfl (kc_X11_isDriver e1) dX11_over_2 rfl rfl (Nat.le_of_ble_eq_true rfl) ?_
  refine k_if_ne (pc := 5) C 15 dX11_over_5 (by decide) h (fun c4 h => ?_) (fun c4 h => ?_)
  · refine k_aload_n (pc := 15) C dX11_over_15 0 rfl ?_
    refine k_iload_n (pc := 16) C dX11_over_16 1 rfl ?_
    obtain ⟨z2, e2, h⟩ := bnd h
    refine k_callvV (pc := 17) C lk_X11_127 (by decide) ix_X11 wo_X11 rfl rfl (kc_X11_layOne e2) dX11_over_17 rfl rfl (Nat.le_of_ble_eq_true rfl) ?_
    refine k_iconst (pc := 20) (v := (0 : Int32)) C dX11_over_20 ciconst_0 ?_
    refine k_istore_n (pc := 21) C [(2, .int (0 : Int32)), (0, .ref (B.1 10 0)), (1, .int x1)] dX11_over_21 (by decide) rfl ?_
    refine k_sub [1, 2, 0] rfl ?_
    exact k_X11_over_l22 C E FU z2 x1 (0 : Int32) h
  · refine k_aload_n (pc := 8) C dX11_over_8 0 rfl ?_
    refine k_bipush (pc := 9) (v := (-2 : Int32)) C dX11_over_9 cbipush_m2 ?_
    obtain ⟨z3, e3, h⟩ := bnd h
    refine k_callvI (pc := 11) C lk_X11_63 (by decide) ix_X11 wo_X11 rfl rfl (kc_X11_bad e3) dX11_over_11 rfl rfl (Nat.le_of_ble_eq_true rfl) ?_
    exact k_iret (pc := 14) C E (some_1 h) (some_2 h) dX11_over_14
def m_X11_powerOfThree_h4 (rec4 : Int32 → Int32 → Int32 → Option (Int32)) (x0 : Int32) (x1 : Int32) (x2 : Int32) : Option (Int32) := if x0 ≤ x2 then (some x1) else (bT (x1 * (3 : Int32)) (fun y1 => bT (x2 + (1 : Int32)) (fun y2 => rec4 x0 y1 y2)))
def m_X11_powerOfThree_l4 : Nat → Int32 → Int32 → Int32 → Option (Int32)
  | 0 => fun _ _ _ => none
  | n + 1 => fun x0 x1 x2 => m_X11_powerOfThree_h4 (m_X11_powerOfThree_l4 n) x0 x1 x2
def m_X11_powerOfThree (x0 : Int32) : Option (Int32) := m_X11_powerOfThree_l4 FU x0 (1 : Int32) (0 : Int32)
set_option maxHeartbeats 4000000 in
set_option maxRecDepth 100000 in
theorem k_X11_powerOfThree_h4 {B : KB} {X : KE} {rec4 : Int32 → Int32 → Int32 → Option (Int32)} {T0 : TT} {res : Int32} (C : Cx B X "GriefEngineModel" cX11_powerOfThree 3 1) (E : Cr B X (some .int) (some (.int res)) T0) (hrec4 : ∀ (x0 : Int32) (x1 : Int32) (x2 : Int32), rec4 x0 x1 x2 = some res → Wk B X 3 T0 4 [(0, .int x0), (1, .int x1), (2, .int x2)] []) (x0 : Int32) (x1 : Int32) (x2 : Int32) (h : m_X11_powerOfThree_h4 rec4 x0 x1 x2 = some res) : Wk B X 3 T0 4 [(0, .int x0), (1, .int x1), (2, .int x2)] [] := by
  unfold m_X11_powerOfThree_h4 at h
  refine k_iload_n (pc := 4) C dX11_powerOfThree_4 2 rfl ?_
  refine k_iload_n (pc := 5) C dX11_powerOfThree_5 0 rfl ?_
  refine k_icmp_ge (pc := 6) C 19 dX11_powerOfThree_6 (by decide) h (fun c3 h => ?_) (fun c3 h => ?_)
  · refine k_iload_n (pc := 19) C dX11_powerOfThree_19 1 rfl ?_
    exact k_iret (pc := 20) C E (some_i h) rfl dX11_powerOfThree_20
  · refine k_iload_n (pc := 9) C dX11_powerOfThree_9 1 rfl ?_
    refine k_iconst (pc := 10) (v := (3 : Int32)) C dX11_powerOfThree_10 ciconst_3 ?_
    refine k_imul (pc := 11) C dX11_powerOfThree_11 ?_
    refine k_nI h (fun y1 h => ?_)
    refine k_istore_n (pc := 12) C [(1, .int y1), (0, .int x0), (2, .int x2)] dX11_powerOfThree_12 (by decide) rfl ?_
    refine k_iincN (pc := 13) (x := x2) (c := (1 : Int32)) C (fun y2 => [(2, .int y2), (1, .int y1), (0, .int x0)]) dX11_powerOfThree_13 2 rfl ciconst_1 (by decide) (fun _ => rfl) h (fun y2 h => ?_)
    refine k_goto (pc := 16) C 4 dX11_powerOfThree_16 (by decide) ?_
    refine k_sub [2, 1, 0] rfl ?_
    exact hrec4 x0 y1 y2 h
set_option maxHeartbeats 4000000 in
set_option maxRecDepth 100000 in
theorem k_X11_powerOfThree_l4 {B : KB} {X : KE} {T0 : TT} {res : Int32} (C : Cx B X "GriefEngineModel" cX11_powerOfThree 3 1) (E : Cr B X (some .int) (some (.int res)) T0) : ∀ (n : Nat) (x0 : Int32) (x1 : Int32) (x2 : Int32) (h : m_X11_powerOfThree_l4 n x0 x1 x2 = some res), Wk B X 3 T0 4 [(0, .int x0), (1, .int x1), (2, .int x2)] [] := by
  intro n
  induction n with
  | zero =>
    intro x0 x1 x2 h
    exact no_some h
  | succ n ih =>
    intro x0 x1 x2 h
    exact k_X11_powerOfThree_h4 C E (fun x0 x1 x2 h => ih x0 x1 x2 h) x0 x1 x2 h
set_option maxHeartbeats 4000000 in
set_option maxRecDepth 100000 in
theorem kc_X11_powerOfThree {B : KB} {l : Launch} {T : TT} {x0 : Int32} {res : Int32} (h : m_X11_powerOfThree x0 = some res) : Kt B l 1 yX11_powerOfThree cX11_powerOfThree 3 (some .int) T [.int x0] (some (.int res)) T := by
  refine Kt.of (by decide) (Nat.le_of_ble_eq_true rfl) (fun X hX C E => ?_)
  subst hX
  have C : Cx B X "GriefEngineModel" cX11_powerOfThree 3 1 := C
  show Wk B X 3 T 0 [(0, .int x0)] []
  unfold m_X11_powerOfThree at h
  refine k_iconst (pc := 0) (v := (1 : Int32)) C dX11_powerOfThree_0 ciconst_1 ?_
  refine k_istore_n (pc := 1) C [(1, .int (1 : Int32)), (0, .int x0)] dX11_powerOfThree_1 (by decide) rfl ?_
  refine k_iconst (pc := 2) (v := (0 : Int32)) C dX11_powerOfThree_2 ciconst_0 ?_
  refine k_istore_n (pc := 3) C [(2, .int (0 : Int32)), (1, .int (1 : Int32)), (0, .int x0)] dX11_powerOfThree_3 (by decide) rfl ?_
  refine k_sub [2, 1, 0] rfl ?_
  exact k_X11_powerOfThree_l4 C E FU x0 (1 : Int32) (0 : Int32) h
def m_X11_milesBy_b34 (rec11 : TT → Int32 → Int32 → Int32 → Int32 → Int32 → Int32 → Int32 → Option (Int32 × TT)) (T : TT) (x1 : Int32) (x2 : Int32) (x3 : Int32) (x4 : Int32) (x5 : Int32) (x7 : Int32) (s0 : Int32) : Option (Int32 × TT) := (m_X11_kindOf T x1).bind (fun z4 => (m_X11_powerOfThree ((x2 - (1 : Int32)) - x7)).bind (fun z5 => if z5 = 0 then none else ((m_X11_goDay T z4 ((T.1 10 1 16) + x7) ((x3 / z5) - (x3 / z5) / (3 : Int32) * (3 : Int32))).bind (fun z6 => bT (x7 + (1 : Int32)) (fun y7 => rec11 z6 x1 x2 x3 x4 x5 s0 y7)))))
def m_X11_milesBy_h11 (rec11 : TT → Int32 → Int32 → Int32 → Int32 → Int32 → Int32 → Int32 → Option (Int32 × TT)) (T : TT) (x1 : Int32) (x2 : Int32) (x3 : Int32) (x4 : Int32) (x5 : Int32) (x6 : Int32) (x7 : Int32) : Option (Int32 × TT) := if x5 ≤ x7 then (some (((T.2.1 10 7) - x6), T)) else (if x7 = x4 then (m_X11_milesBy_b34 rec11 T x1 x2 x3 x4 x5 x7 (T.2.1 10 7)) else (m_X11_milesBy_b34 rec11 T x1 x2 x3 x4 x5 x7 x6))
def m_X11_milesBy_l11 : Nat → TT → Int32 → Int32 → Int32 → Int32 → Int32 → Int32 → Int32 → Option (Int32 × TT)
  | 0 => fun _ _ _ _ _ _ _ _ => none
  | n + 1 => fun T x1 x2 x3 x4 x5 x6 x7 => m_X11_milesBy_h11 (m_X11_milesBy_l11 n) T x1 x2 x3 x4 x5 x6 x7
def m_X11_milesBy (T : TT) (x1 : Int32) (x2 : Int32) (x3 : Int32) (x4 : Int32) (x5 : Int32) : Option (Int32 × TT) := (m_X11_layOne T x1).bind (fun z1 => m_X11_milesBy_l11 FU z1 x1 x2 x3 x4 x5 (0 : Int32) (0 : Int32))
set_option maxHeartbeats 4000000 in
set_option maxRecDepth 100000 in
theorem k_X11_milesBy_b34 {B : KB} {X : KE} {rec11 : TT → Int32 → Int32 → Int32 → Int32 → Int32 → Int32 → Int32 → Option (Int32 × TT)} {res : Int32 × TT} (C : Cx B X "GriefEngineModel" cX11_milesBy 8 4) (E : Cr B X (some .int) (some (.int res.1)) res.2) (hrec11 : ∀ (T : TT) (x1 : Int32) (x2 : Int32) (x3 : Int32) (x4 : Int32) (x5 : Int32) (x6 : Int32) (x7 : Int32), rec11 T x1 x2 x3 x4 x5 x6 x7 = some res → Wk B X 8 T 11 [(0, .ref (B.1 10 0)), (1, .int x1), (2, .int x2), (3, .int x3), (4, .int x4), (5, .int x5), (6, .int x6), (7, .int x7)] []) (T : TT) (x1 : Int32) (x2 : Int32) (x3 : Int32) (x4 : Int32) (x5 : Int32) (x7 : Int32) (s0 : Int32) (h : m_X11_milesBy_b34 rec11 T x1 x2 x3 x4 x5 x7 s0 = some res) : Wk B X 8 T 34 [(0, .ref (B.1 10 0)), (1, .int x1), (2, .int x2), (3, .int x3), (4, .int x4), (5, .int x5), (7, .int x7)] [.int s0] := by
  unfold m_X11_milesBy_b34 at h
  refine k_istore (pc := 34) C [(6, .int s0), (0, .ref (B.1 10 0)), (1, .int x1), (2, .int x2), (3, .int x3), (4, .int x4), (5, .int x5), (7, .int x7)] dX11_milesBy_34 (by decide) rfl ?_
  refine k_aload_n (pc := 36) C dX11_milesBy_36 1 rfl ?_
  refine k_aload_n (pc := 37) C dX11_milesBy_37 1 rfl ?_
  refine k_iload_n (pc := 38) C dX11_milesBy_38 2 rfl ?_
  obtain ⟨z4, e4, h⟩ := bnd h
  refine k_callvI (pc := 39) C lk_X11_124 (by decide) ix_X11 wo_X11 rfl rfl (kc_X11_kindOf e4) dX11_milesBy_39 rfl rfl (Nat.le_of_ble_eq_true rfl) ?_
  refine k_aload_n (pc := 42) C dX11_milesBy_42 1 rfl ?_
  refine gf_X11_7 (pc := 43) C dX11_milesBy_43 ?_
  refine k_bipush (pc := 46) (v := (16 : Int32)) C dX11_milesBy_46 cbipush_16 ?_
  refine k_ialdc (pc := 48) C ia_10_1 16 dX11_milesBy_48 (by decide) (by decide) ?_
  refine k_iload (pc := 49) C dX11_milesBy_49 7 rfl ?_
  refine k_iadd (pc := 51) C dX11_milesBy_51 ?_
  refine k_iload_n (pc := 52) C dX11_milesBy_52 4 rfl ?_
  refine k_iload_n (pc := 53) C dX11_milesBy_53 3 rfl ?_
  refine k_iconst (pc := 54) (v := (1 : Int32)) C dX11_milesBy_54 ciconst_1 ?_
  refine k_isub (pc := 55) C dX11_milesBy_55 ?_
  refine k_iload (pc := 56) C dX11_milesBy_56 7 rfl ?_
  refine k_isub (pc := 58) C dX11_milesBy_58 ?_
  obtain ⟨z5, e5, h⟩ := bnd h
  refine k_callsI (pc := 59) C lk_X11_131 (by decide) (kc_X11_powerOfThree e5) dX11_milesBy_59 rfl rfl (Nat.le_of_ble_eq_true rfl) ?_
  refine k_idiv (pc := 62) C dX11_milesBy_62 h (fun h => ?_)
  refine k_iconst (pc := 63) (v := (3 : Int32)) C dX11_milesBy_63 ciconst_3 ?_
  refine k_iremc (pc := 64) C dX11_milesBy_64 (by decide) ?_
  obtain ⟨z6, e6, h⟩ := bnd h
  refine k_callvV (pc := 65) C lk_X11_101 (by decide) ix_X11 wo_X11 rfl rfl (kc_X11_goDay e6) dX11_milesBy_65 rfl rfl (Nat.le_of_ble_eq_true rfl) ?_
  refine k_iincN (pc := 68) (x := x7) (c := (1 : Int32)) C (fun y7 => [(7, .int y7), (6, .int s0), (0, .ref (B.1 10 0)), (1, .int x1), (2, .int x2), (3, .int x3), (4, .int x4), (5, .int x5)]) dX11_milesBy_68 7 rfl ciconst_1 (by decide) (fun _ => rfl) h (fun y7 h => ?_)
  refine k_goto (pc := 71) C 11 dX11_milesBy_71 (by decide) ?_
  refine k_sub [2, 3, 4, 5, 6, 7, 1, 0] rfl ?_
  exact hrec11 z6 x1 x2 x3 x4 x5 s0 y7 h
set_option maxHeartbeats 4000000 in
set_option maxRecDepth 100000 in
theorem k_X11_milesBy_h11 {B : KB} {X : KE} {rec11 : TT → Int32 → Int32 → Int32 → Int32 → Int32 → Int32 → Int32 → Option (Int32 × TT)} {res : Int32 × TT} (C : Cx B X "GriefEngineModel" cX11_milesBy 8 4) (E : Cr B X (some .int) (some (.int res.1)) res.2) (hrec11 : ∀ (T : TT) (x1 : Int32) (x2 : Int32) (x3 : Int32) (x4 : Int32) (x5 : Int32) (x6 : Int32) (x7 : Int32), rec11 T x1 x2 x3 x4 x5 x6 x7 = some res → Wk B X 8 T 11 [(0, .ref (B.1 10 0)), (1, .int x1), (2, .int x2), (3, .int x3), (4, .int x4), (5, .int x5), (6, .int x6), (7, .int x7)] []) (T : TT) (x1 : Int32) (x2 : Int32) (x3 : Int32) (x4 : Int32) (x5 : Int32) (x6 : Int32) (x7 : Int32) (h : m_X11_milesBy_h11 rec11 T x1 x2 x3 x4 x5 x6 x7 = some res) : Wk B X 8 T 11 [(0, .ref (B.1 10 0)), (1, .int x1), (2, .int x2), (3, .int x3), (4, .int x4), (5, .int x5), (6, .int x6), (7, .int x7)] [] := by
  unfold m_X11_milesBy_h11 at h
  refine k_iload (pc := 11) C dX11_milesBy_11 7 rfl ?_
  refine k_iload (pc := 13) C dX11_milesBy_13 5 rfl ?_
  refine k_icmp_ge (pc := 15) C 74 dX11_milesBy_15 (by decide) h (fun c3 h => ?_) (fun c3 h => ?_)
  · refine k_aload_n (pc := 74) C dX11_milesBy_74 0 rfl ?_
    refine gf_X11_84 (pc := 75) C dX11_milesBy_75 ?_
    refine k_iload (pc := 78) C dX11_milesBy_78 6 rfl ?_
    refine k_isub (pc := 80) C dX11_milesBy_80 ?_
    exact k_iret (pc := 81) C E (some_1 h) (some_2 h) dX11_milesBy_81
  · refine k_iload (pc := 18) C dX11_milesBy_18 7 rfl ?_
    refine k_iload (pc := 20) C dX11_milesBy_20 4 rfl ?_
    refine k_icmp_ne (pc := 22) C 32 dX11_milesBy_22 (by decide) h (fun c2 h => ?_) (fun c2 h => ?_)
    · refine k_iload (pc := 32) C dX11_milesBy_32 6 rfl ?_
      refine k_sub [0, 1, 2, 3, 4, 5, 7] rfl ?_
      exact k_X11_milesBy_b34 C E hrec11 T x1 x2 x3 x4 x5 x7 x6 h
    · refine k_aload_n (pc := 25) C dX11_milesBy_25 0 rfl ?_
      refine gf_X11_84 (pc := 26) C dX11_milesBy_26 ?_
      refine k_goto (pc := 29) C 34 dX11_milesBy_29 (by decide) ?_
      refine k_sub [0, 1, 2, 3, 4, 5, 7] rfl ?_
      exact k_X11_milesBy_b34 C E hrec11 T x1 x2 x3 x4 x5 x7 (T.2.1 10 7) h
set_option maxHeartbeats 4000000 in
set_option maxRecDepth 100000 in
theorem k_X11_milesBy_l11 {B : KB} {X : KE} {res : Int32 × TT} (C : Cx B X "GriefEngineModel" cX11_milesBy 8 4) (E : Cr B X (some .int) (some (.int res.1)) res.2) : ∀ (n : Nat) (T : TT) (x1 : Int32) (x2 : Int32) (x3 : Int32) (x4 : Int32) (x5 : Int32) (x6 : Int32) (x7 : Int32) (h : m_X11_milesBy_l11 n T x1 x2 x3 x4 x5 x6 x7 = some res), Wk B X 8 T 11 [(0, .ref (B.1 10 0)), (1, .int x1), (2, .int x2), (3, .int x3), (4, .int x4), (5, .int x5), (6, .int x6), (7, .int x7)] [] := by
  intro n
  induction n with
  | zero =>
    intro T x1 x2 x3 x4 x5 x6 x7 h
    exact no_some h
  | succ n ih =>
    intro T x1 x2 x3 x4 x5 x6 x7 h
    exact k_X11_milesBy_h11 C E (fun T x1 x2 x3 x4 x5 x6 x7 h => ih T x1 x2 x3 x4 x5 x6 x7 h) T x1 x2 x3 x4 x5 x6 x7 h
set_option maxHeartbeats 4000000 in
set_option maxRecDepth 100000 in
theorem kc_X11_milesBy {B : KB} {l : Launch} {T : TT} {x1 : Int32} {x2 : Int32} {x3 : Int32} {x4 : Int32} {x5 : Int32} {res : Int32 × TT} (h : m_X11_milesBy T x1 x2 x3 x4 x5 = some res) : Kt B l 4 yX11_milesBy cX11_milesBy 8 (some .int) T [.ref (B.1 10 0), .int x1, .int x2, .int x3, .int x4, .int x5] (some (.int res.1)) res.2 := by
  refine Kt.of (by decide) (Nat.le_of_ble_eq_true rfl) (fun X hX C E => ?_)
  subst hX
  have C : Cx B X "GriefEngineModel" cX11_milesBy 8 4 := C
  show Wk B X 8 T 0 [(0, .ref (B.1 10 0)), (1, .int x1), (2, .int x2), (3, .int x3), (4, .int x4), (5, .int x5)] []
  unfold m_X11_milesBy at h
  refine k_aload_n (pc := 0) C dX11_milesBy_0 0 rfl ?_
  refine k_iload_n (pc := 1) C dX11_milesBy_1 1 rfl ?_
  obtain ⟨z1, e1, h⟩ := bnd h
  refine k_callvV (pc := 2) C lk_X11_127 (by decide) ix_X11 wo_X11 rfl rfl (kc_X11_layOne e1) dX11_milesBy_2 rfl rfl (Nat.le_of_ble_eq_true rfl) ?_
  refine k_iconst (pc := 5) (v := (0 : Int32)) C dX11_milesBy_5 ciconst_0 ?_
  refine k_istore (pc := 6) C [(6, .int (0 : Int32)), (0, .ref (B.1 10 0)), (1, .int x1), (2, .int x2), (3, .int x3), (4, .int x4), (5, .int x5)] dX11_milesBy_6 (by decide) rfl ?_
  refine k_iconst (pc := 8) (v := (0 : Int32)) C dX11_milesBy_8 ciconst_0 ?_
  refine k_istore (pc := 9) C [(7, .int (0 : Int32)), (6, .int (0 : Int32)), (0, .ref (B.1 10 0)), (1, .int x1), (2, .int x2), (3, .int x3), (4, .int x4), (5, .int x5)] dX11_milesBy_9 (by decide) rfl ?_
  refine k_sub [2, 3, 4, 5, 6, 7, 1, 0] rfl ?_
  exact k_X11_milesBy_l11 C E FU z1 x1 x2 x3 x4 x5 (0 : Int32) (0 : Int32) h
def m_X11_mostIn_b57 (rec5 : TT → Int32 → Int32 → Int32 → Int32 → Option (Int32 × TT)) (T : TT) (x1 : Int32) (x2 : Int32) (x4 : Int32) (s0 : Int32) : Option (Int32 × TT) := bT (x4 + (1 : Int32)) (fun y7 => rec5 T x1 x2 s0 y7)
def m_X11_mostIn_b42 (rec5 : TT → Int32 → Int32 → Int32 → Int32 → Option (Int32 × TT)) (T : TT) (x1 : Int32) (x2 : Int32) (x3 : Int32) (x4 : Int32) (x5 : Int32) (s1 : Int32) : Option (Int32 × TT) := bT (sI T 10 8 s1) (fun T5 => if x5 ≤ x3 then (m_X11_mostIn_b57 rec5 T5 x1 x2 x4 x3) else (m_X11_mostIn_b57 rec5 T5 x1 x2 x4 x5))
def m_X11_mostIn_h5 (rec5 : TT → Int32 → Int32 → Int32 → Int32 → Option (Int32 × TT)) (T : TT) (x1 : Int32) (x2 : Int32) (x3 : Int32) (x4 : Int32) : Option (Int32 × TT) := (m_X11_powerOfThree x2).bind (fun z1 => if z1 ≤ x4 then (some (x3, T)) else ((m_X11_milesBy T x1 x2 x4 (0 : Int32) x2).bind (fun z2 => if z2.1 ≤ x3 then (m_X11_mostIn_b42 rec5 z2.2 x1 x2 x3 x4 z2.1 (z2.2.2.1 10 8)) else (m_X11_mostIn_b42 rec5 z2.2 x1 x2 x3 x4 z2.1 x4))))
def m_X11_mostIn_l5 : Nat → TT → Int32 → Int32 → Int32 → Int32 → Option (Int32 × TT)
  | 0 => fun _ _ _ _ _ => none
  | n + 1 => fun T x1 x2 x3 x4 => m_X11_mostIn_h5 (m_X11_mostIn_l5 n) T x1 x2 x3 x4
def m_X11_mostIn (T : TT) (x1 : Int32) (x2 : Int32) : Option (Int32 × TT) := m_X11_mostIn_l5 FU T x1 x2 (-1 : Int32) (0 : Int32)
set_option maxHeartbeats 4000000 in
set_option maxRecDepth 100000 in
theorem k_X11_mostIn_b57 {B : KB} {X : KE} {rec5 : TT → Int32 → Int32 → Int32 → Int32 → Option (Int32 × TT)} {res : Int32 × TT} (C : Cx B X "GriefEngineModel" cX11_mostIn 6 5) (E : Cr B X (some .int) (some (.int res.1)) res.2) (hrec5 : ∀ (T : TT) (x1 : Int32) (x2 : Int32) (x3 : Int32) (x4 : Int32), rec5 T x1 x2 x3 x4 = some res → Wk B X 6 T 5 [(0, .ref (B.1 10 0)), (1, .int x1), (2, .int x2), (3, .int x3), (4, .int x4)] []) (T : TT) (x1 : Int32) (x2 : Int32) (x4 : Int32) (s0 : Int32) (h : m_X11_mostIn_b57 rec5 T x1 x2 x4 s0 = some res) : Wk B X 6 T 57 [(0, .ref (B.1 10 0)), (1, .int x1), (2, .int x2), (4, .int x4)] [.int s0] := by
  unfold m_X11_mostIn_b57 at h
  refine k_istore_n (pc := 57) C [(3, .int s0), (0, .ref (B.1 10 0)), (1, .int x1), (2, .int x2), (4, .int x4)] dX11_mostIn_57 (by decide) rfl ?_
  refine k_iincN (pc := 58) (x := x4) (c := (1 : Int32)) C (fun y7 => [(4, .int y7), (3, .int s0), (0, .ref (B.1 10 0)), (1, .int x1), (2, .int x2)]) dX11_mostIn_58 4 rfl ciconst_1 (by decide) (fun _ => rfl) h (fun y7 h => ?_)
  refine k_goto (pc := 61) C 5 dX11_mostIn_61 (by decide) ?_
  refine k_sub [2, 3, 4, 1, 0] rfl ?_
  exact hrec5 T x1 x2 s0 y7 h
set_option maxHeartbeats 4000000 in
set_option maxRecDepth 100000 in
theorem k_X11_mostIn_b42 {B : KB} {X : KE} {rec5 : TT → Int32 → Int32 → Int32 → Int32 → Option (Int32 × TT)} {res : Int32 × TT} (C : Cx B X "GriefEngineModel" cX11_mostIn 6 5) (E : Cr B X (some .int) (some (.int res.1)) res.2) (hrec5 : ∀ (T : TT) (x1 : Int32) (x2 : Int32) (x3 : Int32) (x4 : Int32), rec5 T x1 x2 x3 x4 = some res → Wk B X 6 T 5 [(0, .ref (B.1 10 0)), (1, .int x1), (2, .int x2), (3, .int x3), (4, .int x4)] []) (T : TT) (x1 : Int32) (x2 : Int32) (x3 : Int32) (x4 : Int32) (x5 : Int32) (s1 : Int32) (h : m_X11_mostIn_b42 rec5 T x1 x2 x3 x4 x5 s1 = some res) : Wk B X 6 T 42 [(0, .ref (B.1 10 0)), (1, .int x1), (2, .int x2), (3, .int x3), (4, .int x4), (5, .int x5)] [.int s1, .ref (B.1 10 0)] := by
  unfold m_X11_mostIn_b42 at h
  refine pf_X11_138 (pc := 42) C dX11_mostIn_42 ?_
  refine k_nT h (fun T5 h => ?_)
  refine k_iload (pc := 45) C dX11_mostIn_45 5 rfl ?_
  refine k_iload_n (pc := 47) C dX11_mostIn_47 3 rfl ?_
  refine k_icmp_le (pc := 48) C 56 dX11_mostIn_48 (by decide) h (fun c6 h => ?_) (fun c6 h => ?_)
  · refine k_iload_n (pc := 56) C dX11_mostIn_56 3 rfl ?_
    refine k_sub [0, 1, 2, 4] rfl ?_
    exact k_X11_mostIn_b57 C E hrec5 T5 x1 x2 x4 x3 h
  · refine k_iload (pc := 51) C dX11_mostIn_51 5 rfl ?_
    refine k_goto (pc := 53) C 57 dX11_mostIn_53 (by decide) ?_
    refine k_sub [0, 1, 2, 4] rfl ?_
    exact k_X11_mostIn_b57 C E hrec5 T5 x1 x2 x4 x5 h
set_option maxHeartbeats 4000000 in
set_option maxRecDepth 100000 in
theorem k_X11_mostIn_h5 {B : KB} {X : KE} {rec5 : TT → Int32 → Int32 → Int32 → Int32 → Option (Int32 × TT)} {res : Int32 × TT} (C : Cx B X "GriefEngineModel" cX11_mostIn 6 5) (E : Cr B X (some .int) (some (.int res.1)) res.2) (hrec5 : ∀ (T : TT) (x1 : Int32) (x2 : Int32) (x3 : Int32) (x4 : Int32), rec5 T x1 x2 x3 x4 = some res → Wk B X 6 T 5 [(0, .ref (B.1 10 0)), (1, .int x1), (2, .int x2), (3, .int x3), (4, .int x4)] []) (T : TT) (x1 : Int32) (x2 : Int32) (x3 : Int32) (x4 : Int32) (h : m_X11_mostIn_h5 rec5 T x1 x2 x3 x4 = some res) : Wk B X 6 T 5 [(0, .ref (B.1 10 0)), (1, .int x1), (2, .int x2), (3, .int x3), (4, .int x4)] [] := by
  unfold m_X11_mostIn_h5 at h
  refine k_iload (pc := 5) C dX11_mostIn_5 4 rfl ?_
  refine k_iload_n (pc := 7) C dX11_mostIn_7 2 rfl ?_
  obtain ⟨z1, e1, h⟩ := bnd h
  refine k_callsI (pc := 8) C lk_X11_131 (by decide) (kc_X11_powerOfThree e1) dX11_mostIn_8 rfl rfl (Nat.le_of_ble_eq_true rfl) ?_
  refine k_icmp_ge (pc := 11) C 64 dX11_mostIn_11 (by decide) h (fun c4 h => ?_) (fun c4 h => ?_)
  · refine k_iload_n (pc := 64) C dX11_mostIn_64 3 rfl ?_
    exact k_iret (pc := 65) C E (some_1 h) (some_2 h) dX11_mostIn_65
  · refine k_aload_n (pc := 14) C dX11_mostIn_14 0 rfl ?_
    refine k_iload_n (pc := 15) C dX11_mostIn_15 1 rfl ?_
    refine k_iload_n (pc := 16) C dX11_mostIn_16 2 rfl ?_
    refine k_iload (pc := 17) C dX11_mostIn_17 4 rfl ?_
    refine k_iconst (pc := 19) (v := (0 : Int32)) C dX11_mostIn_19 ciconst_0 ?_
    refine k_iload_n (pc := 20) C dX11_mostIn_20 2 rfl ?_
    obtain ⟨z2, e2, h⟩ := bnd h
    refine k_callvI (pc := 21) C lk_X11_134 (by decide) ix_X11 wo_X11 rfl rfl (kc_X11_milesBy e2) dX11_mostIn_21 rfl rfl (Nat.le_of_ble_eq_true rfl) ?_
    refine k_istore (pc := 24) C [(5, .int z2.1), (0, .ref (B.1 10 0)), (1, .int x1), (2, .int x2), (3, .int x3), (4, .int x4)] dX11_mostIn_24 (by decide) rfl ?_
    refine k_aload_n (pc := 26) C dX11_mostIn_26 1 rfl ?_
    refine k_iload (pc := 27) C dX11_mostIn_27 0 rfl ?_
    refine k_iload_n (pc := 29) C dX11_mostIn_29 4 rfl ?_
    refine k_icmp_le (pc := 30) C 38 dX11_mostIn_30 (by decide) h (fun c3 h => ?_) (fun c3 h => ?_)
    · refine k_aload_n (pc := 38) C dX11_mostIn_38 1 rfl ?_
      refine gf_X11_138 (pc := 39) C dX11_mostIn_39 ?_
      refine k_sub [1, 2, 3, 4, 5, 0] rfl ?_
      exact k_X11_mostIn_b42 C E hrec5 z2.2 x1 x2 x3 x4 z2.1 (z2.2.2.1 10 8) h
    · refine k_iload (pc := 33) C dX11_mostIn_33 5 rfl ?_
      refine k_goto (pc := 35) C 42 dX11_mostIn_35 (by decide) ?_
      refine k_sub [1, 2, 3, 4, 5, 0] rfl ?_
      exact k_X11_mostIn_b42 C E hrec5 z2.2 x1 x2 x3 x4 z2.1 x4 h
set_option maxHeartbeats 4000000 in
set_option maxRecDepth 100000 in
theorem k_X11_mostIn_l5 {B : KB} {X : KE} {res : Int32 × TT} (C : Cx B X "GriefEngineModel" cX11_mostIn 6 5) (E : Cr B X (some .int) (some (.int res.1)) res.2) : ∀ (n : Nat) (T : TT) (x1 : Int32) (x2 : Int32) (x3 : Int32) (x4 : Int32) (h : m_X11_mostIn_l5 n T x1 x2 x3 x4 = some res), Wk B X 6 T 5 [(0, .ref (B.1 10 0)), (1, .int x1), (2, .int x2), (3, .int x3), (4, .int x4)] [] := by
  intro n
  induction n with
  | zero =>
    intro T x1 x2 x3 x4 h
    exact no_some h
  | succ n ih =>
    intro T x1 x2 x3 x4 h
    exact k_X11_mostIn_h5 C E (fun T x1 x2 x3 x4 h => ih T x1 x2 x3 x4 h) T x1 x2 x3 x4 h
set_option maxHeartbeats 4000000 in
set_option maxRecDepth 100000 in
theorem kc_X11_mostIn {B : KB} {l : Launch} {T : TT} {x1 : Int32} {x2 : Int32} {res : Int32 × TT} (h : m_X11_mostIn T x1 x2 = some res) : Kt B l 5 yX11_mostIn cX11_mostIn 6 (some .int) T [.ref (B.1 10 0), .int x1, .int x2] (some (.int res.1)) res.2 := by
  refine Kt.of (by decide) (Nat.le_of_ble_eq_true rfl) (fun X hX C E => ?_)
  subst hX
  have C : Cx B X "GriefEngineModel" cX11_mostIn 6 5 := C
  show Wk B X 6 T 0 [(0, .ref (B.1 10 0)), (1, .int x1), (2, .int x2)] []
  unfold m_X11_mostIn at h
  refine k_iconst (pc := 0) (v := (-1 : Int32)) C dX11_mostIn_0 ciconst_m1 ?_
  refine k_istore_n (pc := 1) C [(3, .int (-1 : Int32)), (0, .ref (B.1 10 0)), (1, .int x1), (2, .int x2)] dX11_mostIn_1 (by decide) rfl ?_
  refine k_iconst (pc := 2) (v := (0 : Int32)) C dX11_mostIn_2 ciconst_0 ?_
  refine k_istore (pc := 3) C [(4, .int (0 : Int32)), (3, .int (-1 : Int32)), (0, .ref (B.1 10 0)), (1, .int x1), (2, .int x2)] dX11_mostIn_3 (by decide) rfl ?_
  refine k_sub [2, 3, 4, 1, 0] rfl ?_
  exact k_X11_mostIn_l5 C E FU T x1 x2 (-1 : Int32) (0 : Int32) h
def m_X11_most_b25 (T : TT) : Option (Int32 × TT) := (m_X11_bad T (-10 : Int32)).bind (fun z10 => some (z10.1, z10.2))
def m_X11_most (T : TT) (x1 : Int32) (x2 : Int32) (x3 : Int32) : Option (Int32 × TT) := (m_X11_isDriver T x1).bind (fun z1 => if z1 = 0 then (m_X11_most_b25 T) else ((m_X11_in (x2.toInt64) (1 : Int64) (7 : Int64)).bind (fun z2 => if z2 = 0 then (m_X11_most_b25 T) else (if (-1 : Int32) ≤ x3 then ((m_X11_mostIn T x1 x2).bind (fun z3 => if x3 = (-1 : Int32) then (some (z3.1, z3.2)) else (if x3 < x2 then ((m_X11_powerOfThree ((x2 - (1 : Int32)) - x3)).bind (fun z4 => if z4 = 0 then none else (some ((((z3.2.2.1 10 8) / z4) - ((z3.2.2.1 10 8) / z4) / (3 : Int32) * (3 : Int32)), z3.2)))) else (some ((-5 : Int32), z3.2))))) else (m_X11_most_b25 T)))))
set_option maxHeartbeats 4000000 in
set_option maxRecDepth 100000 in
theorem k_X11_most_b25 {B : KB} {X : KE} {res : Int32 × TT} (C : Cx B X "GriefEngineModel" cX11_most 5 6) (E : Cr B X (some .int) (some (.int res.1)) res.2) (T : TT) (h : m_X11_most_b25 T = some res) : Wk B X 5 T 25 [(0, .ref (B.1 10 0))] [] := by
  unfold m_X11_most_b25 at h
  refine k_aload_n (pc := 25) C dX11_most_25 0 rfl ?_
  refine k_bipush (pc := 26) (v := (-10 : Int32)) C dX11_most_26 cbipush_m10 ?_
  obtain ⟨z10, e10, h⟩ := bnd h
  refine k_callvI (pc := 28) C lk_X11_63 (by decide) ix_X11 wo_X11 rfl rfl (kc_X11_bad e10) dX11_most_28 rfl rfl (Nat.le_of_ble_eq_true rfl) ?_
  exact k_iret (pc := 31) C E (some_1 h) (some_2 h) dX11_most_31
set_option maxHeartbeats 4000000 in
set_option maxRecDepth 100000 in
theorem kc_X11_most {B : KB} {l : Launch} {T : TT} {x1 : Int32} {x2 : Int32} {x3 : Int32} {res : Int32 × TT} (h : m_X11_most T x1 x2 x3 = some res) : Kt B l 6 yX11_most cX11_most 5 (some .int) T [.ref (B.1 10 0), .int x1, .int x2, .int x3] (some (.int res.1)) res.2 := by
  refine Kt.of (by decide) (Nat.le_of_ble_eq_true rfl) (fun X hX C E => ?_)
  subst hX
  have C : Cx B X "GriefEngineModel" cX11_most 5 6 := C
  show Wk B X 5 T 0 [(0, .ref (B.1 10 0)), (1, .int x1), (2, .int x2), (3, .int x3)] []
  unfold m_X11_most at h
  refine k_aload_n (pc := 0) C dX11_most_0 0 rfl ?_
  refine k_iload_n (pc := 1) C dX11_most_1 1 rfl ?_
  obtain ⟨z1, e1, h⟩ := bnd h
  refine k_callvI (pc := 2) C lk_X11_116 (by decide) ix_X11 wo_X11 rfl rfl (kc_X11_isDriver e1) dX11_most_2 rfl rfl (Nat.le_of_ble_eq_true rfl) ?_
  refine k_if_eq (pc := 5) C 25 dX11_most_5 (by decide) h (fun c9 h => ?_) (fun c9 h => ?_)
  · refine k_sub [0] rfl ?_
    exact k_X11_most_b25 C E T h
  · refine k_iload_n (pc := 8) C dX11_most_8 2 rfl ?_
    refine k_i2l (pc := 9) C dX11_most_9 ?_
    refine k_lconst (pc := 10) (v := (1 : Int64)) C dX11_most_10 (by decide) ?_
    refine k_ldc2_w (pc := 11) (v := (7 : Int64)) C dX11_most_11 tw4_233 ?_
    obtain ⟨z2, e2, h⟩ := bnd h
    refine k_callsI (pc := 14) C lk_X11_53 (by decide) (kc_X11_in e2) dX11_most_14 rfl rfl (Nat.le_of_ble_eq_true rfl) ?_
    refine k_if_eq (pc := 17) C 25 dX11_most_17 (by decide) h (fun c8 h => ?_) (fun c8 h => ?_)
    · refine k_sub [0] rfl ?_
      exact k_X11_most_b25 C E T h
    · refine k_iload_n (pc := 20) C dX11_most_20 3 rfl ?_
      refine k_iconst (pc := 21) (v := (-1 : Int32)) C dX11_most_21 ciconst_m1 ?_
      refine k_icmp_ge (pc := 22) C 32 dX11_most_22 (by decide) h (fun c7 h => ?_) (fun c7 h => ?_)
      · refine k_aload_n (pc := 32) C dX11_most_32 0 rfl ?_
        refine k_iload_n (pc := 33) C dX11_most_33 1 rfl ?_
        refine k_iload_n (pc := 34) C dX11_most_34 2 rfl ?_
        obtain ⟨z3, e3, h⟩ := bnd h
        refine k_callvI (pc := 35) C lk_X11_143 (by decide) ix_X11 wo_X11 rfl rfl (kc_X11_mostIn e3) dX11_most_35 rfl rfl (Nat.le_of_ble_eq_true rfl) ?_
        refine k_istore (pc := 38) C [(4, .int z3.1), (0, .ref (B.1 10 0)), (1, .int x1), (2, .int x2), (3, .int x3)] dX11_most_38 (by decide) rfl ?_
        refine k_iload_n (pc := 40) C dX11_most_40 4 rfl ?_
        refine k_iconst (pc := 41) (v := (-1 : Int32)) C dX11_most_41 ciconst_m1 ?_
        refine k_icmp_ne (pc := 42) C 50 dX11_most_42 (by decide) h (fun c6 h => ?_) (fun c6 h => ?_)
        · refine k_iload_n (pc := 50) C dX11_most_50 4 rfl ?_
          refine k_iload_n (pc := 51) C dX11_most_51 3 rfl ?_
          refine k_icmp_lt (pc := 52) C 60 dX11_most_52 (by decide) h (fun c5 h => ?_) (fun c5 h => ?_)
          · refine k_aload_n (pc := 60) C dX11_most_60 1 rfl ?_
            refine gf_X11_138 (pc := 61) C dX11_most_61 ?_
            refine k_iload_n (pc := 64) C dX11_most_64 3 rfl ?_
            refine k_iconst (pc := 65) (v := (1 : Int32)) C dX11_most_65 ciconst_1 ?_
            refine k_isub (pc := 66) C dX11_most_66 ?_
            refine k_iload_n (pc := 67) C dX11_most_67 4 rfl ?_
            refine k_isub (pc := 68) C dX11_most_68 ?_
            obtain ⟨z4, e4, h⟩ := bnd h
            refine k_callsI (pc := 69) C lk_X11_131 (by decide) (kc_X11_powerOfThree e4) dX11_most_69 rfl rfl (Nat.le_of_ble_eq_true rfl) ?_
            refine k_idiv (pc := 72) C dX11_most_72 h (fun h => ?_)
            refine k_iconst (pc := 73) (v := (3 : Int32)) C dX11_most_73 ciconst_3 ?_
            refine k_iremc (pc := 74) C dX11_most_74 (by decide) ?_
            exact k_iret (pc := 75) C E (some_1 h) (some_2 h) dX11_most_75
          · refine k_bipush (pc := 55) (v := (-5 : Int32)) C dX11_most_55 cbipush_m5 ?_
            refine k_goto (pc := 57) C 75 dX11_most_57 (by decide) ?_
            exact k_iret (pc := 75) C E (some_1 h) (some_2 h) dX11_most_75
        · refine k_iload (pc := 45) C dX11_most_45 0 rfl ?_
          refine k_goto (pc := 47) C 75 dX11_most_47 (by decide) ?_
          exact k_iret (pc := 75) C E (some_1 h) (some_2 h) dX11_most_75
      · refine k_sub [0] rfl ?_
        exact k_X11_most_b25 C E T h
def m_X11_soonest_h29 (rec29 : TT → Int32 → Int32 → Int32 → Option (Int32 × TT)) (T : TT) (x1 : Int32) (x2 : Int32) (x3 : Int32) : Option (Int32 × TT) := if (8 : Int32) ≤ x3 then (some ((-1 : Int32), T)) else ((m_X11_mostIn T x1 x3).bind (fun z5 => if z5.1 < x2 then (bT (x3 + (1 : Int32)) (fun y6 => rec29 z5.2 x1 x2 y6)) else (some (x3, z5.2))))
def m_X11_soonest_l29 : Nat → TT → Int32 → Int32 → Int32 → Option (Int32 × TT)
  | 0 => fun _ _ _ _ => none
  | n + 1 => fun T x1 x2 x3 => m_X11_soonest_h29 (m_X11_soonest_l29 n) T x1 x2 x3
def m_X11_soonest_b20 (T : TT) : Option (Int32 × TT) := (m_X11_bad T (-2 : Int32)).bind (fun z9 => some (z9.1, z9.2))
def m_X11_soonest (T : TT) (x1 : Int32) (x2 : Int32) : Option (Int32 × TT) := (m_X11_isDriver T x1).bind (fun z1 => if z1 = 0 then (m_X11_soonest_b20 T) else ((m_X11_in (x2.toInt64) (1 : Int64) (999 : Int64)).bind (fun z2 => if z2 = 0 then (m_X11_soonest_b20 T) else (m_X11_soonest_l29 FU T x1 x2 (1 : Int32)))))
set_option maxHeartbeats 4000000 in
set_option maxRecDepth 100000 in
theorem k_X11_soonest_h29 {B : KB} {X : KE} {rec29 : TT → Int32 → Int32 → Int32 → Option (Int32 × TT)} {res : Int32 × TT} (C : Cx B X "GriefEngineModel" cX11_soonest 4 6) (E : Cr B X (some .int) (some (.int res.1)) res.2) (hrec29 : ∀ (T : TT) (x1 : Int32) (x2 : Int32) (x3 : Int32), rec29 T x1 x2 x3 = some res → Wk B X 4 T 29 [(0, .ref (B.1 10 0)), (1, .int x1), (2, .int x2), (3, .int x3)] []) (T : TT) (x1 : Int32) (x2 : Int32) (x3 : Int32) (h : m_X11_soonest_h29 rec29 T x1 x2 x3 = some res) : Wk B X 4 T 29 [(0, .ref (B.1 10 0)), (1, .int x1), (2, .int x2), (3, .int x3)] [] := by
  unfold m_X11_soonest_h29 at h
  refine k_iload_n (pc := 29) C dX11_soonest_29 3 rfl ?_
  refine k_bipush (pc := 30) (v := (8 : Int32)) C dX11_soonest_30 cbipush_8 ?_
  refine k_icmp_ge (pc := 32) C 53 dX11_soonest_32 (by decide) h (fun c8 h => ?_) (fun c8 h => ?_)
  · refine k_iconst (pc := 53) (v := (-1 : Int32)) C dX11_soonest_53 ciconst_m1 ?_
    exact k_iret (pc := 54) C E (some_1 h) (some_2 h) dX11_soonest_54
  · refine k_aload_n (pc := 35) C dX11_soonest_35 0 rfl ?_
    refine k_iload_n (pc := 36) C dX11_soonest_36 1 rfl ?_
    refine k_iload_n (pc := 37) C dX11_soonest_37 3 rfl ?_
    obtain ⟨z5, e5, h⟩ := bnd h
    refine k_callvI (pc := 38) C lk_X11_143 (by decide) ix_X11 wo_X11 rfl rfl (kc_X11_mostIn e5) dX11_soonest_38 rfl rfl (Nat.le_of_ble_eq_true rfl) ?_
    refine k_iload_n (pc := 41) C dX11_soonest_41 2 rfl ?_
    refine k_icmp_lt (pc := 42) C 47 dX11_soonest_42 (by decide) h (fun c7 h => ?_) (fun c7 h => ?_)
    · refine k_iincN (pc := 47) (x := x3) (c := (1 : Int32)) C (fun y6 => [(3, .int y6), (0, .ref (B.1 10 0)), (1, .int x1), (2, .int x2)]) dX11_soonest_47 3 rfl ciconst_1 (by decide) (fun _ => rfl) h (fun y6 h => ?_)
      refine k_goto (pc := 50) C 29 dX11_soonest_50 (by decide) ?_
      refine k_sub [1, 2, 3, 0] rfl ?_
      exact hrec29 z5.2 x1 x2 y6 h
    · refine k_iload_n (pc := 45) C dX11_soonest_45 3 rfl ?_
      exact k_iret (pc := 46) C E (some_1 h) (some_2 h) dX11_soonest_46
set_option maxHeartbeats 4000000 in
set_option maxRecDepth 100000 in
theorem k_X11_soonest_l29 {B : KB} {X : KE} {res : Int32 × TT} (C : Cx B X "GriefEngineModel" cX11_soonest 4 6) (E : Cr B X (some .int) (some (.int res.1)) res.2) : ∀ (n : Nat) (T : TT) (x1 : Int32) (x2 : Int32) (x3 : Int32) (h : m_X11_soonest_l29 n T x1 x2 x3 = some res), Wk B X 4 T 29 [(0, .ref (B.1 10 0)), (1, .int x1), (2, .int x2), (3, .int x3)] [] := by
  intro n
  induction n with
  | zero =>
    intro T x1 x2 x3 h
    exact no_some h
  | succ n ih =>
    intro T x1 x2 x3 h
    exact k_X11_soonest_h29 C E (fun T x1 x2 x3 h => ih T x1 x2 x3 h) T x1 x2 x3 h
set_option maxHeartbeats 4000000 in
set_option maxRecDepth 100000 in
theorem k_X11_soonest_b20 {B : KB} {X : KE} {res : Int32 × TT} (C : Cx B X "GriefEngineModel" cX11_soonest 4 6) (E : Cr B X (some .int) (some (.int res.1)) res.2) (T : TT) (h : m_X11_soonest_b20 T = some res) : Wk B X 4 T 20 [(0, .ref (B.1 10 0))] [] := by
  unfold m_X11_soonest_b20 at h
  refine k_aload_n (pc := 20) C dX11_soonest_20 0 rfl ?_
  refine k_bipush (pc := 21) (v := (-2 : Int32)) C dX11_soonest_21 cbipush_m2 ?_
  obtain ⟨z9, e9, h⟩ := bnd h
  refine k_callvI (pc := 23) C lk_X11_63 (by decide) ix_X11 wo_X11 rfl rfl (kc_X11_bad e9) dX11_soonest_23 rfl rfl (Nat.le_of_ble_eq_true rfl) ?_
  exact k_iret (pc := 26) C E (some_1 h) (some_2 h) dX11_soonest_26
set_option maxHeartbeats 4000000 in
set_option maxRecDepth 100000 in
theorem kc_X11_soonest {B : KB} {l : Launch} {T : TT} {x1 : Int32} {x2 : Int32} {res : Int32 × TT} (h : m_X11_soonest T x1 x2 = some res) : Kt B l 6 yX11_soonest cX11_soonest 4 (some .int) T [.ref (B.1 10 0), .int x1, .int x2] (some (.int res.1)) res.2 := by
  refine Kt.of (by decide) (Nat.le_of_ble_eq_true rfl) (fun X hX C E => ?_)
  subst hX
  have C : Cx B X "GriefEngineModel" cX11_soonest 4 6 := C
  show Wk B X 4 T 0 [(0, .ref (B.1 10 0)), (1, .int x1), (2, .int x2)] []
  unfold m_X11_soonest at h
  refine k_aload_n (pc := 0) C dX11_soonest_0 0 rfl ?_
  refine k_iload_n (pc := 1) C dX11_soonest_1 1 rfl ?_
  obtain ⟨z1, e1, h⟩ := bnd h
  refine k_callvI (pc := 2) C lk_X11_116 (by decide) ix_X11 wo_X11 rfl rfl (kc_X11_isDriver e1) dX11_soonest_2 rfl rfl (Nat.le_of_ble_eq_true rfl) ?_
  refine k_if_eq (pc := 5) C 20 dX11_soonest_5 (by decide) h (fun c4 h => ?_) (fun c4 h => ?_)
  · refine k_sub [0] rfl ?_
    exact k_X11_soonest_b20 C E T h
  · refine k_iload_n (pc := 8) C dX11_soonest_8 2 rfl ?_
    refine k_i2l (pc := 9) C dX11_soonest_9 ?_
    refine k_lconst (pc := 10) (v := (1 : Int64)) C dX11_soonest_10 (by decide) ?_
    refine k_ldc2_w (pc := 11) (v := (999 : Int64)) C dX11_soonest_11 tw5_9 ?_
    obtain ⟨z2, e2, h⟩ := bnd h
    refine k_callsI (pc := 14) C lk_X11_53 (by decide) (kc_X11_in e2) dX11_soonest_14 rfl rfl (Nat.le_of_ble_eq_true rfl) ?_
    refine k_if_ne (pc := 17) C 27 dX11_soonest_17 (by decide) h (fun c3 h => ?_) (fun c3 h => ?_)
    · refine k_iconst (pc := 27) (v := (1 : Int32)) C dX11_soonest_27 ciconst_1 ?_
      refine k_istore_n (pc := 28) C [(3, .int (1 : Int32)), (0, .ref (B.1 10 0)), (1, .int x1), (2, .int x2)] dX11_soonest_28 (by decide) rfl ?_
      refine k_sub [1, 2, 3, 0] rfl ?_
      exact k_X11_soonest_l29 C E FU T x1 x2 (1 : Int32) h
    · refine k_sub [0] rfl ?_
      exact k_X11_soonest_b20 C E T h
