def m_X10_over_h40 (rec40 : TT → (Nat × Nat) → Int32 → Int32 → Option (Int32 × TT)) (T : TT) (hx2 : Nat × Nat) (x3 : Int32) (x4 : Int32) : Option (Int32 × TT) := if (99 : Int32) < x4 then (some ((-1 : Int32), T)) else (if x3 = 0 then (some (x4, T)) else ((v_left hx2 (0 : Int32) x3).bind (fun z6 => bT (x4 + (1 : Int32)) (fun y7 => rec40 T hx2 z6 y7))))
def m_X10_over_l40 : Nat → TT → (Nat × Nat) → Int32 → Int32 → Option (Int32 × TT)
  | 0 => fun _ _ _ _ => none
  | n + 1 => fun T hx2 x3 x4 => m_X10_over_h40 (m_X10_over_l40 n) T hx2 x3 x4
def m_X10_over (T : TT) (x1 : Int32) : Option (Int32 × TT) := (m_X4_has T 0 x1).bind (fun z1 => if z1 = 0 then ((m_X10_refuse T (-2 : Int32)).bind (fun z4 => some (z4.1, z4.2))) else ((m_X4_kindOf T 0 x1).bind (fun z2 => if inb x1 6 then (bT (T.1 0 3 (Int32.toNatClampNeg x1)) (fun y3 => m_X10_over_l40 FU T z2 y3 (0 : Int32))) else none)))
set_option maxHeartbeats 4000000 in
set_option maxRecDepth 100000 in
theorem k_X10_over_h40 {B : KB} {X : KE} {rec40 : TT → (Nat × Nat) → Int32 → Int32 → Option (Int32 × TT)} {res : Int32 × TT} (C : Cx B X "GriefEngine" cX10_over 5 4) (E : Cr B X (some .int) (some (.int res.1)) res.2) (hrec40 : ∀ (T : TT) (hx2 : Nat × Nat) (x3 : Int32) (x4 : Int32), kok hx2.1 hx2.2 → rec40 T hx2 x3 x4 = some res → Wk B X 5 T 40 [(2, .ref (B.1 hx2.1 hx2.2)), (3, .int x3), (4, .int x4)] []) (T : TT) (hx2 : Nat × Nat) (x3 : Int32) (x4 : Int32) (hkx2 : kok hx2.1 hx2.2) (h : m_X10_over_h40 rec40 T hx2 x3 x4 = some res) : Wk B X 5 T 40 [(2, .ref (B.1 hx2.1 hx2.2)), (3, .int x3), (4, .int x4)] [] := by
  unfold m_X10_over_h40 at h
  refine k_iload (pc := 40) C dX10_over_40 2 rfl ?_
  refine k_bipush (pc := 42) (v := (99 : Int32)) C dX10_over_42 cbipush_99 ?_
  refine k_icmp_gt (pc := 44) C 67 dX10_over_44 (by decide) h (fun c9 h => ?_) (fun c9 h => ?_)
  · refine k_iconst (pc := 67) (v := (-1 : Int32)) C dX10_over_67 ciconst_m1 ?_
    exact k_iret (pc := 68) C E (some_1 h) (some_2 h) dX10_over_68
  · refine k_iload_n (pc := 47) C dX10_over_47 1 rfl ?_
    refine k_if_ne (pc := 48) C 54 dX10_over_48 (by decide) h (fun c8 h => ?_) (fun c8 h => ?_)
    · refine k_aload_n (pc := 54) C dX10_over_54 0 rfl ?_
      refine k_iconst (pc := 55) (v := (0 : Int32)) C dX10_over_55 ciconst_0 ?_
      refine k_iload_n (pc := 56) C dX10_over_56 1 rfl ?_
      obtain ⟨z6, e6, h⟩ := bnd h
      refine kv_left (pc := 57) C lk_X10_165 (by decide) hkx2 e6 dX10_over_57 (Nat.le_of_ble_eq_true rfl) ?_
      refine k_istore_n (pc := 60) C [(3, .int z6), (2, .ref (B.1 hx2.1 hx2.2)), (4, .int x4)] dX10_over_60 (by decide) rfl ?_
      refine k_iincN (pc := 61) (x := x4) (c := (1 : Int32)) C (fun y7 => [(4, .int y7), (3, .int z6), (2, .ref (B.1 hx2.1 hx2.2))]) dX10_over_61 2 rfl ciconst_1 (by decide) (fun _ => rfl) h (fun y7 h => ?_)
      refine k_goto (pc := 64) C 40 dX10_over_64 (by decide) ?_
      refine k_sub [2, 1, 0] rfl ?_
      exact hrec40 T hx2 z6 y7 hkx2 h
    · refine k_iload (pc := 51) C dX10_over_51 2 rfl ?_
      exact k_iret (pc := 53) C E (some_1 h) (some_2 h) dX10_over_53
set_option maxHeartbeats 4000000 in
set_option maxRecDepth 100000 in
theorem k_X10_over_l40 {B : KB} {X : KE} {res : Int32 × TT} (C : Cx B X "GriefEngine" cX10_over 5 4) (E : Cr B X (some .int) (some (.int res.1)) res.2) : ∀ (n : Nat) (T : TT) (hx2 : Nat × Nat) (x3 : Int32) (x4 : Int32) (hkx2 : kok hx2.1 hx2.2) (h : m_X10_over_l40 n T hx2 x3 x4 = some res), Wk B X 5 T 40 [(2, .ref (B.1 hx2.1 hx2.2)), (3, .int x3), (4, .int x4)] [] := by
  intro n
  induction n with
  | zero =>
    intro T hx2 x3 x4 hkx2 h
    exact no_some h
  | succ n ih =>
    intro T hx2 x3 x4 hkx2 h
    exact k_X10_over_h40 C E (fun T hx2 x3 x4 hkx2 h => ih T hx2 x3 x4 hkx2 h) T hx2 x3 x4 hkx2 h
set_option maxHeartbeats 4000000 in
set_option maxRecDepth 100000 in
theorem kc_X10_over {B : KB} {l : Launch} {T : TT} {x1 : Int32} {res : Int32 × TT} (h : m_X10_over T x1 = some res) : Kt B l 4 yX10_over cX10_over 5 (some .int) T [.ref (B.1 4 0), .int x1] (some (.int res.1)) res.2 := by
  refine Kt.of (by decide) (Nat.le_of_ble_eq_true rfl) (fun X hX C E => ?_)
  subst hX
  have C : Cx B X "GriefEngine" cX10_over 5 4 := C
  show Wk B X 5 T 0 [(0, .ref (B.1 4 0)), (1, .int x1)] []
  unfold m_X10_over at h
  refine k_aload_n (pc := 0) C dX10_over_0 0 rfl ?_
  refine gf_X10_12 (pc := 1) C dX10_over_1 ?_
  refine k_iload_n (pc := 4) C dX10_over_4 1 rfl ?_
  obtain ⟨z1, e1, h⟩ := bnd h
  refine k_callvI (pc := 5) C lk_X10_132 (by decide) (ix_X4 lt4_0) (wo_X4 lt4_0) rfl rfl (kc_X4_has lt4_0 e1) dX10_over_5 rfl rfl (Nat.le_of_ble_eq_true rfl) ?_
  refine k_if_ne (pc := 8) C 18 dX10_over_8 (by decide) h (fun c5 h => ?_) (fun c5 h => ?_)
  · refine k_aload_n (pc := 18) C dX10_over_18 0 rfl ?_
    refine gf_X10_12 (pc := 19) C dX10_over_19 ?_
    refine k_iload_n (pc := 22) C dX10_over_22 1 rfl ?_
    obtain ⟨z2, e2, h⟩ := bnd h
    have hz2 := kr_X4_kindOf lt4_0 e2
    refine k_callvA (pc := 23) C lk_X10_153 (by decide) (ix_X4 lt4_0) (wo_X4 lt4_0) rfl rfl (kc_X4_kindOf lt4_0 e2) dX10_over_23 rfl rfl (Nat.le_of_ble_eq_true rfl) ?_
    refine k_astore_n (pc := 26) C [(2, .ref (B.1 z2.1 z2.2)), (0, .ref (B.1 4 0)), (1, .int x1)] dX10_over_26 (by decide) rfl ?_
    refine k_aload_n (pc := 27) C dX10_over_27 1 rfl ?_
    refine gf_X10_12 (pc := 28) C dX10_over_28 ?_
    refine gf_X10_147 (pc := 31) C lt4_0 dX10_over_31 ?_
    refine k_iload_n (pc := 34) C dX10_over_34 2 rfl ?_
    refine k_iald (pc := 35) C (ia_R3 lt4_0) dX10_over_35 h (fun h => ?_)
    refine k_nI h (fun y3 h => ?_)
    refine k_istore_n (pc := 36) C [(3, .int y3), (2, .ref (B.1 z2.1 z2.2)), (0, .ref (B.1 4 0)), (1, .int x1)] dX10_over_36 (by decide) rfl ?_
    refine k_iconst (pc := 37) (v := (0 : Int32)) C dX10_over_37 ciconst_0 ?_
    refine k_istore (pc := 38) C [(4, .int (0 : Int32)), (3, .int y3), (2, .ref (B.1 z2.1 z2.2)), (0, .ref (B.1 4 0)), (1, .int x1)] dX10_over_38 (by decide) rfl ?_
    refine k_sub [2, 1, 0] rfl ?_
    exact k_X10_over_l40 C E FU T z2 y3 (0 : Int32) hz2 h
  · refine k_aload_n (pc := 11) C dX10_over_11 0 rfl ?_
    refine k_bipush (pc := 12) (v := (-2 : Int32)) C dX10_over_12 cbipush_m2 ?_
    obtain ⟨z4, e4, h⟩ := bnd h
    refine k_callvI (pc := 14) C lk_X10_73 (by decide) ix_X10 wo_X10 rfl rfl (kc_X10_refuse e4) dX10_over_14 rfl rfl (Nat.le_of_ble_eq_true rfl) ?_
    exact k_iret (pc := 17) C E (some_1 h) (some_2 h) dX10_over_17
def m_X10_most_b26 (T : TT) : Option (Int32 × TT) := (m_X10_refuse T (-2 : Int32)).bind (fun z11 => some ((-10 : Int32), z11.2))
def m_X10_most (T : TT) (x1 : Int32) (x2 : Int32) (x3 : Int32) : Option (Int32 × TT) := (m_X4_has T 0 x1).bind (fun z1 => if z1 = 0 then (m_X10_most_b26 T) else ((m_X10_within x2 (1 : Int32) (7 : Int32)).bind (fun z2 => if z2 = 0 then (m_X10_most_b26 T) else (if (-1 : Int32) ≤ x3 then (if x3 < x2 then ((m_X5_reckon T 0 x1 x2).bind (fun z3 => if x3 = (-1 : Int32) then ((m_X5_mostMiles z3).bind (fun z5 => some (z5, z3))) else ((m_X5_choiceOf z3 x3).bind (fun z4 => some (z4, z3))))) else (some ((-5 : Int32), T))) else (m_X10_most_b26 T)))))
set_option maxHeartbeats 4000000 in
set_option maxRecDepth 100000 in
theorem k_X10_most_b26 {B : KB} {X : KE} {res : Int32 × TT} (C : Cx B X "GriefEngine" cX10_most 4 7) (E : Cr B X (some .int) (some (.int res.1)) res.2) (T : TT) (h : m_X10_most_b26 T = some res) : Wk B X 4 T 26 [(0, .ref (B.1 4 0))] [] := by
  unfold m_X10_most_b26 at h
  refine k_aload_n (pc := 26) C dX10_most_26 0 rfl ?_
  refine k_bipush (pc := 27) (v := (-2 : Int32)) C dX10_most_27 cbipush_m2 ?_
  obtain ⟨z11, e11, h⟩ := bnd h
  refine k_callvI (pc := 29) C lk_X10_73 (by decide) ix_X10 wo_X10 rfl rfl (kc_X10_refuse e11) dX10_most_29 rfl rfl (Nat.le_of_ble_eq_true rfl) ?_
  refine k_pop (pc := 32) C dX10_most_32 rfl ?_
  refine k_bipush (pc := 33) (v := (-10 : Int32)) C dX10_most_33 cbipush_m10 ?_
  exact k_iret (pc := 35) C E (some_1 h) (some_2 h) dX10_most_35
set_option maxHeartbeats 4000000 in
set_option maxRecDepth 100000 in
theorem kc_X10_most {B : KB} {l : Launch} {T : TT} {x1 : Int32} {x2 : Int32} {x3 : Int32} {res : Int32 × TT} (h : m_X10_most T x1 x2 x3 = some res) : Kt B l 7 yX10_most cX10_most 4 (some .int) T [.ref (B.1 4 0), .int x1, .int x2, .int x3] (some (.int res.1)) res.2 := by
  refine Kt.of (by decide) (Nat.le_of_ble_eq_true rfl) (fun X hX C E => ?_)
  subst hX
  have C : Cx B X "GriefEngine" cX10_most 4 7 := C
  show Wk B X 4 T 0 [(0, .ref (B.1 4 0)), (1, .int x1), (2, .int x2), (3, .int x3)] []
  unfold m_X10_most at h
  refine k_aload_n (pc := 0) C dX10_most_0 0 rfl ?_
  refine gf_X10_12 (pc := 1) C dX10_most_1 ?_
  refine k_iload_n (pc := 4) C dX10_most_4 1 rfl ?_
  obtain ⟨z1, e1, h⟩ := bnd h
  refine k_callvI (pc := 5) C lk_X10_132 (by decide) (ix_X4 lt4_0) (wo_X4 lt4_0) rfl rfl (kc_X4_has lt4_0 e1) dX10_most_5 rfl rfl (Nat.le_of_ble_eq_true rfl) ?_
  refine k_if_eq (pc := 8) C 26 dX10_most_8 (by decide) h (fun c10 h => ?_) (fun c10 h => ?_)
  · refine k_sub [0] rfl ?_
    exact k_X10_most_b26 C E T h
  · refine k_iload_n (pc := 11) C dX10_most_11 2 rfl ?_
    refine k_iconst (pc := 12) (v := (1 : Int32)) C dX10_most_12 ciconst_1 ?_
    refine k_bipush (pc := 13) (v := (7 : Int32)) C dX10_most_13 cbipush_7 ?_
    obtain ⟨z2, e2, h⟩ := bnd h
    refine k_callsI (pc := 15) C lk_X10_69 (by decide) (kc_X10_within e2) dX10_most_15 rfl rfl (Nat.le_of_ble_eq_true rfl) ?_
    refine k_if_eq (pc := 18) C 26 dX10_most_18 (by decide) h (fun c9 h => ?_) (fun c9 h => ?_)
    · refine k_sub [0] rfl ?_
      exact k_X10_most_b26 C E T h
    · refine k_iload_n (pc := 21) C dX10_most_21 3 rfl ?_
      refine k_iconst (pc := 22) (v := (-1 : Int32)) C dX10_most_22 ciconst_m1 ?_
      refine k_icmp_ge (pc := 23) C 36 dX10_most_23 (by decide) h (fun c8 h => ?_) (fun c8 h => ?_)
      · refine k_iload_n (pc := 36) C dX10_most_36 3 rfl ?_
        refine k_iload_n (pc := 37) C dX10_most_37 2 rfl ?_
        refine k_icmp_lt (pc := 38) C 44 dX10_most_38 (by decide) h (fun c7 h => ?_) (fun c7 h => ?_)
        · refine k_aload_n (pc := 44) C dX10_most_44 0 rfl ?_
          refine gf_X10_37 (pc := 45) C dX10_most_45 ?_
          refine k_aload_n (pc := 48) C dX10_most_48 0 rfl ?_
          refine gf_X10_12 (pc := 49) C dX10_most_49 ?_
          refine k_iload_n (pc := 52) C dX10_most_52 1 rfl ?_
          refine k_iload_n (pc := 53) C dX10_most_53 2 rfl ?_
          obtain ⟨z3, e3, h⟩ := bnd h
          refine k_callvV (pc := 54) C lk_X10_168 (by decide) ix_X5 wo_X5 rfl rfl (kc_X5_reckon lt4_0 e3) dX10_most_54 rfl rfl (Nat.le_of_ble_eq_true rfl) ?_
          refine k_iload_n (pc := 57) C dX10_most_57 3 rfl ?_
          refine k_iconst (pc := 58) (v := (-1 : Int32)) C dX10_most_58 ciconst_m1 ?_
          refine k_icmp_ne (pc := 59) C 72 dX10_most_59 (by decide) h (fun c6 h => ?_) (fun c6 h => ?_)
          · refine k_aload_n (pc := 72) C dX10_most_72 0 rfl ?_
            refine gf_X10_37 (pc := 73) C dX10_most_73 ?_
            refine k_iload_n (pc := 76) C dX10_most_76 3 rfl ?_
            obtain ⟨z4, e4, h⟩ := bnd h
            refine k_callvI (pc := 77) C lk_X10_176 (by decide) ix_X5 wo_X5 rfl rfl (kc_X5_choiceOf e4) dX10_most_77 rfl rfl (Nat.le_of_ble_eq_true rfl) ?_
            exact k_iret (pc := 80) C E (some_1 h) (some_2 h) dX10_most_80
          · refine k_aload_n (pc := 62) C dX10_most_62 0 rfl ?_
            refine gf_X10_37 (pc := 63) C dX10_most_63 ?_
            obtain ⟨z5, e5, h⟩ := bnd h
            refine k_callvI (pc := 66) C lk_X10_172 (by decide) ix_X5 wo_X5 rfl rfl (kc_X5_mostMiles e5) dX10_most_66 rfl rfl (Nat.le_of_ble_eq_true rfl) ?_
            refine k_goto (pc := 69) C 80 dX10_most_69 (by decide) ?_
            exact k_iret (pc := 80) C E (some_1 h) (some_2 h) dX10_most_80
        · refine k_bipush (pc := 41) (v := (-5 : Int32)) C dX10_most_41 cbipush_m5 ?_
          exact k_iret (pc := 43) C E (some_1 h) (some_2 h) dX10_most_43
      · refine k_sub [0] rfl ?_
        exact k_X10_most_b26 C E T h
def m_X10_soonest_b22 (T : TT) : Option (Int32 × TT) := (m_X10_refuse T (-2 : Int32)).bind (fun z7 => some (z7.1, z7.2))
def m_X10_soonest (T : TT) (x1 : Int32) (x2 : Int32) : Option (Int32 × TT) := (m_X4_has T 0 x1).bind (fun z1 => if z1 = 0 then (m_X10_soonest_b22 T) else ((m_X10_within x2 (1 : Int32) (999 : Int32)).bind (fun z2 => if z2 = 0 then (m_X10_soonest_b22 T) else ((m_X5_reckon T 0 x1 (7 : Int32)).bind (fun z3 => (m_X5_fewestDaysFor z3 x2).bind (fun z4 => some (z4, z3)))))))
set_option maxHeartbeats 4000000 in
set_option maxRecDepth 100000 in
theorem k_X10_soonest_b22 {B : KB} {X : KE} {res : Int32 × TT} (C : Cx B X "GriefEngine" cX10_soonest 3 7) (E : Cr B X (some .int) (some (.int res.1)) res.2) (T : TT) (h : m_X10_soonest_b22 T = some res) : Wk B X 3 T 22 [(0, .ref (B.1 4 0))] [] := by
  unfold m_X10_soonest_b22 at h
  refine k_aload_n (pc := 22) C dX10_soonest_22 0 rfl ?_
  refine k_bipush (pc := 23) (v := (-2 : Int32)) C dX10_soonest_23 cbipush_m2 ?_
  obtain ⟨z7, e7, h⟩ := bnd h
  refine k_callvI (pc := 25) C lk_X10_73 (by decide) ix_X10 wo_X10 rfl rfl (kc_X10_refuse e7) dX10_soonest_25 rfl rfl (Nat.le_of_ble_eq_true rfl) ?_
  exact k_iret (pc := 28) C E (some_1 h) (some_2 h) dX10_soonest_28
set_option maxHeartbeats 4000000 in
set_option maxRecDepth 100000 in
theorem kc_X10_soonest {B : KB} {l : Launch} {T : TT} {x1 : Int32} {x2 : Int32} {res : Int32 × TT} (h : m_X10_soonest T x1 x2 = some res) : Kt B l 7 yX10_soonest cX10_soonest 3 (some .int) T [.ref (B.1 4 0), .int x1, .int x2] (some (.int res.1)) res.2 := by
  refine Kt.of (by decide) (Nat.le_of_ble_eq_true rfl) (fun X hX C E => ?_)
  subst hX
  have C : Cx B X "GriefEngine" cX10_soonest 3 7 := C
  show Wk B X 3 T 0 [(0, .ref (B.1 4 0)), (1, .int x1), (2, .int x2)] []
  unfold m_X10_soonest at h
  refine k_aload_n (pc := 0) C dX10_soonest_0 0 rfl ?_
  refine gf_X10_12 (pc := 1) C dX10_soonest_1 ?_
  refine k_iload_n (pc := 4) C dX10_soonest_4 1 rfl ?_
  obtain ⟨z1, e1, h⟩ := bnd h
  refine k_callvI (pc := 5) C lk_X10_132 (by decide) (ix_X4 lt4_0) (wo_X4 lt4_0) rfl rfl (kc_X4_has lt4_0 e1) dX10_soonest_5 rfl rfl (Nat.le_of_ble_eq_true rfl) ?_
  refine k_if_eq (pc := 8) C 22 dX10_soonest_8 (by decide) h (fun c6 h => ?_) (fun c6 h => ?_)
  · refine k_sub [0] rfl ?_
    exact k_X10_soonest_b22 C E T h
  · refine k_iload_n (pc := 11) C dX10_soonest_11 2 rfl ?_
    refine k_iconst (pc := 12) (v := (1 : Int32)) C dX10_soonest_12 ciconst_1 ?_
    refine k_sipush (pc := 13) (v := (999 : Int32)) C dX10_soonest_13 csipush_999 ?_
    obtain ⟨z2, e2, h⟩ := bnd h
    refine k_callsI (pc := 16) C lk_X10_69 (by decide) (kc_X10_within e2) dX10_soonest_16 rfl rfl (Nat.le_of_ble_eq_true rfl) ?_
    refine k_if_ne (pc := 19) C 29 dX10_soonest_19 (by decide) h (fun c5 h => ?_) (fun c5 h => ?_)
    · refine k_aload_n (pc := 29) C dX10_soonest_29 0 rfl ?_
      refine gf_X10_37 (pc := 30) C dX10_soonest_30 ?_
      refine k_aload_n (pc := 33) C dX10_soonest_33 0 rfl ?_
      refine gf_X10_12 (pc := 34) C dX10_soonest_34 ?_
      refine k_iload_n (pc := 37) C dX10_soonest_37 1 rfl ?_
      refine k_bipush (pc := 38) (v := (7 : Int32)) C dX10_soonest_38 cbipush_7 ?_
      obtain ⟨z3, e3, h⟩ := bnd h
      refine k_callvV (pc := 40) C lk_X10_168 (by decide) ix_X5 wo_X5 rfl rfl (kc_X5_reckon lt4_0 e3) dX10_soonest_40 rfl rfl (Nat.le_of_ble_eq_true rfl) ?_
      refine k_aload_n (pc := 43) C dX10_soonest_43 0 rfl ?_
      refine gf_X10_37 (pc := 44) C dX10_soonest_44 ?_
      refine k_iload_n (pc := 47) C dX10_soonest_47 2 rfl ?_
      obtain ⟨z4, e4, h⟩ := bnd h
      refine k_callvI (pc := 48) C lk_X10_179 (by decide) ix_X5 wo_X5 rfl rfl (kc_X5_fewestDaysFor e4) dX10_soonest_48 rfl rfl (Nat.le_of_ble_eq_true rfl) ?_
      exact k_iret (pc := 51) C E (some_1 h) (some_2 h) dX10_soonest_51
    · refine k_sub [0] rfl ?_
      exact k_X10_soonest_b22 C E T h
def m_X10_home_b30 (T : TT) : Option (Int32 × TT) := (m_X10_refuse T (-2 : Int32)).bind (fun z12 => some (z12.1, z12.2))
def m_X10_home (T : TT) (x1 : Int32) (x2 : Int32) (x3 : Int32) : Option (Int32 × TT) := (m_X4_has T 0 x1).bind (fun z1 => if z1 = 0 then (m_X10_home_b30 T) else ((m_X10_within x2 (2 : Int32) (7 : Int32)).bind (fun z2 => if z2 = 0 then (m_X10_home_b30 T) else ((m_X10_within x3 (0 : Int32) (1 : Int32)).bind (fun z3 => if z3 = 0 then (m_X10_home_b30 T) else ((m_X5_reckon T 0 x1 x2).bind (fun z4 => if x3 = 0 then ((m_X5_farthestTurn z4).bind (fun z7 => some (z7, z4))) else ((m_X5_farthestTurn z4).bind (fun z5 => (m_X5_firstTurnAt z4 z5).bind (fun z6 => some (z6, z4)))))))))))
set_option maxHeartbeats 4000000 in
set_option maxRecDepth 100000 in
theorem k_X10_home_b30 {B : KB} {X : KE} {res : Int32 × TT} (C : Cx B X "GriefEngine" cX10_home 4 7) (E : Cr B X (some .int) (some (.int res.1)) res.2) (T : TT) (h : m_X10_home_b30 T = some res) : Wk B X 4 T 30 [(0, .ref (B.1 4 0))] [] := by
  unfold m_X10_home_b30 at h
  refine k_aload_n (pc := 30) C dX10_home_30 0 rfl ?_
  refine k_bipush (pc := 31) (v := (-2 : Int32)) C dX10_home_31 cbipush_m2 ?_
  obtain ⟨z12, e12, h⟩ := bnd h
  refine k_callvI (pc := 33) C lk_X10_73 (by decide) ix_X10 wo_X10 rfl rfl (kc_X10_refuse e12) dX10_home_33 rfl rfl (Nat.le_of_ble_eq_true rfl) ?_
  exact k_iret (pc := 36) C E (some_1 h) (some_2 h) dX10_home_36
set_option maxHeartbeats 4000000 in
set_option maxRecDepth 100000 in
theorem kc_X10_home {B : KB} {l : Launch} {T : TT} {x1 : Int32} {x2 : Int32} {x3 : Int32} {res : Int32 × TT} (h : m_X10_home T x1 x2 x3 = some res) : Kt B l 7 yX10_home cX10_home 4 (some .int) T [.ref (B.1 4 0), .int x1, .int x2, .int x3] (some (.int res.1)) res.2 := by
  refine Kt.of (by decide) (Nat.le_of_ble_eq_true rfl) (fun X hX C E => ?_)
  subst hX
  have C : Cx B X "GriefEngine" cX10_home 4 7 := C
  show Wk B X 4 T 0 [(0, .ref (B.1 4 0)), (1, .int x1), (2, .int x2), (3, .int x3)] []
  unfold m_X10_home at h
  refine k_aload_n (pc := 0) C dX10_home_0 0 rfl ?_
  refine gf_X10_12 (pc := 1) C dX10_home_1 ?_
  refine k_iload_n (pc := 4) C dX10_home_4 1 rfl ?_
  obtain ⟨z1, e1, h⟩ := bnd h
  refine k_callvI (pc := 5) C lk_X10_132 (by decide) (ix_X4 lt4_0) (wo_X4 lt4_0) rfl rfl (kc_X4_has lt4_0 e1) dX10_home_5 rfl rfl (Nat.le_of_ble_eq_true rfl) ?_
  refine k_if_eq (pc := 8) C 30 dX10_home_8 (by decide) h (fun c11 h => ?_) (fun c11 h => ?_)
  · refine k_sub [0] rfl ?_
    exact k_X10_home_b30 C E T h
  · refine k_iload_n (pc := 11) C dX10_home_11 2 rfl ?_
    refine k_iconst (pc := 12) (v := (2 : Int32)) C dX10_home_12 ciconst_2 ?_
    refine k_bipush (pc := 13) (v := (7 : Int32)) C dX10_home_13 cbipush_7 ?_
    obtain ⟨z2, e2, h⟩ := bnd h
    refine k_callsI (pc := 15) C lk_X10_69 (by decide) (kc_X10_within e2) dX10_home_15 rfl rfl (Nat.le_of_ble_eq_true rfl) ?_
    refine k_if_eq (pc := 18) C 30 dX10_home_18 (by decide) h (fun c10 h => ?_) (fun c10 h => ?_)
    · refine k_sub [0] rfl ?_
      exact k_X10_home_b30 C E T h
    · refine k_iload_n (pc := 21) C dX10_home_21 3 rfl ?_
      refine k_iconst (pc := 22) (v := (0 : Int32)) C dX10_home_22 ciconst_0 ?_
      refine k_iconst (pc := 23) (v := (1 : Int32)) C dX10_home_23 ciconst_1 ?_
      obtain ⟨z3, e3, h⟩ := bnd h
      refine k_callsI (pc := 24) C lk_X10_69 (by decide) (kc_X10_within e3) dX10_home_24 rfl rfl (Nat.le_of_ble_eq_true rfl) ?_
      refine k_if_ne (pc := 27) C 37 dX10_home_27 (by decide) h (fun c9 h => ?_) (fun c9 h => ?_)
      · refine k_aload_n (pc := 37) C dX10_home_37 0 rfl ?_
        refine gf_X10_37 (pc := 38) C dX10_home_38 ?_
        refine k_aload_n (pc := 41) C dX10_home_41 0 rfl ?_
        refine gf_X10_12 (pc := 42) C dX10_home_42 ?_
        refine k_iload_n (pc := 45) C dX10_home_45 1 rfl ?_
        refine k_iload_n (pc := 46) C dX10_home_46 2 rfl ?_
        obtain ⟨z4, e4, h⟩ := bnd h
        refine k_callvV (pc := 47) C lk_X10_168 (by decide) ix_X5 wo_X5 rfl rfl (kc_X5_reckon lt4_0 e4) dX10_home_47 rfl rfl (Nat.le_of_ble_eq_true rfl) ?_
        refine k_iload_n (pc := 50) C dX10_home_50 3 rfl ?_
        refine k_if_ne (pc := 51) C 64 dX10_home_51 (by decide) h (fun c8 h => ?_) (fun c8 h => ?_)
        · refine k_aload_n (pc := 64) C dX10_home_64 0 rfl ?_
          refine gf_X10_37 (pc := 65) C dX10_home_65 ?_
          refine k_aload_n (pc := 68) C dX10_home_68 0 rfl ?_
          refine gf_X10_37 (pc := 69) C dX10_home_69 ?_
          obtain ⟨z5, e5, h⟩ := bnd h
          refine k_callvI (pc := 72) C lk_X10_182 (by decide) ix_X5 wo_X5 rfl rfl (kc_X5_farthestTurn e5) dX10_home_72 rfl rfl (Nat.le_of_ble_eq_true rfl) ?_
          obtain ⟨z6, e6, h⟩ := bnd h
          refine k_callvI (pc := 75) C lk_X10_185 (by decide) ix_X5 wo_X5 rfl rfl (kc_X5_firstTurnAt e6) dX10_home_75 rfl rfl (Nat.le_of_ble_eq_true rfl) ?_
          exact k_iret (pc := 78) C E (some_1 h) (some_2 h) dX10_home_78
        · refine k_aload_n (pc := 54) C dX10_home_54 0 rfl ?_
          refine gf_X10_37 (pc := 55) C dX10_home_55 ?_
          obtain ⟨z7, e7, h⟩ := bnd h
          refine k_callvI (pc := 58) C lk_X10_182 (by decide) ix_X5 wo_X5 rfl rfl (kc_X5_farthestTurn e7) dX10_home_58 rfl rfl (Nat.le_of_ble_eq_true rfl) ?_
          refine k_goto (pc := 61) C 78 dX10_home_61 (by decide) ?_
          exact k_iret (pc := 78) C E (some_1 h) (some_2 h) dX10_home_78
      · refine k_sub [0] rfl ?_
        exact k_X10_home_b30 C E T h
def m_X10_tell_b26 (T : TT) (x1 : Int32) : Option (Int32 × TT) := (m_X2_reckon T 0).bind (fun z5 => if x1 = (-1 : Int32) then (some ((z5.2.1 7 1), z5)) else (if inb x1 6 then (some ((z5.1 7 1 (Int32.toNatClampNeg x1)), z5)) else none))
def m_X10_tell (T : TT) (x1 : Int32) : Option (Int32 × TT) := if x1 = (-1 : Int32) then (m_X10_tell_b26 T x1) else ((m_X4_has T 0 x1).bind (fun z1 => if z1 = 0 then ((m_X10_refuse T (-2 : Int32)).bind (fun z2 => some ((-10 : Int32), z2.2))) else (m_X10_tell_b26 T x1)))
set_option maxHeartbeats 4000000 in
set_option maxRecDepth 100000 in
theorem k_X10_tell_b26 {B : KB} {X : KE} {res : Int32 × TT} (C : Cx B X "GriefEngine" cX10_tell 2 16) (E : Cr B X (some .int) (some (.int res.1)) res.2) (T : TT) (x1 : Int32) (h : m_X10_tell_b26 T x1 = some res) : Wk B X 2 T 26 [(0, .ref (B.1 4 0)), (1, .int x1)] [] := by
  unfold m_X10_tell_b26 at h
  refine k_aload_n (pc := 26) C dX10_tell_26 0 rfl ?_
  refine gf_X10_44 (pc := 27) C dX10_tell_27 ?_
  refine k_aload_n (pc := 30) C dX10_tell_30 0 rfl ?_
  refine gf_X10_12 (pc := 31) C dX10_tell_31 ?_
  obtain ⟨z5, e5, h⟩ := bnd h
  refine k_callvV (pc := 34) C lk_X10_188 (by decide) ix_X2 wo_X2 rfl rfl (kc_X2_reckon lt4_0 e5) dX10_tell_34 rfl rfl (Nat.le_of_ble_eq_true rfl) ?_
  refine k_iload_n (pc := 37) C dX10_tell_37 1 rfl ?_
  refine k_iconst (pc := 38) (v := (-1 : Int32)) C dX10_tell_38 ciconst_m1 ?_
  refine k_icmp_ne (pc := 39) C 52 dX10_tell_39 (by decide) h (fun c6 h => ?_) (fun c6 h => ?_)
  · refine k_aload_n (pc := 52) C dX10_tell_52 0 rfl ?_
    refine gf_X10_44 (pc := 53) C dX10_tell_53 ?_
    refine gf_X10_193 (pc := 56) C dX10_tell_56 ?_
    refine k_iload_n (pc := 59) C dX10_tell_59 1 rfl ?_
    refine k_iald (pc := 60) C ia_7_1 dX10_tell_60 h (fun h => ?_)
    exact k_iret (pc := 61) C E (some_1 h) (some_2 h) dX10_tell_61
  · refine k_aload_n (pc := 42) C dX10_tell_42 0 rfl ?_
    refine gf_X10_44 (pc := 43) C dX10_tell_43 ?_
    refine gf_X10_190 (pc := 46) C dX10_tell_46 ?_
    refine k_goto (pc := 49) C 61 dX10_tell_49 (by decide) ?_
    exact k_iret (pc := 61) C E (some_1 h) (some_2 h) dX10_tell_61
set_option maxHeartbeats 4000000 in
set_option maxRecDepth 100000 in
theorem kc_X10_tell {B : KB} {l : Launch} {T : TT} {x1 : Int32} {res : Int32 × TT} (h : m_X10_tell T x1 = some res) : Kt B l 16 yX10_tell cX10_tell 2 (some .int) T [.ref (B.1 4 0), .int x1] (some (.int res.1)) res.2 := by
  refine Kt.of (by decide) (Nat.le_of_ble_eq_true rfl) (fun X hX C E => ?_)
  subst hX
  have C : Cx B X "GriefEngine" cX10_tell 2 16 := C
  show Wk B X 2 T 0 [(0, .ref (B.1 4 0)), (1, .int x1)] []
  unfold m_X10_tell at h
  refine k_iload_n (pc := 0) C dX10_tell_0 1 rfl ?_
  refine k_iconst (pc := 1) (v := (-1 : Int32)) C dX10_tell_1 ciconst_m1 ?_
  refine k_icmp_eq (pc := 2) C 26 dX10_tell_2 (by decide) h (fun c4 h => ?_) (fun c4 h => ?_)
  · refine k_sub [0, 1] rfl ?_
    exact k_X10_tell_b26 C E T x1 h
  · refine k_aload_n (pc := 5) C dX10_tell_5 0 rfl ?_
    refine gf_X10_12 (pc := 6) C dX10_tell_6 ?_
    refine k_iload_n (pc := 9) C dX10_tell_9 1 rfl ?_
    obtain ⟨z1, e1, h⟩ := bnd h
    refine k_callvI (pc := 10) C lk_X10_132 (by decide) (ix_X4 lt4_0) (wo_X4 lt4_0) rfl rfl (kc_X4_has lt4_0 e1) dX10_tell_10 rfl rfl (Nat.le_of_ble_eq_true rfl) ?_
    refine k_if_ne (pc := 13) C 26 dX10_tell_13 (by decide) h (fun c3 h => ?_) (fun c3 h => ?_)
    · refine k_sub [0, 1] rfl ?_
      exact k_X10_tell_b26 C E T x1 h
    · refine k_aload_n (pc := 16) C dX10_tell_16 0 rfl ?_
      refine k_bipush (pc := 17) (v := (-2 : Int32)) C dX10_tell_17 cbipush_m2 ?_
      obtain ⟨z2, e2, h⟩ := bnd h
      refine k_callvI (pc := 19) C lk_X10_73 (by decide) ix_X10 wo_X10 rfl rfl (kc_X10_refuse e2) dX10_tell_19 rfl rfl (Nat.le_of_ble_eq_true rfl) ?_
      refine k_pop (pc := 22) C dX10_tell_22 rfl ?_
      refine k_bipush (pc := 23) (v := (-10 : Int32)) C dX10_tell_23 cbipush_m10 ?_
      exact k_iret (pc := 25) C E (some_1 h) (some_2 h) dX10_tell_25
def m_X10_note_b73 (T : TT) : Option (Int32 × TT) := (m_X10_refuse T (-2 : Int32)).bind (fun z16 => some (z16.1, z16.2))
def m_X10_note_b35 (T : TT) (x1 : Int32) (x2 : Int32) (x3 : Int32) (x4 : Int32) (x5 : Int32) (x6 : Int32) (s0 : Int32) : Option (Int32 × TT) := if s0 = 0 then (m_X10_note_b73 T) else ((m_X10_within x4 (0 : Int32) (200 : Int32)).bind (fun z7 => if z7 = 0 then (m_X10_note_b73 T) else ((m_X10_isChoice x5).bind (fun z8 => if z8 = 0 then (m_X10_note_b73 T) else ((m_X10_within x6 (0 : Int32) (99 : Int32)).bind (fun z9 => if z9 = 0 then (m_X10_note_b73 T) else ((m_X4_addNote T 0 x1 x2 x3 x4 x5 x6).bind (fun z10 => (m_X10_refuseIfFull z10.2 z10.1).bind (fun z11 => some (z11.1, z11.2))))))))))
def m_X10_note_b34 (T : TT) (x1 : Int32) (x2 : Int32) (x3 : Int32) (x4 : Int32) (x5 : Int32) (x6 : Int32) : Option (Int32 × TT) := m_X10_note_b35 T x1 x2 x3 x4 x5 x6 (0 : Int32)
def m_X10_note (T : TT) (x1 : Int32) (x2 : Int32) (x3 : Int32) (x4 : Int32) (x5 : Int32) (x6 : Int32) : Option (Int32 × TT) := (m_X4_has T 0 x1).bind (fun z1 => if z1 = 0 then (m_X10_note_b34 T x1 x2 x3 x4 x5 x6) else ((m_X10_within x2 (0 : Int32) (99 : Int32)).bind (fun z2 => if z2 = 0 then (m_X10_note_b34 T x1 x2 x3 x4 x5 x6) else ((m_X10_within x3 (0 : Int32) (3 : Int32)).bind (fun z3 => if z3 = 0 then (m_X10_note_b34 T x1 x2 x3 x4 x5 x6) else (m_X10_note_b35 T x1 x2 x3 x4 x5 x6 (1 : Int32)))))))
set_option maxHeartbeats 4000000 in
set_option maxRecDepth 100000 in
theorem k_X10_note_b73 {B : KB} {X : KE} {res : Int32 × TT} (C : Cx B X "GriefEngine" cX10_note 8 3) (E : Cr B X (some .int) (some (.int res.1)) res.2) (T : TT) (h : m_X10_note_b73 T = some res) : Wk B X 8 T 73 [(0, .ref (B.1 4 0))] [] := by
  unfold m_X10_note_b73 at h
  refine k_aload_n (pc := 73) C dX10_note_73 0 rfl ?_
  refine k_bipush (pc := 74) (v := (-2 : Int32)) C dX10_note_74 cbipush_m2 ?_
  obtain ⟨z16, e16, h⟩ := bnd h
  refine k_callvI (pc := 76) C lk_X10_73 (by decide) ix_X10 wo_X10 rfl rfl (kc_X10_refuse e16) dX10_note_76 rfl rfl (Nat.le_of_ble_eq_true rfl) ?_
  exact k_iret (pc := 79) C E (some_1 h) (some_2 h) dX10_note_79
set_option maxHeartbeats 4000000 in
set_option maxRecDepth 100000 in
theorem k_X10_note_b35 {B : KB} {X : KE} {res : Int32 × TT} (C : Cx B X "GriefEngine" cX10_note 8 3) (E : Cr B X (some .int) (some (.int res.1)) res.2) (T : TT) (x1 : Int32) (x2 : Int32) (x3 : Int32) (x4 : Int32) (x5 : Int32) (x6 : Int32) (s0 : Int32) (h : m_X10_note_b35 T x1 x2 x3 x4 x5 x6 s0 = some res) : Wk B X 8 T 35 [(0, .ref (B.1 4 0)), (1, .int x1), (2, .int x2), (3, .int x3), (4, .int x4), (5, .int x5), (6, .int x6)] [.int s0] := by
  unfold m_X10_note_b35 at h
  refine k_istore (pc := 35) C [(7, .int s0), (0, .ref (B.1 4 0)), (1, .int x1), (2, .int x2), (3, .int x3), (4, .int x4), (5, .int x5), (6, .int x6)] dX10_note_35 (by decide) rfl ?_
  refine k_iload (pc := 37) C dX10_note_37 0 rfl ?_
  refine k_if_eq (pc := 39) C 73 dX10_note_39 (by decide) h (fun c15 h => ?_) (fun c15 h => ?_)
  · refine k_sub [1] rfl ?_
    exact k_X10_note_b73 C E T h
  · refine k_iload (pc := 42) C dX10_note_42 5 rfl ?_
    refine k_iconst (pc := 44) (v := (0 : Int32)) C dX10_note_44 ciconst_0 ?_
    refine k_sipush (pc := 45) (v := (200 : Int32)) C dX10_note_45 csipush_200 ?_
    obtain ⟨z7, e7, h⟩ := bnd h
    refine k_callsI (pc := 48) C lk_X10_69 (by decide) (kc_X10_within e7) dX10_note_48 rfl rfl (Nat.le_of_ble_eq_true rfl) ?_
    refine k_if_eq (pc := 51) C 73 dX10_note_51 (by decide) h (fun c14 h => ?_) (fun c14 h => ?_)
    · refine k_sub [1] rfl ?_
      exact k_X10_note_b73 C E T h
    · refine k_iload (pc := 54) C dX10_note_54 6 rfl ?_
      obtain ⟨z8, e8, h⟩ := bnd h
      refine k_callsI (pc := 56) C lk_X10_125 (by decide) (kc_X10_isChoice e8) dX10_note_56 rfl rfl (Nat.le_of_ble_eq_true rfl) ?_
      refine k_if_eq (pc := 59) C 73 dX10_note_59 (by decide) h (fun c13 h => ?_) (fun c13 h => ?_)
      · refine k_sub [1] rfl ?_
        exact k_X10_note_b73 C E T h
      · refine k_iload (pc := 62) C dX10_note_62 7 rfl ?_
        refine k_iconst (pc := 64) (v := (0 : Int32)) C dX10_note_64 ciconst_0 ?_
        refine k_bipush (pc := 65) (v := (99 : Int32)) C dX10_note_65 cbipush_99 ?_
        obtain ⟨z9, e9, h⟩ := bnd h
        refine k_callsI (pc := 67) C lk_X10_69 (by decide) (kc_X10_within e9) dX10_note_67 rfl rfl (Nat.le_of_ble_eq_true rfl) ?_
        refine k_if_ne (pc := 70) C 80 dX10_note_70 (by decide) h (fun c12 h => ?_) (fun c12 h => ?_)
        · refine k_aload_n (pc := 80) C dX10_note_80 1 rfl ?_
          refine k_aload_n (pc := 81) C dX10_note_81 1 rfl ?_
          refine gf_X10_12 (pc := 82) C dX10_note_82 ?_
          refine k_iload_n (pc := 85) C dX10_note_85 2 rfl ?_
          refine k_iload_n (pc := 86) C dX10_note_86 3 rfl ?_
          refine k_iload_n (pc := 87) C dX10_note_87 4 rfl ?_
          refine k_iload (pc := 88) C dX10_note_88 5 rfl ?_
          refine k_iload (pc := 90) C dX10_note_90 6 rfl ?_
          refine k_iload (pc := 92) C dX10_note_92 7 rfl ?_
          obtain ⟨z10, e10, h⟩ := bnd h
          refine k_callvI (pc := 94) C lk_X10_196 (by decide) (ix_X4 lt4_0) (wo_X4 lt4_0) rfl rfl (kc_X4_addNote lt4_0 e10) dX10_note_94 rfl rfl (Nat.le_of_ble_eq_true rfl) ?_
          obtain ⟨z11, e11, h⟩ := bnd h
          refine k_callvI (pc := 97) C lk_X10_81 (by decide) ix_X10 wo_X10 rfl rfl (kc_X10_refuseIfFull e11) dX10_note_97 rfl rfl (Nat.le_of_ble_eq_true rfl) ?_
          exact k_iret (pc := 100) C E (some_1 h) (some_2 h) dX10_note_100
        · refine k_sub [1] rfl ?_
          exact k_X10_note_b73 C E T h
set_option maxHeartbeats 4000000 in
set_option maxRecDepth 100000 in
theorem k_X10_note_b34 {B : KB} {X : KE} {res : Int32 × TT} (C : Cx B X "GriefEngine" cX10_note 8 3) (E : Cr B X (some .int) (some (.int res.1)) res.2) (T : TT) (x1 : Int32) (x2 : Int32) (x3 : Int32) (x4 : Int32) (x5 : Int32) (x6 : Int32) (h : m_X10_note_b34 T x1 x2 x3 x4 x5 x6 = some res) : Wk B X 8 T 34 [(0, .ref (B.1 4 0)), (1, .int x1), (2, .int x2), (3, .int x3), (4, .int x4), (5, .int x5), (6, .int x6)] [] := by
  unfold m_X10_note_b34 at h
  refine k_iconst (pc := 34) (v := (0 : Int32)) C dX10_note_34 ciconst_0 ?_
  refine k_sub [0, 1, 2, 3, 4, 5, 6] rfl ?_
  exact k_X10_note_b35 C E T x1 x2 x3 x4 x5 x6 (0 : Int32) h
set_option maxHeartbeats 4000000 in
set_option maxRecDepth 100000 in
theorem kc_X10_note {B : KB} {l : Launch} {T : TT} {x1 : Int32} {x2 : Int32} {x3 : Int32} {x4 : Int32} {x5 : Int32} {x6 : Int32} {res : Int32 × TT} (h : m_X10_note T x1 x2 x3 x4 x5 x6 = some res) : Kt B l 3 yX10_note cX10_note 8 (some .int) T [.ref (B.1 4 0), .int x1, .int x2, .int x3, .int x4, .int x5, .int x6] (some (.int res.1)) res.2 := by
  refine Kt.of (by decide) (Nat.le_of_ble_eq_true rfl) (fun X hX C E => ?_)
  subst hX
  have C : Cx B X "GriefEngine" cX10_note 8 3 := C
  show Wk B X 8 T 0 [(0, .ref (B.1 4 0)), (1, .int x1), (2, .int x2), (3, .int x3), (4, .int x4), (5, .int x5), (6, .int x6)] []
  unfold m_X10_note at h
  refine k_aload_n (pc := 0) C dX10_note_0 0 rfl ?_
  refine gf_X10_12 (pc := 1) C dX10_note_1 ?_
  refine k_iload_n (pc := 4) C dX10_note_4 1 rfl ?_
  obtain ⟨z1, e1, h⟩ := bnd h
  refine k_callvI (pc := 5) C lk_X10_132 (by decide) (ix_X4 lt4_0) (wo_X4 lt4_0) rfl rfl (kc_X4_has lt4_0 e1) dX10_note_5 rfl rfl (Nat.le_of_ble_eq_true rfl) ?_
  refine k_if_eq (pc := 8) C 34 dX10_note_8 (by decide) h (fun c6 h => ?_) (fun c6 h => ?_)
  · refine k_sub [0, 1, 2, 3, 4, 5, 6] rfl ?_
    exact k_X10_note_b34 C E T x1 x2 x3 x4 x5 x6 h
  · refine k_iload_n (pc := 11) C dX10_note_11 2 rfl ?_
    refine k_iconst (pc := 12) (v := (0 : Int32)) C dX10_note_12 ciconst_0 ?_
    refine k_bipush (pc := 13) (v := (99 : Int32)) C dX10_note_13 cbipush_99 ?_
    obtain ⟨z2, e2, h⟩ := bnd h
    refine k_callsI (pc := 15) C lk_X10_69 (by decide) (kc_X10_within e2) dX10_note_15 rfl rfl (Nat.le_of_ble_eq_true rfl) ?_
    refine k_if_eq (pc := 18) C 34 dX10_note_18 (by decide) h (fun c5 h => ?_) (fun c5 h => ?_)
    · refine k_sub [0, 1, 2, 3, 4, 5, 6] rfl ?_
      exact k_X10_note_b34 C E T x1 x2 x3 x4 x5 x6 h
    · refine k_iload_n (pc := 21) C dX10_note_21 3 rfl ?_
      refine k_iconst (pc := 22) (v := (0 : Int32)) C dX10_note_22 ciconst_0 ?_
      refine k_iconst (pc := 23) (v := (3 : Int32)) C dX10_note_23 ciconst_3 ?_
      obtain ⟨z3, e3, h⟩ := bnd h
      refine k_callsI (pc := 24) C lk_X10_69 (by decide) (kc_X10_within e3) dX10_note_24 rfl rfl (Nat.le_of_ble_eq_true rfl) ?_
      refine k_if_eq (pc := 27) C 34 dX10_note_27 (by decide) h (fun c4 h => ?_) (fun c4 h => ?_)
      · refine k_sub [0, 1, 2, 3, 4, 5, 6] rfl ?_
        exact k_X10_note_b34 C E T x1 x2 x3 x4 x5 x6 h
      · refine k_iconst (pc := 30) (v := (1 : Int32)) C dX10_note_30 ciconst_1 ?_
        refine k_goto (pc := 31) C 35 dX10_note_31 (by decide) ?_
        refine k_sub [0, 1, 2, 3, 4, 5, 6] rfl ?_
        exact k_X10_note_b35 C E T x1 x2 x3 x4 x5 x6 (1 : Int32) h
def m_X10_gone_b32 (T : TT) : Option (Int32 × TT) := (m_X10_refuse T (-2 : Int32)).bind (fun z9 => some (z9.1, z9.2))
def m_X10_gone (T : TT) (x1 : Int32) (x2 : Int32) (x3 : Int32) : Option (Int32 × TT) := (m_X4_has T 0 x1).bind (fun z1 => if z1 = 0 then (m_X10_gone_b32 T) else ((m_X10_within x2 (1 : Int32) (30 : Int32)).bind (fun z2 => if z2 = 0 then (m_X10_gone_b32 T) else ((m_X10_within x3 (0 : Int32) (6000 : Int32)).bind (fun z3 => if z3 = 0 then (m_X10_gone_b32 T) else ((m_X4_addTrip T 0 x1 x2 x3).bind (fun z4 => (m_X10_refuseIfFull z4.2 z4.1).bind (fun z5 => some (z5.1, z5.2)))))))))
set_option maxHeartbeats 4000000 in
set_option maxRecDepth 100000 in
theorem k_X10_gone_b32 {B : KB} {X : KE} {res : Int32 × TT} (C : Cx B X "GriefEngine" cX10_gone 4 3) (E : Cr B X (some .int) (some (.int res.1)) res.2) (T : TT) (h : m_X10_gone_b32 T = some res) : Wk B X 4 T 32 [(0, .ref (B.1 4 0))] [] := by
  unfold m_X10_gone_b32 at h
  refine k_aload_n (pc := 32) C dX10_gone_32 0 rfl ?_
  refine k_bipush (pc := 33) (v := (-2 : Int32)) C dX10_gone_33 cbipush_m2 ?_
  obtain ⟨z9, e9, h⟩ := bnd h
  refine k_callvI (pc := 35) C lk_X10_73 (by decide) ix_X10 wo_X10 rfl rfl (kc_X10_refuse e9) dX10_gone_35 rfl rfl (Nat.le_of_ble_eq_true rfl) ?_
  exact k_iret (pc := 38) C E (some_1 h) (some_2 h) dX10_gone_38
set_option maxHeartbeats 4000000 in
set_option maxRecDepth 100000 in
theorem kc_X10_gone {B : KB} {l : Launch} {T : TT} {x1 : Int32} {x2 : Int32} {x3 : Int32} {res : Int32 × TT} (h : m_X10_gone T x1 x2 x3 = some res) : Kt B l 3 yX10_gone cX10_gone 4 (some .int) T [.ref (B.1 4 0), .int x1, .int x2, .int x3] (some (.int res.1)) res.2 := by
  refine Kt.of (by decide) (Nat.le_of_ble_eq_true rfl) (fun X hX C E => ?_)
  subst hX
  have C : Cx B X "GriefEngine" cX10_gone 4 3 := C
  show Wk B X 4 T 0 [(0, .ref (B.1 4 0)), (1, .int x1), (2, .int x2), (3, .int x3)] []
  unfold m_X10_gone at h
  refine k_aload_n (pc := 0) C dX10_gone_0 0 rfl ?_
  refine gf_X10_12 (pc := 1) C dX10_gone_1 ?_
  refine k_iload_n (pc := 4) C dX10_gone_4 1 rfl ?_
  obtain ⟨z1, e1, h⟩ := bnd h
  refine k_callvI (pc := 5) C lk_X10_132 (by decide) (ix_X4 lt4_0) (wo_X4 lt4_0) rfl rfl (kc_X4_has lt4_0 e1) dX10_gone_5 rfl rfl (Nat.le_of_ble_eq_true rfl) ?_
  refine k_if_eq (pc := 8) C 32 dX10_gone_8 (by decide) h (fun c8 h => ?_) (fun c8 h => ?_)
  · refine k_sub [0] rfl ?_
    exact k_X10_gone_b32 C E T h
  · refine k_iload_n (pc := 11) C dX10_gone_11 2 rfl ?_
    refine k_iconst (pc := 12) (v := (1 : Int32)) C dX10_gone_12 ciconst_1 ?_
    refine k_bipush (pc := 13) (v := (30 : Int32)) C dX10_gone_13 cbipush_30 ?_
    obtain ⟨z2, e2, h⟩ := bnd h
    refine k_callsI (pc := 15) C lk_X10_69 (by decide) (kc_X10_within e2) dX10_gone_15 rfl rfl (Nat.le_of_ble_eq_true rfl) ?_
    refine k_if_eq (pc := 18) C 32 dX10_gone_18 (by decide) h (fun c7 h => ?_) (fun c7 h => ?_)
    · refine k_sub [0] rfl ?_
      exact k_X10_gone_b32 C E T h
    · refine k_iload_n (pc := 21) C dX10_gone_21 3 rfl ?_
      refine k_iconst (pc := 22) (v := (0 : Int32)) C dX10_gone_22 ciconst_0 ?_
      refine k_sipush (pc := 23) (v := (6000 : Int32)) C dX10_gone_23 csipush_6000 ?_
      obtain ⟨z3, e3, h⟩ := bnd h
      refine k_callsI (pc := 26) C lk_X10_69 (by decide) (kc_X10_within e3) dX10_gone_26 rfl rfl (Nat.le_of_ble_eq_true rfl) ?_
      refine k_if_ne (pc := 29) C 39 dX10_gone_29 (by decide) h (fun c6 h => ?_) (fun c6 h => ?_)
      · refine k_aload_n (pc := 39) C dX10_gone_39 0 rfl ?_
        refine k_aload_n (pc := 40) C dX10_gone_40 0 rfl ?_
        refine gf_X10_12 (pc := 41) C dX10_gone_41 ?_
        refine k_iload_n (pc := 44) C dX10_gone_44 1 rfl ?_
        refine k_iload_n (pc := 45) C dX10_gone_45 2 rfl ?_
        refine k_iload_n (pc := 46) C dX10_gone_46 3 rfl ?_
        obtain ⟨z4, e4, h⟩ := bnd h
        refine k_callvI (pc := 47) C lk_X10_200 (by decide) (ix_X4 lt4_0) (wo_X4 lt4_0) rfl rfl (kc_X4_addTrip lt4_0 e4) dX10_gone_47 rfl rfl (Nat.le_of_ble_eq_true rfl) ?_
        obtain ⟨z5, e5, h⟩ := bnd h
        refine k_callvI (pc := 50) C lk_X10_81 (by decide) ix_X10 wo_X10 rfl rfl (kc_X10_refuseIfFull e5) dX10_gone_50 rfl rfl (Nat.le_of_ble_eq_true rfl) ?_
        exact k_iret (pc := 53) C E (some_1 h) (some_2 h) dX10_gone_53
      · refine k_sub [0] rfl ?_
        exact k_X10_gone_b32 C E T h
def m_X10_forget_b37 (T : TT) (x1 : Int32) (s0 : Int32) : Option (Int32 × TT) := if x1 = 0 then (bT (sI T 0 9 (0 : Int32)) (fun T6 => some (s0, T6))) else (bT (sI T 0 10 (0 : Int32)) (fun T5 => some (s0, T5)))
def m_X10_forget (T : TT) (x1 : Int32) : Option (Int32 × TT) := (m_X10_within x1 (0 : Int32) (1 : Int32)).bind (fun z1 => if z1 = 0 then ((m_X10_refuse T (-2 : Int32)).bind (fun z3 => some (z3.1, z3.2))) else (if x1 = 0 then (m_X10_forget_b37 T x1 (T.2.1 0 9)) else (m_X10_forget_b37 T x1 (T.2.1 0 10))))
set_option maxHeartbeats 4000000 in
set_option maxRecDepth 100000 in
theorem k_X10_forget_b37 {B : KB} {X : KE} {res : Int32 × TT} (C : Cx B X "GriefEngine" cX10_forget 3 2) (E : Cr B X (some .int) (some (.int res.1)) res.2) (T : TT) (x1 : Int32) (s0 : Int32) (h : m_X10_forget_b37 T x1 s0 = some res) : Wk B X 3 T 37 [(0, .ref (B.1 4 0)), (1, .int x1)] [.int s0] := by
  unfold m_X10_forget_b37 at h
  refine k_istore_n (pc := 37) C [(2, .int s0), (0, .ref (B.1 4 0)), (1, .int x1)] dX10_forget_37 (by decide) rfl ?_
  refine k_iload_n (pc := 38) C dX10_forget_38 2 rfl ?_
  refine k_if_ne (pc := 39) C 53 dX10_forget_39 (by decide) h (fun c7 h => ?_) (fun c7 h => ?_)
  · refine k_aload_n (pc := 53) C dX10_forget_53 1 rfl ?_
    refine gf_X10_12 (pc := 54) C dX10_forget_54 ?_
    refine k_iconst (pc := 57) (v := (0 : Int32)) C dX10_forget_57 ciconst_0 ?_
    refine pf_X10_206 (pc := 58) C lt4_0 dX10_forget_58 ?_
    refine k_nT h (fun T5 h => ?_)
    refine k_iload_n (pc := 61) C dX10_forget_61 0 rfl ?_
    exact k_iret (pc := 62) C E (some_1 h) (some_2 h) dX10_forget_62
  · refine k_aload_n (pc := 42) C dX10_forget_42 1 rfl ?_
    refine gf_X10_12 (pc := 43) C dX10_forget_43 ?_
    refine k_iconst (pc := 46) (v := (0 : Int32)) C dX10_forget_46 ciconst_0 ?_
    refine pf_X10_203 (pc := 47) C lt4_0 dX10_forget_47 ?_
    refine k_nT h (fun T6 h => ?_)
    refine k_goto (pc := 50) C 61 dX10_forget_50 (by decide) ?_
    refine k_iload_n (pc := 61) C dX10_forget_61 0 rfl ?_
    exact k_iret (pc := 62) C E (some_1 h) (some_2 h) dX10_forget_62
set_option maxHeartbeats 4000000 in
set_option maxRecDepth 100000 in
theorem kc_X10_forget {B : KB} {l : Launch} {T : TT} {x1 : Int32} {res : Int32 × TT} (h : m_X10_forget T x1 = some res) : Kt B l 2 yX10_forget cX10_forget 3 (some .int) T [.ref (B.1 4 0), .int x1] (some (.int res.1)) res.2 := by
  refine Kt.of (by decide) (Nat.le_of_ble_eq_true rfl) (fun X hX C E => ?_)
  subst hX
  have C : Cx B X "GriefEngine" cX10_forget 3 2 := C
  show Wk B X 3 T 0 [(0, .ref (B.1 4 0)), (1, .int x1)] []
  unfold m_X10_forget at h
  refine k_iload_n (pc := 0) C dX10_forget_0 1 rfl ?_
  refine k_iconst (pc := 1) (v := (0 : Int32)) C dX10_forget_1 ciconst_0 ?_
  refine k_iconst (pc := 2) (v := (1 : Int32)) C dX10_forget_2 ciconst_1 ?_
  obtain ⟨z1, e1, h⟩ := bnd h
  refine k_callsI (pc := 3) C lk_X10_69 (by decide) (kc_X10_within e1) dX10_forget_3 rfl rfl (Nat.le_of_ble_eq_true rfl) ?_
  refine k_if_ne (pc := 6) C 16 dX10_forget_6 (by decide) h (fun c4 h => ?_) (fun c4 h => ?_)
  · refine k_iload_n (pc := 16) C dX10_forget_16 1 rfl ?_
    refine k_if_ne (pc := 17) C 30 dX10_forget_17 (by decide) h (fun c2 h => ?_) (fun c2 h => ?_)
    · refine k_aload_n (pc := 30) C dX10_forget_30 0 rfl ?_
      refine gf_X10_12 (pc := 31) C dX10_forget_31 ?_
      refine gf_X10_206 (pc := 34) C lt4_0 dX10_forget_34 ?_
      refine k_sub [0, 1] rfl ?_
      exact k_X10_forget_b37 C E T x1 (T.2.1 0 10) h
    · refine k_aload_n (pc := 20) C dX10_forget_20 0 rfl ?_
      refine gf_X10_12 (pc := 21) C dX10_forget_21 ?_
      refine gf_X10_203 (pc := 24) C lt4_0 dX10_forget_24 ?_
      refine k_goto (pc := 27) C 37 dX10_forget_27 (by decide) ?_
      refine k_sub [0, 1] rfl ?_
      exact k_X10_forget_b37 C E T x1 (T.2.1 0 9) h
  · refine k_aload_n (pc := 9) C dX10_forget_9 0 rfl ?_
    refine k_bipush (pc := 10) (v := (-2 : Int32)) C dX10_forget_10 cbipush_m2 ?_
    obtain ⟨z3, e3, h⟩ := bnd h
    refine k_callvI (pc := 12) C lk_X10_73 (by decide) ix_X10 wo_X10 rfl rfl (kc_X10_refuse e3) dX10_forget_12 rfl rfl (Nat.le_of_ble_eq_true rfl) ?_
    exact k_iret (pc := 15) C E (some_1 h) (some_2 h) dX10_forget_15
def m_X10_kindsThatFit_b36 (T : TT) (rec4 : Int32 → Int32 → Int32 → Option (Int32)) (x1 : Int32) (x2 : Int32) (x3 : Int32) : Option (Int32) := bT (x3 + (1 : Int32)) (fun y6 => rec4 x1 x2 y6)
def m_X10_kindsThatFit_h4 (T : TT) (rec4 : Int32 → Int32 → Int32 → Option (Int32)) (x1 : Int32) (x2 : Int32) (x3 : Int32) : Option (Int32) := if (6 : Int32) ≤ x3 then (some x2) else (if inb x3 6 then ((m_X4_notesFit T 0 x1 (0, 8 + (Int32.toNatClampNeg x3))).bind (fun z2 => if z2 = 0 then (m_X10_kindsThatFit_b36 T rec4 x1 x2 x3) else (bT (x2 ||| ((1 : Int32) <<< (x3 &&& 31))) (fun y3 => m_X10_kindsThatFit_b36 T rec4 x1 y3 x3)))) else none)
def m_X10_kindsThatFit_l4 (T : TT) : Nat → Int32 → Int32 → Int32 → Option (Int32)
  | 0 => fun _ _ _ => none
  | n + 1 => fun x1 x2 x3 => m_X10_kindsThatFit_h4 T (m_X10_kindsThatFit_l4 T n) x1 x2 x3
def m_X10_kindsThatFit (T : TT) (x1 : Int32) : Option (Int32) := m_X10_kindsThatFit_l4 T FU x1 (0 : Int32) (0 : Int32)
set_option maxHeartbeats 4000000 in
set_option maxRecDepth 100000 in
theorem k_X10_kindsThatFit_b36 {B : KB} {X : KE} {T : TT} {rec4 : Int32 → Int32 → Int32 → Option (Int32)} {res : Int32} (C : Cx B X "GriefEngine" cX10_kindsThatFit 4 5) (E : Cr B X (some .int) (some (.int res)) T) (hrec4 : ∀ (x1 : Int32) (x2 : Int32) (x3 : Int32), rec4 x1 x2 x3 = some res → Wk B X 4 T 4 [(0, .ref (B.1 4 0)), (1, .int x1), (2, .int x2), (3, .int x3)] []) (x1 : Int32) (x2 : Int32) (x3 : Int32) (h : m_X10_kindsThatFit_b36 T rec4 x1 x2 x3 = some res) : Wk B X 4 T 36 [(0, .ref (B.1 4 0)), (1, .int x1), (2, .int x2), (3, .int x3)] [] := by
  unfold m_X10_kindsThatFit_b36 at h
  refine k_iincN (pc := 36) (x := x3) (c := (1 : Int32)) C (fun y6 => [(3, .int y6), (0, .ref (B.1 4 0)), (1, .int x1), (2, .int x2)]) dX10_kindsThatFit_36 3 rfl ciconst_1 (by decide) (fun _ => rfl) h (fun y6 h => ?_)
  refine k_goto (pc := 39) C 4 dX10_kindsThatFit_39 (by decide) ?_
  refine k_sub [1, 2, 3, 0] rfl ?_
  exact hrec4 x1 x2 y6 h
set_option maxHeartbeats 4000000 in
set_option maxRecDepth 100000 in
theorem k_X10_kindsThatFit_h4 {B : KB} {X : KE} {T : TT} {rec4 : Int32 → Int32 → Int32 → Option (Int32)} {res : Int32} (C : Cx B X "GriefEngine" cX10_kindsThatFit 4 5) (E : Cr B X (some .int) (some (.int res)) T) (hrec4 : ∀ (x1 : Int32) (x2 : Int32) (x3 : Int32), rec4 x1 x2 x3 = some res → Wk B X 4 T 4 [(0, .ref (B.1 4 0)), (1, .int x1), (2, .int x2), (3, .int x3)] []) (x1 : Int32) (x2 : Int32) (x3 : Int32) (h : m_X10_kindsThatFit_h4 T rec4 x1 x2 x3 = some res) : Wk B X 4 T 4 [(0, .ref (B.1 4 0)), (1, .int x1), (2, .int x2), (3, .int x3)] [] := by
  unfold m_X10_kindsThatFit_h4 at h
  refine k_iload_n (pc := 4) C dX10_kindsThatFit_4 3 rfl ?_
  refine k_bipush (pc := 5) (v := (6 : Int32)) C dX10_kindsThatFit_5 cbipush_6 ?_
  refine k_icmp_ge (pc := 7) C 42 dX10_kindsThatFit_7 (by decide) h (fun c5 h => ?_) (fun c5 h => ?_)
  · refine k_iload_n (pc := 42) C dX10_kindsThatFit_42 2 rfl ?_
    exact k_iret (pc := 43) C E (some_i h) rfl dX10_kindsThatFit_43
  · refine k_aload_n (pc := 10) C dX10_kindsThatFit_10 0 rfl ?_
    refine gf_X10_12 (pc := 11) C dX10_kindsThatFit_11 ?_
    refine k_iload_n (pc := 14) C dX10_kindsThatFit_14 1 rfl ?_
    refine k_aload_n (pc := 15) C dX10_kindsThatFit_15 0 rfl ?_
    refine gf_X10_12 (pc := 16) C dX10_kindsThatFit_16 ?_
    refine gf_X10_266 (pc := 19) C lt4_0 dX10_kindsThatFit_19 ?_
    refine k_iload_n (pc := 22) C dX10_kindsThatFit_22 3 rfl ?_
    refine k_qald (pc := 23) C (iq_R lt4_0) rfl rfl dX10_kindsThatFit_23 h (fun hi1 h => ?_)
    obtain ⟨z2, e2, h⟩ := bnd h
    refine k_callvI (pc := 24) C lk_X10_270 (by decide) (ix_X4 lt4_0) (wo_X4 lt4_0) rfl rfl (kc_X4_notesFit lt4_0 (kok_R lt4_0 hi1) e2) dX10_kindsThatFit_24 rfl rfl (Nat.le_of_ble_eq_true rfl) ?_
    refine k_if_eq (pc := 27) C 36 dX10_kindsThatFit_27 (by decide) h (fun c4 h => ?_) (fun c4 h => ?_)
    · refine k_sub [0, 1, 2, 3] rfl ?_
      exact k_X10_kindsThatFit_b36 C E hrec4 x1 x2 x3 h
    · refine k_iload_n (pc := 30) C dX10_kindsThatFit_30 2 rfl ?_
      refine k_iconst (pc := 31) (v := (1 : Int32)) C dX10_kindsThatFit_31 ciconst_1 ?_
      refine k_iload_n (pc := 32) C dX10_kindsThatFit_32 3 rfl ?_
      refine k_ishl (pc := 33) C dX10_kindsThatFit_33 ?_
      refine k_ior (pc := 34) C dX10_kindsThatFit_34 ?_
      refine k_nI h (fun y3 h => ?_)
      refine k_istore_n (pc := 35) C [(2, .int y3), (0, .ref (B.1 4 0)), (1, .int x1), (3, .int x3)] dX10_kindsThatFit_35 (by decide) rfl ?_
      refine k_sub [1, 2, 0, 3] rfl ?_
      exact k_X10_kindsThatFit_b36 C E hrec4 x1 y3 x3 h
set_option maxHeartbeats 4000000 in
set_option maxRecDepth 100000 in
theorem k_X10_kindsThatFit_l4 {B : KB} {X : KE} {T : TT} {res : Int32} (C : Cx B X "GriefEngine" cX10_kindsThatFit 4 5) (E : Cr B X (some .int) (some (.int res)) T) : ∀ (n : Nat) (x1 : Int32) (x2 : Int32) (x3 : Int32) (h : m_X10_kindsThatFit_l4 T n x1 x2 x3 = some res), Wk B X 4 T 4 [(0, .ref (B.1 4 0)), (1, .int x1), (2, .int x2), (3, .int x3)] [] := by
  intro n
  induction n with
  | zero =>
    intro x1 x2 x3 h
    exact no_some h
  | succ n ih =>
    intro x1 x2 x3 h
    exact k_X10_kindsThatFit_h4 C E (fun x1 x2 x3 h => ih x1 x2 x3 h) x1 x2 x3 h
set_option maxHeartbeats 4000000 in
set_option maxRecDepth 100000 in
theorem kc_X10_kindsThatFit {B : KB} {l : Launch} {T : TT} {x1 : Int32} {res : Int32} (h : m_X10_kindsThatFit T x1 = some res) : Kt B l 5 yX10_kindsThatFit cX10_kindsThatFit 4 (some .int) T [.ref (B.1 4 0), .int x1] (some (.int res)) T := by
  refine Kt.of (by decide) (Nat.le_of_ble_eq_true rfl) (fun X hX C E => ?_)
  subst hX
  have C : Cx B X "GriefEngine" cX10_kindsThatFit 4 5 := C
  show Wk B X 4 T 0 [(0, .ref (B.1 4 0)), (1, .int x1)] []
  unfold m_X10_kindsThatFit at h
  refine k_iconst (pc := 0) (v := (0 : Int32)) C dX10_kindsThatFit_0 ciconst_0 ?_
  refine k_istore_n (pc := 1) C [(2, .int (0 : Int32)), (0, .ref (B.1 4 0)), (1, .int x1)] dX10_kindsThatFit_1 (by decide) rfl ?_
  refine k_iconst (pc := 2) (v := (0 : Int32)) C dX10_kindsThatFit_2 ciconst_0 ?_
  refine k_istore_n (pc := 3) C [(3, .int (0 : Int32)), (2, .int (0 : Int32)), (0, .ref (B.1 4 0)), (1, .int x1)] dX10_kindsThatFit_3 (by decide) rfl ?_
  refine k_sub [2, 3, 1, 0] rfl ?_
  exact k_X10_kindsThatFit_l4 C E FU x1 (0 : Int32) (0 : Int32) h
def m_X10_is (T : TT) (x1 : Int32) : Option (Int32 × TT) := (m_X4_has T 0 x1).bind (fun z1 => if z1 = 0 then ((m_X10_refuse T (-2 : Int32)).bind (fun z3 => some (z3.1, z3.2))) else ((m_X10_kindsThatFit T x1).bind (fun z2 => some (z2, T))))
set_option maxHeartbeats 4000000 in
set_option maxRecDepth 100000 in
theorem kc_X10_is {B : KB} {l : Launch} {T : TT} {x1 : Int32} {res : Int32 × TT} (h : m_X10_is T x1 = some res) : Kt B l 6 yX10_is cX10_is 2 (some .int) T [.ref (B.1 4 0), .int x1] (some (.int res.1)) res.2 := by
  refine Kt.of (by decide) (Nat.le_of_ble_eq_true rfl) (fun X hX C E => ?_)
  subst hX
  have C : Cx B X "GriefEngine" cX10_is 2 6 := C
  show Wk B X 2 T 0 [(0, .ref (B.1 4 0)), (1, .int x1)] []
  unfold m_X10_is at h
  refine k_aload_n (pc := 0) C dX10_is_0 0 rfl ?_
  refine gf_X10_12 (pc := 1) C dX10_is_1 ?_
  refine k_iload_n (pc := 4) C dX10_is_4 1 rfl ?_
  obtain ⟨z1, e1, h⟩ := bnd h
  refine k_callvI (pc := 5) C lk_X10_132 (by decide) (ix_X4 lt4_0) (wo_X4 lt4_0) rfl rfl (kc_X4_has lt4_0 e1) dX10_is_5 rfl rfl (Nat.le_of_ble_eq_true rfl) ?_
  refine k_if_ne (pc := 8) C 18 dX10_is_8 (by decide) h (fun c4 h => ?_) (fun c4 h => ?_)
  · refine k_aload_n (pc := 18) C dX10_is_18 0 rfl ?_
    refine k_iload_n (pc := 19) C dX10_is_19 1 rfl ?_
    obtain ⟨z2, e2, h⟩ := bnd h
    refine k_callvI (pc := 20) C lk_X10_209 (by decide) ix_X10 wo_X10 rfl rfl (kc_X10_kindsThatFit e2) dX10_is_20 rfl rfl (Nat.le_of_ble_eq_true rfl) ?_
    exact k_iret (pc := 23) C E (some_1 h) (some_2 h) dX10_is_23
  · refine k_aload_n (pc := 11) C dX10_is_11 0 rfl ?_
    refine k_bipush (pc := 12) (v := (-2 : Int32)) C dX10_is_12 cbipush_m2 ?_
    obtain ⟨z3, e3, h⟩ := bnd h
    refine k_callvI (pc := 14) C lk_X10_73 (by decide) ix_X10 wo_X10 rfl rfl (kc_X10_refuse e3) dX10_is_14 rfl rfl (Nat.le_of_ble_eq_true rfl) ?_
    exact k_iret (pc := 17) C E (some_1 h) (some_2 h) dX10_is_17
def m_X10_mostAlike_b109 (rec60 : TT → Int32 → Int32 → Int32 → Option (Int32 × TT)) (rec73 : TT → Int32 → Int32 → Int32 → Int32 → Int32 → Option (Int32 × TT)) (T : TT) (x1 : Int32) (x5 : Int32) (x6 : Int32) (x7 : Int32) (x8 : Int32) : Option (Int32 × TT) := bT (x8 + (1 : Int32)) (fun y14 => rec73 T x1 x5 x6 x7 y14)
def m_X10_mostAlike_h73 (rec60 : TT → Int32 → Int32 → Int32 → Option (Int32 × TT)) (rec73 : TT → Int32 → Int32 → Int32 → Int32 → Int32 → Option (Int32 × TT)) (T : TT) (x1 : Int32) (x5 : Int32) (x6 : Int32) (x7 : Int32) (x8 : Int32) : Option (Int32 × TT) := if (6 : Int32) ≤ x8 then (bT (if x5 < x7 then x7 else x5) (fun y8 => bT (x6 + (1 : Int32)) (fun y9 => rec60 T x1 y8 y9))) else (if ((x1 >>> (x8 &&& 31)) &&& (1 : Int32)) = 0 then (m_X10_mostAlike_b109 rec60 rec73 T x1 x5 x6 x7 x8) else (if inb x8 6 then (if inb x6 6 then (if (T.1 4 3 (Int32.toNatClampNeg x8)) = (T.1 4 3 (Int32.toNatClampNeg x6)) then (bT (x7 + (1 : Int32)) (fun y10 => m_X10_mostAlike_b109 rec60 rec73 T x1 x5 x6 y10 x8)) else (m_X10_mostAlike_b109 rec60 rec73 T x1 x5 x6 x7 x8)) else none) else none))
def m_X10_mostAlike_l73 (rec60 : TT → Int32 → Int32 → Int32 → Option (Int32 × TT)) : Nat → TT → Int32 → Int32 → Int32 → Int32 → Int32 → Option (Int32 × TT)
  | 0 => fun _ _ _ _ _ _ => none
  | n + 1 => fun T x1 x5 x6 x7 x8 => m_X10_mostAlike_h73 rec60 (m_X10_mostAlike_l73 rec60 n) T x1 x5 x6 x7 x8
def m_X10_mostAlike_h60 (rec60 : TT → Int32 → Int32 → Int32 → Option (Int32 × TT)) (T : TT) (x1 : Int32) (x5 : Int32) (x6 : Int32) : Option (Int32 × TT) := if (6 : Int32) ≤ x6 then (some (x5, T)) else (m_X10_mostAlike_l73 rec60 FU T x1 x5 x6 (0 : Int32) (0 : Int32))
def m_X10_mostAlike_l60 : Nat → TT → Int32 → Int32 → Int32 → Option (Int32 × TT)
  | 0 => fun _ _ _ _ => none
  | n + 1 => fun T x1 x5 x6 => m_X10_mostAlike_h60 (m_X10_mostAlike_l60 n) T x1 x5 x6
def m_X10_mostAlike_h3 (rec3 : TT → Int32 → Int32 → Int32 → Int32 → Int32 → Option (Int32 × TT)) (T : TT) (x1 : Int32) (x2 : Int32) (x3 : Int32) (x4 : Int32) (x5 : Int32) : Option (Int32 × TT) := if (6 : Int32) ≤ x5 then (m_X10_mostAlike_l60 FU T x1 (0 : Int32) (0 : Int32)) else (if inb x5 6 then ((v_runs (0, 8 + (Int32.toNatClampNeg x5)) x2 x3).bind (fun z2 => (v_left (0, 8 + (Int32.toNatClampNeg x5)) x4 x3).bind (fun z3 => if inb x5 6 then bT (sA T 4 3 (Int32.toNatClampNeg x5) ((z2 * (100 : Int32)) + z3)) (fun T4 => bT (x5 + (1 : Int32)) (fun y5 => rec3 T4 x1 x2 x3 x4 y5)) else none))) else none)
def m_X10_mostAlike_l3 : Nat → TT → Int32 → Int32 → Int32 → Int32 → Int32 → Option (Int32 × TT)
  | 0 => fun _ _ _ _ _ _ => none
  | n + 1 => fun T x1 x2 x3 x4 x5 => m_X10_mostAlike_h3 (m_X10_mostAlike_l3 n) T x1 x2 x3 x4 x5
def m_X10_mostAlike (T : TT) (x1 : Int32) (x2 : Int32) (x3 : Int32) (x4 : Int32) : Option (Int32 × TT) := m_X10_mostAlike_l3 FU T x1 x2 x3 x4 (0 : Int32)
set_option maxHeartbeats 4000000 in
set_option maxRecDepth 100000 in
theorem k_X10_mostAlike_b109 {B : KB} {X : KE} {rec60 : TT → Int32 → Int32 → Int32 → Option (Int32 × TT)} {rec73 : TT → Int32 → Int32 → Int32 → Int32 → Int32 → Option (Int32 × TT)} {res : Int32 × TT} (C : Cx B X "GriefEngine" cX10_mostAlike 9 4) (E : Cr B X (some .int) (some (.int res.1)) res.2) (hrec60 : ∀ (T : TT) (x1 : Int32) (x5 : Int32) (x6 : Int32), rec60 T x1 x5 x6 = some res → Wk B X 9 T 60 [(0, .ref (B.1 4 0)), (1, .int x1), (5, .int x5), (6, .int x6)] []) (hrec73 : ∀ (T : TT) (x1 : Int32) (x5 : Int32) (x6 : Int32) (x7 : Int32) (x8 : Int32), rec73 T x1 x5 x6 x7 x8 = some res → Wk B X 9 T 73 [(0, .ref (B.1 4 0)), (1, .int x1), (5, .int x5), (6, .int x6), (7, .int x7), (8, .int x8)] []) (T : TT) (x1 : Int32) (x5 : Int32) (x6 : Int32) (x7 : Int32) (x8 : Int32) (h : m_X10_mostAlike_b109 rec60 rec73 T x1 x5 x6 x7 x8 = some res) : Wk B X 9 T 109 [(0, .ref (B.1 4 0)), (1, .int x1), (5, .int x5), (6, .int x6), (7, .int x7), (8, .int x8)] [] := by
  unfold m_X10_mostAlike_b109 at h
  refine k_iincN (pc := 109) (x := x8) (c := (1 : Int32)) C (fun y14 => [(8, .int y14), (0, .ref (B.1 4 0)), (1, .int x1), (5, .int x5), (6, .int x6), (7, .int x7)]) dX10_mostAlike_109 5 rfl ciconst_1 (by decide) (fun _ => rfl) h (fun y14 h => ?_)
  refine k_goto (pc := 112) C 73 dX10_mostAlike_112 (by decide) ?_
  refine k_sub [1, 2, 3, 4, 5, 0] rfl ?_
  exact hrec73 T x1 x5 x6 x7 y14 h
set_option maxHeartbeats 4000000 in
set_option maxRecDepth 100000 in
theorem k_X10_mostAlike_h73 {B : KB} {X : KE} {rec60 : TT → Int32 → Int32 → Int32 → Option (Int32 × TT)} {rec73 : TT → Int32 → Int32 → Int32 → Int32 → Int32 → Option (Int32 × TT)} {res : Int32 × TT} (C : Cx B X "GriefEngine" cX10_mostAlike 9 4) (E : Cr B X (some .int) (some (.int res.1)) res.2) (hrec60 : ∀ (T : TT) (x1 : Int32) (x5 : Int32) (x6 : Int32), rec60 T x1 x5 x6 = some res → Wk B X 9 T 60 [(0, .ref (B.1 4 0)), (1, .int x1), (5, .int x5), (6, .int x6)] []) (hrec73 : ∀ (T : TT) (x1 : Int32) (x5 : Int32) (x6 : Int32) (x7 : Int32) (x8 : Int32), rec73 T x1 x5 x6 x7 x8 = some res → Wk B X 9 T 73 [(0, .ref (B.1 4 0)), (1, .int x1), (5, .int x5), (6, .int x6), (7, .int x7), (8, .int x8)] []) (T : TT) (x1 : Int32) (x5 : Int32) (x6 : Int32) (x7 : Int32) (x8 : Int32) (h : m_X10_mostAlike_h73 rec60 rec73 T x1 x5 x6 x7 x8 = some res) : Wk B X 9 T 73 [(0, .ref (B.1 4 0)), (1, .int x1), (5, .int x5), (6, .int x6), (7, .int x7), (8, .int x8)] [] := by
  unfold m_X10_mostAlike_h73 at h
  refine k_iload (pc := 73) C dX10_mostAlike_73 5 rfl ?_
  refine k_bipush (pc := 75) (v := (6 : Int32)) C dX10_mostAlike_75 cbipush_6 ?_
  refine k_icmp_ge (pc := 77) C 115 dX10_mostAlike_77 (by decide) h (fun c13 h => ?_) (fun c13 h => ?_)
  · refine k_iload (pc := 115) C dX10_mostAlike_115 2 rfl ?_
    refine k_iload (pc := 117) C dX10_mostAlike_117 4 rfl ?_
    refine k_mmax (pc := 119) C (by decide) tw3_198 tw3_14 tw1_17 tw3_15 (Nat.le_of_ble_eq_true rfl) dX10_mostAlike_119 ?_
    refine k_nI h (fun y8 h => ?_)
    refine k_istore (pc := 122) C [(5, .int y8), (0, .ref (B.1 4 0)), (1, .int x1), (6, .int x6), (7, .int x7), (8, .int x8)] dX10_mostAlike_122 (by decide) rfl ?_
    refine k_iincN (pc := 124) (x := x6) (c := (1 : Int32)) C (fun y9 => [(6, .int y9), (5, .int y8), (0, .ref (B.1 4 0)), (1, .int x1), (7, .int x7), (8, .int x8)]) dX10_mostAlike_124 3 rfl ciconst_1 (by decide) (fun _ => rfl) h (fun y9 h => ?_)
    refine k_goto (pc := 127) C 60 dX10_mostAlike_127 (by decide) ?_
    refine k_sub [2, 3, 1, 0] rfl ?_
    exact hrec60 T x1 y8 y9 h
  · refine k_iload_n (pc := 80) C dX10_mostAlike_80 1 rfl ?_
    refine k_iload (pc := 81) C dX10_mostAlike_81 5 rfl ?_
    refine k_ishr (pc := 83) C dX10_mostAlike_83 ?_
    refine k_iconst (pc := 84) (v := (1 : Int32)) C dX10_mostAlike_84 ciconst_1 ?_
    refine k_iand (pc := 85) C dX10_mostAlike_85 ?_
    refine k_if_eq (pc := 86) C 109 dX10_mostAlike_86 (by decide) h (fun c12 h => ?_) (fun c12 h => ?_)
    · refine k_sub [0, 1, 2, 3, 4, 5] rfl ?_
      exact k_X10_mostAlike_b109 C E hrec60 hrec73 T x1 x5 x6 x7 x8 h
    · refine k_aload_n (pc := 89) C dX10_mostAlike_89 0 rfl ?_
      refine gf_X10_48 (pc := 90) C dX10_mostAlike_90 ?_
      refine k_iload (pc := 93) C dX10_mostAlike_93 5 rfl ?_
      refine k_iald (pc := 95) C ia_4_3 dX10_mostAlike_95 h (fun h => ?_)
      refine k_aload_n (pc := 96) C dX10_mostAlike_96 0 rfl ?_
      refine gf_X10_48 (pc := 97) C dX10_mostAlike_97 ?_
      refine k_iload (pc := 100) C dX10_mostAlike_100 3 rfl ?_
      refine k_iald (pc := 102) C ia_4_3 dX10_mostAlike_102 h (fun h => ?_)
      refine k_icmp_ne (pc := 103) C 109 dX10_mostAlike_103 (by decide) h (fun c11 h => ?_) (fun c11 h => ?_)
      · refine k_sub [0, 1, 2, 3, 4, 5] rfl ?_
        exact k_X10_mostAlike_b109 C E hrec60 hrec73 T x1 x5 x6 x7 x8 h
      · refine k_iincN (pc := 106) (x := x7) (c := (1 : Int32)) C (fun y10 => [(7, .int y10), (0, .ref (B.1 4 0)), (1, .int x1), (5, .int x5), (6, .int x6), (8, .int x8)]) dX10_mostAlike_106 4 rfl ciconst_1 (by decide) (fun _ => rfl) h (fun y10 h => ?_)
        refine k_sub [1, 2, 3, 4, 0, 5] rfl ?_
        exact k_X10_mostAlike_b109 C E hrec60 hrec73 T x1 x5 x6 y10 x8 h
set_option maxHeartbeats 4000000 in
set_option maxRecDepth 100000 in
theorem k_X10_mostAlike_l73 {B : KB} {X : KE} {rec60 : TT → Int32 → Int32 → Int32 → Option (Int32 × TT)} {res : Int32 × TT} (C : Cx B X "GriefEngine" cX10_mostAlike 9 4) (E : Cr B X (some .int) (some (.int res.1)) res.2) (hrec60 : ∀ (T : TT) (x1 : Int32) (x5 : Int32) (x6 : Int32), rec60 T x1 x5 x6 = some res → Wk B X 9 T 60 [(0, .ref (B.1 4 0)), (1, .int x1), (5, .int x5), (6, .int x6)] []) : ∀ (n : Nat) (T : TT) (x1 : Int32) (x5 : Int32) (x6 : Int32) (x7 : Int32) (x8 : Int32) (h : m_X10_mostAlike_l73 rec60 n T x1 x5 x6 x7 x8 = some res), Wk B X 9 T 73 [(0, .ref (B.1 4 0)), (1, .int x1), (5, .int x5), (6, .int x6), (7, .int x7), (8, .int x8)] [] := by
  intro n
  induction n with
  | zero =>
    intro T x1 x5 x6 x7 x8 h
    exact no_some h
  | succ n ih =>
    intro T x1 x5 x6 x7 x8 h
    exact k_X10_mostAlike_h73 C E hrec60 (fun T x1 x5 x6 x7 x8 h => ih T x1 x5 x6 x7 x8 h) T x1 x5 x6 x7 x8 h
set_option maxHeartbeats 4000000 in
set_option maxRecDepth 100000 in
theorem k_X10_mostAlike_h60 {B : KB} {X : KE} {rec60 : TT → Int32 → Int32 → Int32 → Option (Int32 × TT)} {res : Int32 × TT} (C : Cx B X "GriefEngine" cX10_mostAlike 9 4) (E : Cr B X (some .int) (some (.int res.1)) res.2) (hrec60 : ∀ (T : TT) (x1 : Int32) (x5 : Int32) (x6 : Int32), rec60 T x1 x5 x6 = some res → Wk B X 9 T 60 [(0, .ref (B.1 4 0)), (1, .int x1), (5, .int x5), (6, .int x6)] []) (T : TT) (x1 : Int32) (x5 : Int32) (x6 : Int32) (h : m_X10_mostAlike_h60 rec60 T x1 x5 x6 = some res) : Wk B X 9 T 60 [(0, .ref (B.1 4 0)), (1, .int x1), (5, .int x5), (6, .int x6)] [] := by
  unfold m_X10_mostAlike_h60 at h
  refine k_iload (pc := 60) C dX10_mostAlike_60 3 rfl ?_
  refine k_bipush (pc := 62) (v := (6 : Int32)) C dX10_mostAlike_62 cbipush_6 ?_
  refine k_icmp_ge (pc := 64) C 130 dX10_mostAlike_64 (by decide) h (fun c7 h => ?_) (fun c7 h => ?_)
  · refine k_iload (pc := 130) C dX10_mostAlike_130 2 rfl ?_
    exact k_iret (pc := 132) C E (some_1 h) (some_2 h) dX10_mostAlike_132
  · refine k_iconst (pc := 67) (v := (0 : Int32)) C dX10_mostAlike_67 ciconst_0 ?_
    refine k_istore (pc := 68) C [(7, .int (0 : Int32)), (0, .ref (B.1 4 0)), (1, .int x1), (5, .int x5), (6, .int x6)] dX10_mostAlike_68 (by decide) rfl ?_
    refine k_iconst (pc := 70) (v := (0 : Int32)) C dX10_mostAlike_70 ciconst_0 ?_
    refine k_istore (pc := 71) C [(8, .int (0 : Int32)), (7, .int (0 : Int32)), (0, .ref (B.1 4 0)), (1, .int x1), (5, .int x5), (6, .int x6)] dX10_mostAlike_71 (by decide) rfl ?_
    refine k_sub [2, 3, 4, 5, 1, 0] rfl ?_
    exact k_X10_mostAlike_l73 C E hrec60 FU T x1 x5 x6 (0 : Int32) (0 : Int32) h
set_option maxHeartbeats 4000000 in
set_option maxRecDepth 100000 in
theorem k_X10_mostAlike_l60 {B : KB} {X : KE} {res : Int32 × TT} (C : Cx B X "GriefEngine" cX10_mostAlike 9 4) (E : Cr B X (some .int) (some (.int res.1)) res.2) : ∀ (n : Nat) (T : TT) (x1 : Int32) (x5 : Int32) (x6 : Int32) (h : m_X10_mostAlike_l60 n T x1 x5 x6 = some res), Wk B X 9 T 60 [(0, .ref (B.1 4 0)), (1, .int x1), (5, .int x5), (6, .int x6)] [] := by
  intro n
  induction n with
  | zero =>
    intro T x1 x5 x6 h
    exact no_some h
  | succ n ih =>
    intro T x1 x5 x6 h
    exact k_X10_mostAlike_h60 C E (fun T x1 x5 x6 h => ih T x1 x5 x6 h) T x1 x5 x6 h
set_option maxHeartbeats 4000000 in
set_option maxRecDepth 100000 in
theorem k_X10_mostAlike_h3 {B : KB} {X : KE} {rec3 : TT → Int32 → Int32 → Int32 → Int32 → Int32 → Option (Int32 × TT)} {res : Int32 × TT} (C : Cx B X "GriefEngine" cX10_mostAlike 9 4) (E : Cr B X (some .int) (some (.int res.1)) res.2) (hrec3 : ∀ (T : TT) (x1 : Int32) (x2 : Int32) (x3 : Int32) (x4 : Int32) (x5 : Int32), rec3 T x1 x2 x3 x4 x5 = some res → Wk B X 9 T 3 [(0, .ref (B.1 4 0)), (1, .int x1), (2, .int x2), (3, .int x3), (4, .int x4), (5, .int x5)] []) (T : TT) (x1 : Int32) (x2 : Int32) (x3 : Int32) (x4 : Int32) (x5 : Int32) (h : m_X10_mostAlike_h3 rec3 T x1 x2 x3 x4 x5 = some res) : Wk B X 9 T 3 [(0, .ref (B.1 4 0)), (1, .int x1), (2, .int x2), (3, .int x3), (4, .int x4), (5, .int x5)] [] := by
  unfold m_X10_mostAlike_h3 at h
  refine k_iload (pc := 3) C dX10_mostAlike_3 5 rfl ?_
  refine k_bipush (pc := 5) (v := (6 : Int32)) C dX10_mostAlike_5 cbipush_6 ?_
  refine k_icmp_ge (pc := 7) C 54 dX10_mostAlike_7 (by decide) h (fun c6 h => ?_) (fun c6 h => ?_)
  · refine k_iconst (pc := 54) (v := (0 : Int32)) C dX10_mostAlike_54 ciconst_0 ?_
    refine k_istore (pc := 55) C [(5, .int (0 : Int32)), (0, .ref (B.1 4 0)), (1, .int x1), (2, .int x2), (3, .int x3), (4, .int x4)] dX10_mostAlike_55 (by decide) rfl ?_
    refine k_iconst (pc := 57) (v := (0 : Int32)) C dX10_mostAlike_57 ciconst_0 ?_
    refine k_istore (pc := 58) C [(6, .int (0 : Int32)), (5, .int (0 : Int32)), (0, .ref (B.1 4 0)), (1, .int x1), (2, .int x2), (3, .int x3), (4, .int x4)] dX10_mostAlike_58 (by decide) rfl ?_
    refine k_sub [2, 3, 1, 0] rfl ?_
    exact k_X10_mostAlike_l60 C E FU T x1 (0 : Int32) (0 : Int32) h
  · refine k_aload_n (pc := 10) C dX10_mostAlike_10 0 rfl ?_
    refine gf_X10_12 (pc := 11) C dX10_mostAlike_11 ?_
    refine gf_X10_266 (pc := 14) C lt4_0 dX10_mostAlike_14 ?_
    refine k_iload (pc := 17) C dX10_mostAlike_17 5 rfl ?_
    refine k_qald (pc := 19) C (iq_R lt4_0) rfl rfl dX10_mostAlike_19 h (fun hi1 h => ?_)
    refine k_astore (pc := 20) C [(6, .ref (B.1 0 (8 + (Int32.toNatClampNeg x5)))), (0, .ref (B.1 4 0)), (1, .int x1), (2, .int x2), (3, .int x3), (4, .int x4), (5, .int x5)] dX10_mostAlike_20 (by decide) rfl ?_
    refine k_aload_n (pc := 22) C dX10_mostAlike_22 1 rfl ?_
    refine gf_X10_48 (pc := 23) C dX10_mostAlike_23 ?_
    refine k_iload (pc := 26) C dX10_mostAlike_26 6 rfl ?_
    refine k_aload (pc := 28) C dX10_mostAlike_28 0 rfl ?_
    refine k_iload_n (pc := 30) C dX10_mostAlike_30 3 rfl ?_
    refine k_iload_n (pc := 31) C dX10_mostAlike_31 4 rfl ?_
    obtain ⟨z2, e2, h⟩ := bnd h
    refine kv_runs (pc := 32) C lk_X10_160 (by decide) (kok_R lt4_0 hi1) e2 dX10_mostAlike_32 (Nat.le_of_ble_eq_true rfl) ?_
    refine k_bipush (pc := 35) (v := (100 : Int32)) C dX10_mostAlike_35 cbipush_100 ?_
    refine k_imul (pc := 37) C dX10_mostAlike_37 ?_
    refine k_aload (pc := 38) C dX10_mostAlike_38 0 rfl ?_
    refine k_iload (pc := 40) C dX10_mostAlike_40 5 rfl ?_
    refine k_iload_n (pc := 42) C dX10_mostAlike_42 4 rfl ?_
    obtain ⟨z3, e3, h⟩ := bnd h
    refine kv_left (pc := 43) C lk_X10_165 (by decide) (kok_R lt4_0 hi1) e3 dX10_mostAlike_43 (Nat.le_of_ble_eq_true rfl) ?_
    refine k_iadd (pc := 46) C dX10_mostAlike_46 ?_
    refine k_iast (pc := 47) C ia_4_3 dX10_mostAlike_47 h (fun h => ?_)
    refine k_nT h (fun T4 h => ?_)
    refine k_iincN (pc := 48) (x := x5) (c := (1 : Int32)) C (fun y5 => [(5, .int y5), (6, .ref (B.1 0 (8 + (Int32.toNatClampNeg x5)))), (0, .ref (B.1 4 0)), (1, .int x1), (2, .int x2), (3, .int x3), (4, .int x4)]) dX10_mostAlike_48 6 rfl ciconst_1 (by decide) (fun _ => rfl) h (fun y5 h => ?_)
    refine k_goto (pc := 51) C 3 dX10_mostAlike_51 (by decide) ?_
    refine k_sub [2, 3, 4, 5, 6, 0] rfl ?_
    exact hrec3 T4 x1 x2 x3 x4 y5 h
set_option maxHeartbeats 4000000 in
set_option maxRecDepth 100000 in
theorem k_X10_mostAlike_l3 {B : KB} {X : KE} {res : Int32 × TT} (C : Cx B X "GriefEngine" cX10_mostAlike 9 4) (E : Cr B X (some .int) (some (.int res.1)) res.2) : ∀ (n : Nat) (T : TT) (x1 : Int32) (x2 : Int32) (x3 : Int32) (x4 : Int32) (x5 : Int32) (h : m_X10_mostAlike_l3 n T x1 x2 x3 x4 x5 = some res), Wk B X 9 T 3 [(0, .ref (B.1 4 0)), (1, .int x1), (2, .int x2), (3, .int x3), (4, .int x4), (5, .int x5)] [] := by
  intro n
  induction n with
  | zero =>
    intro T x1 x2 x3 x4 x5 h
    exact no_some h
  | succ n ih =>
    intro T x1 x2 x3 x4 x5 h
    exact k_X10_mostAlike_h3 C E (fun T x1 x2 x3 x4 x5 h => ih T x1 x2 x3 x4 x5 h) T x1 x2 x3 x4 x5 h
set_option maxHeartbeats 4000000 in
set_option maxRecDepth 100000 in
theorem kc_X10_mostAlike {B : KB} {l : Launch} {T : TT} {x1 : Int32} {x2 : Int32} {x3 : Int32} {x4 : Int32} {res : Int32 × TT} (h : m_X10_mostAlike T x1 x2 x3 x4 = some res) : Kt B l 4 yX10_mostAlike cX10_mostAlike 9 (some .int) T [.ref (B.1 4 0), .int x1, .int x2, .int x3, .int x4] (some (.int res.1)) res.2 := by
  refine Kt.of (by decide) (Nat.le_of_ble_eq_true rfl) (fun X hX C E => ?_)
  subst hX
  have C : Cx B X "GriefEngine" cX10_mostAlike 9 4 := C
  show Wk B X 9 T 0 [(0, .ref (B.1 4 0)), (1, .int x1), (2, .int x2), (3, .int x3), (4, .int x4)] []
  unfold m_X10_mostAlike at h
  refine k_iconst (pc := 0) (v := (0 : Int32)) C dX10_mostAlike_0 ciconst_0 ?_
  refine k_istore (pc := 1) C [(5, .int (0 : Int32)), (0, .ref (B.1 4 0)), (1, .int x1), (2, .int x2), (3, .int x3), (4, .int x4)] dX10_mostAlike_1 (by decide) rfl ?_
  refine k_sub [1, 2, 3, 4, 5, 0] rfl ?_
  exact k_X10_mostAlike_l3 C E FU T x1 x2 x3 x4 (0 : Int32) h
