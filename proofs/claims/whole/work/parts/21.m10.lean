def m_X11_milesBy_b34 (rec11 : TT → Int32 → Int32 → Int32 → Int32 → Int32 → Int32 → Int32 → Option (Int32 × TT)) (T : TT) (x1 : Int32) (x2 : Int32) (x3 : Int32) (x4 : Int32) (x5 : Int32) (x7 : Int32) (s0 : Int32) : Option (Int32 × TT) := (m_X11_kindOf T x1).bind (fun z4 => (m_X11_powerOfThree ((x2 - (1 : Int32)) - x7)).bind (fun z5 => if z5 = 0 then none else ((m_X11_goDay T z4 ((T.1 10 1 16) + x7) ((x3 / z5) - (x3 / z5) / (3 : Int32) * (3 : Int32))).bind (fun z6 => bT (x7 + (1 : Int32)) (fun y7 => rec11 z6 x1 x2 x3 x4 x5 s0 y7)))))
def m_X11_milesBy_h11 (rec11 : TT → Int32 → Int32 → Int32 → Int32 → Int32 → Int32 → Int32 → Option (Int32 × TT)) (T : TT) (x1 : Int32) (x2 : Int32) (x3 : Int32) (x4 : Int32) (x5 : Int32) (x6 : Int32) (x7 : Int32) : Option (Int32 × TT) := if x5 ≤ x7 then (some (((T.2.1 10 7) - x6), T)) else (if x7 = x4 then (m_X11_milesBy_b34 rec11 T x1 x2 x3 x4 x5 x7 (T.2.1 10 7)) else (m_X11_milesBy_b34 rec11 T x1 x2 x3 x4 x5 x7 x6))
def m_X11_milesBy_l11 : Nat → TT → Int32 → Int32 → Int32 → Int32 → Int32 → Int32 → Int32 → Option (Int32 × TT)
  | 0 => fun _ _ _ _ _ _ _ _ => none
  | n + 1 => fun T x1 x2 x3 x4 x5 x6 x7 => m_X11_milesBy_h11 (m_X11_milesBy_l11 n) T x1 x2 x3 x4 x5 x6 x7
def m_X11_milesBy (T : TT) (x1 : Int32) (x2 : Int32) (x3 : Int32) (x4 : Int32) (x5 : Int32) : Option (Int32 × TT) := (m_X11_layOne T x1).bind (fun z1 => m_X11_milesBy_l11 FU z1 x1 x2 x3 x4 x5 (0 : Int32) (0 : Int32))
set_option maxHeartbeats 4000000 in
set_option maxRecDepth 100000 in
theorem k_X11_milesBy_b34 {B : KB} {X : KE} {rec11 : TT → Int32 → Int32 → Int32 → Int32 → Int32 → Int32 → Int32 → Option (Int32 × TT)} {res : Int32 × TT} (C : Cx B X "GriefEngineModel" cX11_milesBy 8 4) (E : Cr B X (some .int) (some (.int res.1)) res.2) (hrec11 : ∀ (T : TT) (x1 : Int32) (x2 : Int32) (x3 : Int32) (x4 : Int32) (x5 : Int32) (x6 : Int32) (x7 : Int32), rec11 T x1 x2 x3 x4 x5 x6 x7 = some res → Wk B X 8 T 11 [(0, .ref (B.1 10 0)), (1, .int x1), (2, .int x2), (3, .int x3), (4, .int x4), (5, .int x5), (6, .int x6), (7, .int x7)] []) (T : TT) (x1 : Int32) (x2 : Int32) (x3 : Int32) (x4 : Int32) (x5 : Int32) (x7 : Int32) (s0 : Int32) (h : m_X11_milesBy_b34 rec11 T x1 x2 x3 x4 x5 x7 s0 = some res) : Wk B X 8 T 34 [(0, .ref (B.1 10 0)), (1, .int x1), (2, .int x2), (3, .int x3), (4, .int x4), (5, .int x5), (7, .int x7)] [.int s0] := by
  unfold m_X11_milesBy_b34 at h
  refine k_istore (pc := 34) C [(6, .int s0), (0, .ref (B.1 10 0)), (1, .int x1), (2, .int x2), (3, .int x3), (4, .int x4), (5, .int x5), (7, .int x7)] dX11_milesBy_34 (by decide) rfl ?_
  refine k_aload_n (pc := 36) C dX11_milesBy_36 1 rfl ?_
  refine k_aload_n (pc := 37) C dX11_milesBy_37 1 rfl ?_
  refine k_iload_n (pc := 38) C dX11_milesBy_38 2 rfl ?_
  obtain ⟨z4, e4, h⟩ := bnd h
  refine k_callvI (pc := 39) C lk_X11_124 (by decide) ix_X11 wo_X11 rfl rfl (kc_X11_kindOf e4) dX11_milesBy_39 rfl rfl (Nat.le_of_ble_eq_true rfl) ?_
  refine k_aload_n (pc := 42) C dX11_milesBy_42 1 rfl ?_
  refine gf_X11_7 (pc := 43) C dX11_milesBy_43 ?_
  refine k_bipush (pc := 46) (v := (16 : Int32)) C dX11_milesBy_46 cbipush_16 ?_
  refine k_ialdc (pc := 48) C ia_10_1 16 dX11_milesBy_48 (by decide) (by decide) ?_
  refine k_iload (pc := 49) C dX11_milesBy_49 7 rfl ?_
  refine k_iadd (pc := 51) C dX11_milesBy_51 ?_
  refine k_iload_n (pc := 52) C dX11_milesBy_52 4 rfl ?_
  refine k_iload_n (pc := 53) C dX11_milesBy_53 3 rfl ?_
  refine k_iconst (pc := 54) (v := (1 : Int32)) C dX11_milesBy_54 ciconst_1 ?_
  refine k_isub (pc := 55) C dX11_milesBy_55 ?_
  refine k_iload (pc := 56) C dX11_milesBy_56 7 rfl ?_
  refine k_isub (pc := 58) C dX11_milesBy_58 ?_
  obtain ⟨z5, e5, h⟩ := bnd h
  refine k_callsI (pc := 59) C lk_X11_131 (by decide) (kc_X11_powerOfThree e5) dX11_milesBy_59 rfl rfl (Nat.le_of_ble_eq_true rfl) ?_
  refine k_idiv (pc := 62) C dX11_milesBy_62 h (fun h => ?_)
  refine k_iconst (pc := 63) (v := (3 : Int32)) C dX11_milesBy_63 ciconst_3 ?_
  refine k_iremc (pc := 64) C dX11_milesBy_64 (by decide) ?_
  obtain ⟨z6, e6, h⟩ := bnd h
  refine k_callvV (pc := 65) C lk_X11_101 (by decide) ix_X11 wo_X11 rfl rfl (kc_X11_goDay e6) dX11_milesBy_65 rfl rfl (Nat.le_of_ble_eq_true rfl) ?_
  refine k_iincN (pc := 68) (x := x7) (c := (1 : Int32)) C (fun y7 => [(7, .int y7), (6, .int s0), (0, .ref (B.1 10 0)), (1, .int x1), (2, .int x2), (3, .int x3), (4, .int x4), (5, .int x5)]) dX11_milesBy_68 7 rfl ciconst_1 (by decide) (fun _ => rfl) h (fun y7 h => ?_)
  refine k_goto (pc := 71) C 11 dX11_milesBy_71 (by decide) ?_
  refine k_sub [2, 3, 4, 5, 6, 7, 1, 0] rfl ?_
  exact hrec11 z6 x1 x2 x3 x4 x5 s0 y7 h
set_option maxHeartbeats 4000000 in
set_option maxRecDepth 100000 in
theorem k_X11_milesBy_h11 {B : KB} {X : KE} {rec11 : TT → Int32 → Int32 → Int32 → Int32 → Int32 → Int32 → Int32 → Option (Int32 × TT)} {res : Int32 × TT} (C : Cx B X "GriefEngineModel" cX11_milesBy 8 4) (E : Cr B X (some .int) (some (.int res.1)) res.2) (hrec11 : ∀ (T : TT) (x1 : Int32) (x2 : Int32) (x3 : Int32) (x4 : Int32) (x5 : Int32) (x6 : Int32) (x7 : Int32), rec11 T x1 x2 x3 x4 x5 x6 x7 = some res → Wk B X 8 T 11 [(0, .ref (B.1 10 0)), (1, .int x1), (2, .int x2), (3, .int x3), (4, .int x4), (5, .int x5), (6, .int x6), (7, .int x7)] []) (T : TT) (x1 : Int32) (x2 : Int32) (x3 : Int32) (x4 : Int32) (x5 : Int32) (x6 : Int32) (x7 : Int32) (h : m_X11_milesBy_h11 rec11 T x1 x2 x3 x4 x5 x6 x7 = some res) : Wk B X 8 T 11 [(0, .ref (B.1 10 0)), (1, .int x1), (2, .int x2), (3, .int x3), (4, .int x4), (5, .int x5), (6, .int x6), (7, .int x7)] [] := by
  unfold m_X11_milesBy_h11 at h
  refine k_iload (pc := 11) C dX11_milesBy_11 7 rfl ?_
  refine k_iload (pc := 13) C dX11_milesBy_13 5 rfl ?_
  refine k_icmp_ge (pc := 15) C 74 dX11_milesBy_15 (by decide) h (fun c3 h => ?_) (fun c3 h => ?_)
  · refine k_aload_n (pc := 74) C dX11_milesBy_74 0 rfl ?_
    refine gf_X11_84 (pc := 75) C dX11_milesBy_75 ?_
    refine k_iload (pc := 78) C dX11_milesBy_78 6 rfl ?_
    refine k_isub (pc := 80) C dX11_milesBy_80 ?_
    exact k_iret (pc := 81) C E (some_1 h) (some_2 h) dX11_milesBy_81
  · refine k_iload (pc := 18) C dX11_milesBy_18 7 rfl ?_
    refine k_iload (pc := 20) C dX11_milesBy_20 4 rfl ?_
    refine k_icmp_ne (pc := 22) C 32 dX11_milesBy_22 (by decide) h (fun c2 h => ?_) (fun c2 h => ?_)
    · refine k_iload (pc := 32) C dX11_milesBy_32 6 rfl ?_
      refine k_sub [0, 1, 2, 3, 4, 5, 7] rfl ?_
      exact k_X11_milesBy_b34 C E hrec11 T x1 x2 x3 x4 x5 x7 x6 h
    · refine k_aload_n (pc := 25) C dX11_milesBy_25 0 rfl ?_
      refine gf_X11_84 (pc := 26) C dX11_milesBy_26 ?_
      refine k_goto (pc := 29) C 34 dX11_milesBy_29 (by decide) ?_
      refine k_sub [0, 1, 2, 3, 4, 5, 7] rfl ?_
      exact k_X11_milesBy_b34 C E hrec11 T x1 x2 x3 x4 x5 x7 (T.2.1 10 7) h
set_option maxHeartbeats 4000000 in
set_option maxRecDepth 100000 in
theorem k_X11_milesBy_l11 {B : KB} {X : KE} {res : Int32 × TT} (C : Cx B X "GriefEngineModel" cX11_milesBy 8 4) (E : Cr B X (some .int) (some (.int res.1)) res.2) : ∀ (n : Nat) (T : TT) (x1 : Int32) (x2 : Int32) (x3 : Int32) (x4 : Int32) (x5 : Int32) (x6 : Int32) (x7 : Int32) (h : m_X11_milesBy_l11 n T x1 x2 x3 x4 x5 x6 x7 = some res), Wk B X 8 T 11 [(0, .ref (B.1 10 0)), (1, .int x1), (2, .int x2), (3, .int x3), (4, .int x4), (5, .int x5), (6, .int x6), (7, .int x7)] [] := by
  intro n
  induction n with
  | zero =>
    intro T x1 x2 x3 x4 x5 x6 x7 h
    exact no_some h
  | succ n ih =>
    intro T x1 x2 x3 x4 x5 x6 x7 h
    exact k_X11_milesBy_h11 C E (fun T x1 x2 x3 x4 x5 x6 x7 h => ih T x1 x2 x3 x4 x5 x6 x7 h) T x1 x2 x3 x4 x5 x6 x7 h
set_option maxHeartbeats 4000000 in
set_option maxRecDepth 100000 in
theorem kc_X11_milesBy {B : KB} {l : Launch} {T : TT} {x1 : Int32} {x2 : Int32} {x3 : Int32} {x4 : Int32} {x5 : Int32} {res : Int32 × TT} (h : m_X11_milesBy T x1 x2 x3 x4 x5 = some res) : Kt B l 4 yX11_milesBy cX11_milesBy 8 (some .int) T [.ref (B.1 10 0), .int x1, .int x2, .int x3, .int x4, .int x5] (some (.int res.1)) res.2 := by
  refine Kt.of (by decide) (Nat.le_of_ble_eq_true rfl) (fun X hX C E => ?_)
  subst hX
  have C : Cx B X "GriefEngineModel" cX11_milesBy 8 4 := C
  show Wk B X 8 T 0 [(0, .ref (B.1 10 0)), (1, .int x1), (2, .int x2), (3, .int x3), (4, .int x4), (5, .int x5)] []
  unfold m_X11_milesBy at h
  refine k_aload_n (pc := 0) C dX11_milesBy_0 0 rfl ?_
  refine k_iload_n (pc := 1) C dX11_milesBy_1 1 rfl ?_
  obtain ⟨z1, e1, h⟩ := bnd h
  refine k_callvV (pc := 2) C lk_X11_127 (by decide) ix_X11 wo_X11 rfl rfl (kc_X11_layOne e1) dX11_milesBy_2 rfl rfl (Nat.le_of_ble_eq_true rfl) ?_
  refine k_iconst (pc := 5) (v := (0 : Int32)) C dX11_milesBy_5 ciconst_0 ?_
  refine k_istore (pc := 6) C [(6, .int (0 : Int32)), (0, .ref (B.1 10 0)), (1, .int x1), (2, .int x2), (3, .int x3), (4, .int x4), (5, .int x5)] dX11_milesBy_6 (by decide) rfl ?_
  refine k_iconst (pc := 8) (v := (0 : Int32)) C dX11_milesBy_8 ciconst_0 ?_
  refine k_istore (pc := 9) C [(7, .int (0 : Int32)), (6, .int (0 : Int32)), (0, .ref (B.1 10 0)), (1, .int x1), (2, .int x2), (3, .int x3), (4, .int x4), (5, .int x5)] dX11_milesBy_9 (by decide) rfl ?_
  refine k_sub [2, 3, 4, 5, 6, 7, 1, 0] rfl ?_
  exact k_X11_milesBy_l11 C E FU z1 x1 x2 x3 x4 x5 (0 : Int32) (0 : Int32) h
def m_X11_mostIn_b57 (rec5 : TT → Int32 → Int32 → Int32 → Int32 → Option (Int32 × TT)) (T : TT) (x1 : Int32) (x2 : Int32) (x4 : Int32) (s0 : Int32) : Option (Int32 × TT) := bT (x4 + (1 : Int32)) (fun y7 => rec5 T x1 x2 s0 y7)
def m_X11_mostIn_b42 (rec5 : TT → Int32 → Int32 → Int32 → Int32 → Option (Int32 × TT)) (T : TT) (x1 : Int32) (x2 : Int32) (x3 : Int32) (x4 : Int32) (x5 : Int32) (s1 : Int32) : Option (Int32 × TT) := bT (sI T 10 8 s1) (fun T5 => if x5 ≤ x3 then (m_X11_mostIn_b57 rec5 T5 x1 x2 x4 x3) else (m_X11_mostIn_b57 rec5 T5 x1 x2 x4 x5))
def m_X11_mostIn_h5 (rec5 : TT → Int32 → Int32 → Int32 → Int32 → Option (Int32 × TT)) (T : TT) (x1 : Int32) (x2 : Int32) (x3 : Int32) (x4 : Int32) : Option (Int32 × TT) := (m_X11_powerOfThree x2).bind (fun z1 => if z1 ≤ x4 then (some (x3, T)) else ((m_X11_milesBy T x1 x2 x4 (0 : Int32) x2).bind (fun z2 => if z2.1 ≤ x3 then (m_X11_mostIn_b42 rec5 z2.2 x1 x2 x3 x4 z2.1 (z2.2.2.1 10 8)) else (m_X11_mostIn_b42 rec5 z2.2 x1 x2 x3 x4 z2.1 x4))))
def m_X11_mostIn_l5 : Nat → TT → Int32 → Int32 → Int32 → Int32 → Option (Int32 × TT)
  | 0 => fun _ _ _ _ _ => none
  | n + 1 => fun T x1 x2 x3 x4 => m_X11_mostIn_h5 (m_X11_mostIn_l5 n) T x1 x2 x3 x4
def m_X11_mostIn (T : TT) (x1 : Int32) (x2 : Int32) : Option (Int32 × TT) := m_X11_mostIn_l5 FU T x1 x2 (-1 : Int32) (0 : Int32)
set_option maxHeartbeats 4000000 in
set_option maxRecDepth 100000 in
theorem k_X11_mostIn_b57 {B : KB} {X : KE} {rec5 : TT → Int32 → Int32 → Int32 → Int32 → Option (Int32 × TT)} {res : Int32 × TT} (C : Cx B X "GriefEngineModel" cX11_mostIn 6 5) (E : Cr B X (some .int) (some (.int res.1)) res.2) (hrec5 : ∀ (T : TT) (x1 : Int32) (x2 : Int32) (x3 : Int32) (x4 : Int32), rec5 T x1 x2 x3 x4 = some res → Wk B X 6 T 5 [(0, .ref (B.1 10 0)), (1, .int x1), (2, .int x2), (3, .int x3), (4, .int x4)] []) (T : TT) (x1 : Int32) (x2 : Int32) (x4 : Int32) (s0 : Int32) (h : m_X11_mostIn_b57 rec5 T x1 x2 x4 s0 = some res) : Wk B X 6 T 57 [(0, .ref (B.1 10 0)), (1, .int x1), (2, .int x2), (4, .int x4)] [.int s0] := by
  unfold m_X11_mostIn_b57 at h
  refine k_istore_n (pc := 57) C [(3, .int s0), (0, .ref (B.1 10 0)), (1, .int x1), (2, .int x2), (4, .int x4)] dX11_mostIn_57 (by decide) rfl ?_
  refine k_iincN (pc := 58) (x := x4) (c := (1 : Int32)) C (fun y7 => [(4, .int y7), (3, .int s0), (0, .ref (B.1 10 0)), (1, .int x1), (2, .int x2)]) dX11_mostIn_58 4 rfl ciconst_1 (by decide) (fun _ => rfl) h (fun y7 h => ?_)
  refine k_goto (pc := 61) C 5 dX11_mostIn_61 (by decide) ?_
  refine k_sub [2, 3, 4, 1, 0] rfl ?_
  exact hrec5 T x1 x2 s0 y7 h
set_option maxHeartbeats 4000000 in
set_option maxRecDepth 100000 in
theorem k_X11_mostIn_b42 {B : KB} {X : KE} {rec5 : TT → Int32 → Int32 → Int32 → Int32 → Option (Int32 × TT)} {res : Int32 × TT} (C : Cx B X "GriefEngineModel" cX11_mostIn 6 5) (E : Cr B X (some .int) (some (.int res.1)) res.2) (hrec5 : ∀ (T : TT) (x1 : Int32) (x2 : Int32) (x3 : Int32) (x4 : Int32), rec5 T x1 x2 x3 x4 = some res → Wk B X 6 T 5 [(0, .ref (B.1 10 0)), (1, .int x1), (2, .int x2), (3, .int x3), (4, .int x4)] []) (T : TT) (x1 : Int32) (x2 : Int32) (x3 : Int32) (x4 : Int32) (x5 : Int32) (s1 : Int32) (h : m_X11_mostIn_b42 rec5 T x1 x2 x3 x4 x5 s1 = some res) : Wk B X 6 T 42 [(0, .ref (B.1 10 0)), (1, .int x1), (2, .int x2), (3, .int x3), (4, .int x4), (5, .int x5)] [.int s1, .ref (B.1 10 0)] := by
  unfold m_X11_mostIn_b42 at h
  refine pf_X11_138 (pc := 42) C dX11_mostIn_42 ?_
  refine k_nT h (fun T5 h => ?_)
  refine k_iload (pc := 45) C dX11_mostIn_45 5 rfl ?_
  refine k_iload_n (pc := 47) C dX11_mostIn_47 3 rfl ?_
  refine k_icmp_le (pc := 48) C 56 dX11_mostIn_48 (by decide) h (fun c6 h => ?_) (fun c6 h => ?_)
  · refine k_iload_n (pc := 56) C dX11_mostIn_56 3 rfl ?_
    refine k_sub [0, 1, 2, 4] rfl ?_
    exact k_X11_mostIn_b57 C E hrec5 T5 x1 x2 x4 x3 h
  · refine k_iload (pc := 51) C dX11_mostIn_51 5 rfl ?_
    refine k_goto (pc := 53) C 57 dX11_mostIn_53 (by decide) ?_
    refine k_sub [0, 1, 2, 4] rfl ?_
    exact k_X11_mostIn_b57 C E hrec5 T5 x1 x2 x4 x5 h
set_option maxHeartbeats 4000000 in
set_option maxRecDepth 100000 in
theorem k_X11_mostIn_h5 {B : KB} {X : KE} {rec5 : TT → Int32 → Int32 → Int32 → Int32 → Option (Int32 × TT)} {res : Int32 × TT} (C : Cx B X "GriefEngineModel" cX11_mostIn 6 5) (E : Cr B X (some .int) (some (.int res.1)) res.2) (hrec5 : ∀ (T : TT) (x1 : Int32) (x2 : Int32) (x3 : Int32) (x4 : Int32), rec5 T x1 x2 x3 x4 = some res → Wk B X 6 T 5 [(0, .ref (B.1 10 0)), (1, .int x1), (2, .int x2), (3, .int x3), (4, .int x4)] []) (T : TT) (x1 : Int32) (x2 : Int32) (x3 : Int32) (x4 : Int32) (h : m_X11_mostIn_h5 rec5 T x1 x2 x3 x4 = some res) : Wk B X 6 T 5 [(0, .ref (B.1 10 0)), (1, .int x1), (2, .int x2), (3, .int x3), (4, .int x4)] [] := by
  unfold m_X11_mostIn_h5 at h
  refine k_iload (pc := 5) C dX11_mostIn_5 4 rfl ?_
  refine k_iload_n (pc := 7) C dX11_mostIn_7 2 rfl ?_
  obtain ⟨z1, e1, h⟩ := bnd h
  refine k_callsI (pc := 8) C lk_X11_131 (by decide) (kc_X11_powerOfThree e1) dX11_mostIn_8 rfl rfl (Nat.le_of_ble_eq_true rfl) ?_
  refine k_icmp_ge (pc := 11) C 64 dX11_mostIn_11 (by decide) h (fun c4 h => ?_) (fun c4 h => ?_)
  · refine k_iload_n (pc := 64) C dX11_mostIn_64 3 rfl ?_
    exact k_iret (pc := 65) C E (some_1 h) (some_2 h) dX11_mostIn_65
  · refine k_aload_n (pc := 14) C dX11_mostIn_14 0 rfl ?_
    refine k_iload_n (pc := 15) C dX11_mostIn_15 1 rfl ?_
    refine k_iload_n (pc := 16) C dX11_mostIn_16 2 rfl ?_
    refine k_iload (pc := 17) C dX11_mostIn_17 4 rfl ?_
    refine k_iconst (pc := 19) (v := (0 : Int32)) C dX11_mostIn_19 ciconst_0 ?_
    refine k_iload_n (pc := 20) C dX11_mostIn_20 2 rfl ?_
    obtain ⟨z2, e2, h⟩ := bnd h
    refine k_callvI (pc := 21) C lk_X11_134 (by decide) ix_X11 wo_X11 rfl rfl (kc_X11_milesBy e2) dX11_mostIn_21 rfl rfl (Nat.le_of_ble_eq_true rfl) ?_
    refine k_istore (pc := 24) C [(5, .int z2.1), (0, .ref (B.1 10 0)), (1, .int x1), (2, .int x2), (3, .int x3), (4, .int x4)] dX11_mostIn_24 (by decide) rfl ?_
    refine k_aload_n (pc := 26) C dX11_mostIn_26 1 rfl ?_
    refine k_iload (pc := 27) C dX11_mostIn_27 0 rfl ?_
    refine k_iload_n (pc := 29) C dX11_mostIn_29 4 rfl ?_
    refine k_icmp_le (pc := 30) C 38 dX11_mostIn_30 (by decide) h (fun c3 h => ?_) (fun c3 h => ?_)
    · refine k_aload_n (pc := 38) C dX11_mostIn_38 1 rfl ?_
      refine gf_X11_138 (pc := 39) C dX11_mostIn_39 ?_
      refine k_sub [1, 2, 3, 4, 5, 0] rfl ?_
      exact k_X11_mostIn_b42 C E hrec5 z2.2 x1 x2 x3 x4 z2.1 (z2.2.2.1 10 8) h
    · refine k_iload (pc := 33) C dX11_mostIn_33 5 rfl ?_
      refine k_goto (pc := 35) C 42 dX11_mostIn_35 (by decide) ?_
      refine k_sub [1, 2, 3, 4, 5, 0] rfl ?_
      exact k_X11_mostIn_b42 C E hrec5 z2.2 x1 x2 x3 x4 z2.1 x4 h
set_option maxHeartbeats 4000000 in
set_option maxRecDepth 100000 in
theorem k_X11_mostIn_l5 {B : KB} {X : KE} {res : Int32 × TT} (C : Cx B X "GriefEngineModel" cX11_mostIn 6 5) (E : Cr B X (some .int) (some (.int res.1)) res.2) : ∀ (n : Nat) (T : TT) (x1 : Int32) (x2 : Int32) (x3 : Int32) (x4 : Int32) (h : m_X11_mostIn_l5 n T x1 x2 x3 x4 = some res), Wk B X 6 T 5 [(0, .ref (B.1 10 0)), (1, .int x1), (2, .int x2), (3, .int x3), (4, .int x4)] [] := by
  intro n
  induction n with
  | zero =>
    intro T x1 x2 x3 x4 h
    exact no_some h
  | succ n ih =>
    intro T x1 x2 x3 x4 h
    exact k_X11_mostIn_h5 C E (fun T x1 x2 x3 x4 h => ih T x1 x2 x3 x4 h) T x1 x2 x3 x4 h
set_option maxHeartbeats 4000000 in
set_option maxRecDepth 100000 in
theorem kc_X11_mostIn {B : KB} {l : Launch} {T : TT} {x1 : Int32} {x2 : Int32} {res : Int32 × TT} (h : m_X11_mostIn T x1 x2 = some res) : Kt B l 5 yX11_mostIn cX11_mostIn 6 (some .int) T [.ref (B.1 10 0), .int x1, .int x2] (some (.int res.1)) res.2 := by
  refine Kt.of (by decide) (Nat.le_of_ble_eq_true rfl) (fun X hX C E => ?_)
  subst hX
  have C : Cx B X "GriefEngineModel" cX11_mostIn 6 5 := C
  show Wk B X 6 T 0 [(0, .ref (B.1 10 0)), (1, .int x1), (2, .int x2)] []
  unfold m_X11_mostIn at h
  refine k_iconst (pc := 0) (v := (-1 : Int32)) C dX11_mostIn_0 ciconst_m1 ?_
  refine k_istore_n (pc := 1) C [(3, .int (-1 : Int32)), (0, .ref (B.1 10 0)), (1, .int x1), (2, .int x2)] dX11_mostIn_1 (by decide) rfl ?_
  refine k_iconst (pc := 2) (v := (0 : Int32)) C dX11_mostIn_2 ciconst_0 ?_
  refine k_istore (pc := 3) C [(4, .int (0 : Int32)), (3, .int (-1 : Int32)), (0, .ref (B.1 10 0)), (1, .int x1), (2, .int x2)] dX11_mostIn_3 (by decide) rfl ?_
  refine k_sub [2, 3, 4, 1, 0] rfl ?_
  exact k_X11_mostIn_l5 C E FU T x1 x2 (-1 : Int32) (0 : Int32) h
def m_X11_most_b25 (T : TT) : Option (Int32 × TT) := (m_X11_bad T (-10 : Int32)).bind (fun z10 => some (z10.1, z10.2))
def m_X11_most (T : TT) (x1 : Int32) (x2 : Int32) (x3 : Int32) : Option (Int32 × TT) := (m_X11_isDriver T x1).bind (fun z1 => if z1 = 0 then (m_X11_most_b25 T) else ((m_X11_in (x2.toInt64) (1 : Int64) (7 : Int64)).bind (fun z2 => if z2 = 0 then (m_X11_most_b25 T) else (if (-1 : Int32) ≤ x3 then ((m_X11_mostIn T x1 x2).bind (fun z3 => if x3 = (-1 : Int32) then (some (z3.1, z3.2)) else (if x3 < x2 then ((m_X11_powerOfThree ((x2 - (1 : Int32)) - x3)).bind (fun z4 => if z4 = 0 then none else (some ((((z3.2.2.1 10 8) / z4) - ((z3.2.2.1 10 8) / z4) / (3 : Int32) * (3 : Int32)), z3.2)))) else (some ((-5 : Int32), z3.2))))) else (m_X11_most_b25 T)))))
set_option maxHeartbeats 4000000 in
set_option maxRecDepth 100000 in
theorem k_X11_most_b25 {B : KB} {X : KE} {res : Int32 × TT} (C : Cx B X "GriefEngineModel" cX11_most 5 6) (E : Cr B X (some .int) (some (.int res.1)) res.2) (T : TT) (h : m_X11_most_b25 T = some res) : Wk B X 5 T 25 [(0, .ref (B.1 10 0))] [] := by
  unfold m_X11_most_b25 at h
  refine k_aload_n (pc := 25) C dX11_most_25 0 rfl ?_
  refine k_bipush (pc := 26) (v := (-10 : Int32)) C dX11_most_26 cbipush_m10 ?_
  obtain ⟨z10, e10, h⟩ := bnd h
  refine k_callvI (pc := 28) C lk_X11_63 (by decide) ix_X11 wo_X11 rfl rfl (kc_X11_bad e10) dX11_most_28 rfl rfl (Nat.le_of_ble_eq_true rfl) ?_
  exact k_iret (pc := 31) C E (some_1 h) (some_2 h) dX11_most_31
set_option maxHeartbeats 4000000 in
set_option maxRecDepth 100000 in
theorem kc_X11_most {B : KB} {l : Launch} {T : TT} {x1 : Int32} {x2 : Int32} {x3 : Int32} {res : Int32 × TT} (h : m_X11_most T x1 x2 x3 = some res) : Kt B l 6 yX11_most cX11_most 5 (some .int) T [.ref (B.1 10 0), .int x1, .int x2, .int x3] (some (.int res.1)) res.2 := by
  refine Kt.of (by decide) (Nat.le_of_ble_eq_true rfl) (fun X hX C E => ?_)
  subst hX
  have C : Cx B X "GriefEngineModel" cX11_most 5 6 := C
  show Wk B X 5 T 0 [(0, .ref (B.1 10 0)), (1, .int x1), (2, .int x2), (3, .int x3)] []
  unfold m_X11_most at h
  refine k_aload_n (pc := 0) C dX11_most_0 0 rfl ?_
  refine k_iload_n (pc := 1) C dX11_most_1 1 rfl ?_
  obtain ⟨z1, e1, h⟩ := bnd h
  refine k_callvI (pc := 2) C lk_X11_116 (by decide) ix_X11 wo_X11 rfl rfl (kc_X11_isDriver e1) dX11_most_2 rfl rfl (Nat.le_of_ble_eq_true rfl) ?_
  refine k_if_eq (pc := 5) C 25 dX11_most_5 (by decide) h (fun c9 h => ?_) (fun c9 h => ?_)
  · refine k_sub [0] rfl ?_
    exact k_X11_most_b25 C E T h
  · refine k_iload_n (pc := 8) C dX11_most_8 2 rfl ?_
    refine k_i2l (pc := 9) C dX11_most_9 ?_
    refine k_lconst (pc := 10) (v := (1 : Int64)) C dX11_most_10 (by decide) ?_
    refine k_ldc2_w (pc := 11) (v := (7 : Int64)) C dX11_most_11 tw4_233 ?_
    obtain ⟨z2, e2, h⟩ := bnd h
    refine k_callsI (pc := 14) C lk_X11_53 (by decide) (kc_X11_in e2) dX11_most_14 rfl rfl (Nat.le_of_ble_eq_true rfl) ?_
    refine k_if_eq (pc := 17) C 25 dX11_most_17 (by decide) h (fun c8 h => ?_) (fun c8 h => ?_)
    · refine k_sub [0] rfl ?_
      exact k_X11_most_b25 C E T h
    · refine k_iload_n (pc := 20) C dX11_most_20 3 rfl ?_
      refine k_iconst (pc := 21) (v := (-1 : Int32)) C dX11_most_21 ciconst_m1 ?_
      refine k_icmp_ge (pc := 22) C 32 dX11_most_22 (by decide) h (fun c7 h => ?_) (fun c7 h => ?_)
      · refine k_aload_n (pc := 32) C dX11_most_32 0 rfl ?_
        refine k_iload_n (pc := 33) C dX11_most_33 1 rfl ?_
        refine k_iload_n (pc := 34) C dX11_most_34 2 rfl ?_
        obtain ⟨z3, e3, h⟩ := bnd h
        refine k_callvI (pc := 35) C lk_X11_143 (by decide) ix_X11 wo_X11 rfl rfl (kc_X11_mostIn e3) dX11_most_35 rfl rfl (Nat.le_of_ble_eq_true rfl) ?_
        refine k_istore (pc := 38) C [(4, .int z3.1), (0, .ref (B.1 10 0)), (1, .int x1), (2, .int x2), (3, .int x3)] dX11_most_38 (by decide) rfl ?_
        refine k_iload_n (pc := 40) C dX11_most_40 4 rfl ?_
        refine k_iconst (pc := 41) (v := (-1 : Int32)) C dX11_most_41 ciconst_m1 ?_
        refine k_icmp_ne (pc := 42) C 50 dX11_most_42 (by decide) h (fun c6 h => ?_) (fun c6 h => ?_)
        · refine k_iload_n (pc := 50) C dX11_most_50 4 rfl ?_
          refine k_iload_n (pc := 51) C dX11_most_51 3 rfl ?_
          refine k_icmp_lt (pc := 52) C 60 dX11_most_52 (by decide) h (fun c5 h => ?_) (fun c5 h => ?_)
          · refine k_aload_n (pc := 60) C dX11_most_60 1 rfl ?_
            refine gf_X11_138 (pc := 61) C dX11_most_61 ?_
            refine k_iload_n (pc := 64) C dX11_most_64 3 rfl ?_
            refine k_iconst (pc := 65) (v := (1 : Int32)) C dX11_most_65 ciconst_1 ?_
            refine k_isub (pc := 66) C dX11_most_66 ?_
            refine k_iload_n (pc := 67) C dX11_most_67 4 rfl ?_
            refine k_isub (pc := 68) C dX11_most_68 ?_
            obtain ⟨z4, e4, h⟩ := bnd h
            refine k_callsI (pc := 69) C lk_X11_131 (by decide) (kc_X11_powerOfThree e4) dX11_most_69 rfl rfl (Nat.le_of_ble_eq_true rfl) ?_
            refine k_idiv (pc := 72) C dX11_most_72 h (fun h => ?_)
            refine k_iconst (pc := 73) (v := (3 : Int32)) C dX11_most_73 ciconst_3 ?_
            refine k_iremc (pc := 74) C dX11_most_74 (by decide) ?_
            exact k_iret (pc := 75) C E (some_1 h) (some_2 h) dX11_most_75
          · refine k_bipush (pc := 55) (v := (-5 : Int32)) C dX11_most_55 cbipush_m5 ?_
            refine k_goto (pc := 57) C 75 dX11_most_57 (by decide) ?_
            exact k_iret (pc := 75) C E (some_1 h) (some_2 h) dX11_most_75
        · refine k_iload (pc := 45) C dX11_most_45 0 rfl ?_
          refine k_goto (pc := 47) C 75 dX11_most_47 (by decide) ?_
          exact k_iret (pc := 75) C E (some_1 h) (some_2 h) dX11_most_75
      · refine k_sub [0] rfl ?_
        exact k_X11_most_b25 C E T h
def m_X11_soonest_h29 (rec29 : TT → Int32 → Int32 → Int32 → Option (Int32 × TT)) (T : TT) (x1 : Int32) (x2 : Int32) (x3 : Int32) : Option (Int32 × TT) := if (8 : Int32) ≤ x3 then (some ((-1 : Int32), T)) else ((m_X11_mostIn T x1 x3).bind (fun z5 => if z5.1 < x2 then (bT (x3 + (1 : Int32)) (fun y6 => rec29 z5.2 x1 x2 y6)) else (some (x3, z5.2))))
def m_X11_soonest_l29 : Nat → TT → Int32 → Int32 → Int32 → Option (Int32 × TT)
  | 0 => fun _ _ _ _ => none
  | n + 1 => fun T x1 x2 x3 => m_X11_soonest_h29 (m_X11_soonest_l29 n) T x1 x2 x3
def m_X11_soonest_b20 (T : TT) : Option (Int32 × TT) := (m_X11_bad T (-2 : Int32)).bind (fun z9 => some (z9.1, z9.2))
def m_X11_soonest (T : TT) (x1 : Int32) (x2 : Int32) : Option (Int32 × TT) := (m_X11_isDriver T x1).bind (fun z1 => if z1 = 0 then (m_X11_soonest_b20 T) else ((m_X11_in (x2.toInt64) (1 : Int64) (999 : Int64)).bind (fun z2 => if z2 = 0 then (m_X11_soonest_b20 T) else (m_X11_soonest_l29 FU T x1 x2 (1 : Int32)))))
set_option maxHeartbeats 4000000 in
set_option maxRecDepth 100000 in
theorem k_X11_soonest_h29 {B : KB} {X : KE} {rec29 : TT → Int32 → Int32 → Int32 → Option (Int32 × TT)} {res : Int32 × TT} (C : Cx B X "GriefEngineModel" cX11_soonest 4 6) (E : Cr B X (some .int) (some (.int res.1)) res.2) (hrec29 : ∀ (T : TT) (x1 : Int32) (x2 : Int32) (x3 : Int32), rec29 T x1 x2 x3 = some res → Wk B X 4 T 29 [(0, .ref (B.1 10 0)), (1, .int x1), (2, .int x2), (3, .int x3)] []) (T : TT) (x1 : Int32) (x2 : Int32) (x3 : Int32) (h : m_X11_soonest_h29 rec29 T x1 x2 x3 = some res) : Wk B X 4 T 29 [(0, .ref (B.1 10 0)), (1, .int x1), (2, .int x2), (3, .int x3)] [] := by
  unfold m_X11_soonest_h29 at h
  refine k_iload_n (pc := 29) C dX11_soonest_29 3 rfl ?_
  refine k_bipush (pc := 30) (v := (8 : Int32)) C dX11_soonest_30 cbipush_8 ?_
  refine k_icmp_ge (pc := 32) C 53 dX11_soonest_32 (by decide) h (fun c8 h => ?_) (fun c8 h => ?_)
  · refine k_iconst (pc := 53) (v := (-1 : Int32)) C dX11_soonest_53 ciconst_m1 ?_
    exact k_iret (pc := 54) C E (some_1 h) (some_2 h) dX11_soonest_54
  · refine k_aload_n (pc := 35) C dX11_soonest_35 0 rfl ?_
    refine k_iload_n (pc := 36) C dX11_soonest_36 1 rfl ?_
    refine k_iload_n (pc := 37) C dX11_soonest_37 3 rfl ?_
    obtain ⟨z5, e5, h⟩ := bnd h
    refine k_callvI (pc := 38) C lk_X11_143 (by decide) ix_X11 wo_X11 rfl rfl (kc_X11_mostIn e5) dX11_soonest_38 rfl rfl (Nat.le_of_ble_eq_true rfl) ?_
    refine k_iload_n (pc := 41) C dX11_soonest_41 2 rfl ?_
    refine k_icmp_lt (pc := 42) C 47 dX11_soonest_42 (by decide) h (fun c7 h => ?_) (fun c7 h => ?_)
    · refine k_iincN (pc := 47) (x := x3) (c := (1 : Int32)) C (fun y6 => [(3, .int y6), (0, .ref (B.1 10 0)), (1, .int x1), (2, .int x2)]) dX11_soonest_47 3 rfl ciconst_1 (by decide) (fun _ => rfl) h (fun y6 h => ?_)
      refine k_goto (pc := 50) C 29 dX11_soonest_50 (by decide) ?_
      refine k_sub [1, 2, 3, 0] rfl ?_
      exact hrec29 z5.2 x1 x2 y6 h
    · refine k_iload_n (pc := 45) C dX11_soonest_45 3 rfl ?_
      exact k_iret (pc := 46) C E (some_1 h) (some_2 h) dX11_soonest_46
set_option maxHeartbeats 4000000 in
set_option maxRecDepth 100000 in
theorem k_X11_soonest_l29 {B : KB} {X : KE} {res : Int32 × TT} (C : Cx B X "GriefEngineModel" cX11_soonest 4 6) (E : Cr B X (some .int) (some (.int res.1)) res.2) : ∀ (n : Nat) (T : TT) (x1 : Int32) (x2 : Int32) (x3 : Int32) (h : m_X11_soonest_l29 n T x1 x2 x3 = some res), Wk B X 4 T 29 [(0, .ref (B.1 10 0)), (1, .int x1), (2, .int x2), (3, .int x3)] [] := by
  intro n
  induction n with
  | zero =>
    intro T x1 x2 x3 h
    exact no_some h
  | succ n ih =>
    intro T x1 x2 x3 h
    exact k_X11_soonest_h29 C E (fun T x1 x2 x3 h => ih T x1 x2 x3 h) T x1 x2 x3 h
set_option maxHeartbeats 4000000 in
set_option maxRecDepth 100000 in
theorem k_X11_soonest_b20 {B : KB} {X : KE} {res : Int32 × TT} (C : Cx B X "GriefEngineModel" cX11_soonest 4 6) (E : Cr B X (some .int) (some (.int res.1)) res.2) (T : TT) (h : m_X11_soonest_b20 T = some res) : Wk B X 4 T 20 [(0, .ref (B.1 10 0))] [] := by
  unfold m_X11_soonest_b20 at h
  refine k_aload_n (pc := 20) C dX11_soonest_20 0 rfl ?_
  refine k_bipush (pc := 21) (v := (-2 : Int32)) C dX11_soonest_21 cbipush_m2 ?_
  obtain ⟨z9, e9, h⟩ := bnd h
  refine k_callvI (pc := 23) C lk_X11_63 (by decide) ix_X11 wo_X11 rfl rfl (kc_X11_bad e9) dX11_soonest_23 rfl rfl (Nat.le_of_ble_eq_true rfl) ?_
  exact k_iret (pc := 26) C E (some_1 h) (some_2 h) dX11_soonest_26
set_option maxHeartbeats 4000000 in
set_option maxRecDepth 100000 in
theorem kc_X11_soonest {B : KB} {l : Launch} {T : TT} {x1 : Int32} {x2 : Int32} {res : Int32 × TT} (h : m_X11_soonest T x1 x2 = some res) : Kt B l 6 yX11_soonest cX11_soonest 4 (some .int) T [.ref (B.1 10 0), .int x1, .int x2] (some (.int res.1)) res.2 := by
  refine Kt.of (by decide) (Nat.le_of_ble_eq_true rfl) (fun X hX C E => ?_)
  subst hX
  have C : Cx B X "GriefEngineModel" cX11_soonest 4 6 := C
  show Wk B X 4 T 0 [(0, .ref (B.1 10 0)), (1, .int x1), (2, .int x2)] []
  unfold m_X11_soonest at h
  refine k_aload_n (pc := 0) C dX11_soonest_0 0 rfl ?_
  refine k_iload_n (pc := 1) C dX11_soonest_1 1 rfl ?_
  obtain ⟨z1, e1, h⟩ := bnd h
  refine k_callvI (pc := 2) C lk_X11_116 (by decide) ix_X11 wo_X11 rfl rfl (kc_X11_isDriver e1) dX11_soonest_2 rfl rfl (Nat.le_of_ble_eq_true rfl) ?_
  refine k_if_eq (pc := 5) C 20 dX11_soonest_5 (by decide) h (fun c4 h => ?_) (fun c4 h => ?_)
  · refine k_sub [0] rfl ?_
    exact k_X11_soonest_b20 C E T h
  · refine k_iload_n (pc := 8) C dX11_soonest_8 2 rfl ?_
    refine k_i2l (pc := 9) C dX11_soonest_9 ?_
    refine k_lconst (pc := 10) (v := (1 : Int64)) C dX11_soonest_10 (by decide) ?_
    refine k_ldc2_w (pc := 11) (v := (999 : Int64)) C dX11_soonest_11 tw5_9 ?_
    obtain ⟨z2, e2, h⟩ := bnd h
    refine k_callsI (pc := 14) C lk_X11_53 (by decide) (kc_X11_in e2) dX11_soonest_14 rfl rfl (Nat.le_of_ble_eq_true rfl) ?_
    refine k_if_ne (pc := 17) C 27 dX11_soonest_17 (by decide) h (fun c3 h => ?_) (fun c3 h => ?_)
    · refine k_iconst (pc := 27) (v := (1 : Int32)) C dX11_soonest_27 ciconst_1 ?_
      refine k_istore_n (pc := 28) C [(3, .int (1 : Int32)), (0, .ref (B.1 10 0)), (1, .int x1), (2, .int x2)] dX11_soonest_28 (by decide) rfl ?_
      refine k_sub [1, 2, 3, 0] rfl ?_
      exact k_X11_soonest_l29 C E FU T x1 x2 (1 : Int32) h
    · refine k_sub [0] rfl ?_
      exact k_X11_soonest_b20 C E T h
def m_X11_home_b138 (rec48 : TT → Int32 → Int32 → Int32 → Int32 → Int32 → Int32 → Option (Int32 × TT)) (rec57 : TT → Int32 → Int32 → Int32 → Int32 → Int32 → Int32 → Int32 → Option (Int32 × TT)) (T : TT) (x1 : Int32) (x2 : Int32) (x3 : Int32) (x5 : Int32) (x6 : Int32) (x7 : Int32) (s0 : Int32) : Option (Int32 × TT) := bT (x7 + (1 : Int32)) (fun y17 => rec57 T x1 x2 x3 s0 x5 x6 y17)
def m_X11_home_b122 (rec48 : TT → Int32 → Int32 → Int32 → Int32 → Int32 → Int32 → Option (Int32 × TT)) (rec57 : TT → Int32 → Int32 → Int32 → Int32 → Int32 → Int32 → Int32 → Option (Int32 × TT)) (T : TT) (x1 : Int32) (x2 : Int32) (x3 : Int32) (x4 : Int32) (x6 : Int32) (x7 : Int32) (x10 : Int32) (s0 : Int32) : Option (Int32 × TT) := if x10 ≤ x4 then (m_X11_home_b138 rec48 rec57 T x1 x2 x3 s0 x6 x7 x4) else (m_X11_home_b138 rec48 rec57 T x1 x2 x3 s0 x6 x7 x10)
def m_X11_home_b106 (rec48 : TT → Int32 → Int32 → Int32 → Int32 → Int32 → Int32 → Option (Int32 × TT)) (rec57 : TT → Int32 → Int32 → Int32 → Int32 → Int32 → Int32 → Int32 → Option (Int32 × TT)) (T : TT) (x1 : Int32) (x2 : Int32) (x3 : Int32) (x4 : Int32) (x5 : Int32) (x6 : Int32) (x7 : Int32) (s0 : Int32) : Option (Int32 × TT) := if s0 ≤ x4 then (m_X11_home_b122 rec48 rec57 T x1 x2 x3 x4 x6 x7 s0 x5) else (m_X11_home_b122 rec48 rec57 T x1 x2 x3 x4 x6 x7 s0 x6)
def m_X11_home_h57 (rec48 : TT → Int32 → Int32 → Int32 → Int32 → Int32 → Int32 → Option (Int32 × TT)) (rec57 : TT → Int32 → Int32 → Int32 → Int32 → Int32 → Int32 → Int32 → Option (Int32 × TT)) (T : TT) (x1 : Int32) (x2 : Int32) (x3 : Int32) (x4 : Int32) (x5 : Int32) (x6 : Int32) (x7 : Int32) : Option (Int32 × TT) := (m_X11_powerOfThree x2).bind (fun z9 => if z9 ≤ x7 then (bT (x6 + (1 : Int32)) (fun y10 => rec48 T x1 x2 x3 x4 x5 y10)) else ((m_X11_milesBy T x1 x2 x7 (0 : Int32) x6).bind (fun z11 => (m_X11_milesBy z11.2 x1 x2 x7 x6 x2).bind (fun z12 => if z12.1 ≤ z11.1 then (m_X11_home_b106 rec48 rec57 z12.2 x1 x2 x3 x4 x5 x6 x7 z12.1) else (m_X11_home_b106 rec48 rec57 z12.2 x1 x2 x3 x4 x5 x6 x7 z11.1)))))
def m_X11_home_l57 (rec48 : TT → Int32 → Int32 → Int32 → Int32 → Int32 → Int32 → Option (Int32 × TT)) : Nat → TT → Int32 → Int32 → Int32 → Int32 → Int32 → Int32 → Int32 → Option (Int32 × TT)
  | 0 => fun _ _ _ _ _ _ _ _ => none
  | n + 1 => fun T x1 x2 x3 x4 x5 x6 x7 => m_X11_home_h57 rec48 (m_X11_home_l57 rec48 n) T x1 x2 x3 x4 x5 x6 x7
def m_X11_home_h48 (rec48 : TT → Int32 → Int32 → Int32 → Int32 → Int32 → Int32 → Option (Int32 × TT)) (T : TT) (x1 : Int32) (x2 : Int32) (x3 : Int32) (x4 : Int32) (x5 : Int32) (x6 : Int32) : Option (Int32 × TT) := if x2 ≤ x6 then (if x3 = 0 then (some (x4, T)) else (some (x5, T))) else (m_X11_home_l57 rec48 FU T x1 x2 x3 x4 x5 x6 (0 : Int32))
def m_X11_home_l48 : Nat → TT → Int32 → Int32 → Int32 → Int32 → Int32 → Int32 → Option (Int32 × TT)
  | 0 => fun _ _ _ _ _ _ _ => none
  | n + 1 => fun T x1 x2 x3 x4 x5 x6 => m_X11_home_h48 (m_X11_home_l48 n) T x1 x2 x3 x4 x5 x6
def m_X11_home_b32 (T : TT) : Option (Int32 × TT) := (m_X11_bad T (-2 : Int32)).bind (fun z18 => some (z18.1, z18.2))
def m_X11_home (T : TT) (x1 : Int32) (x2 : Int32) (x3 : Int32) : Option (Int32 × TT) := (m_X11_isDriver T x1).bind (fun z1 => if z1 = 0 then (m_X11_home_b32 T) else ((m_X11_in (x2.toInt64) (2 : Int64) (7 : Int64)).bind (fun z2 => if z2 = 0 then (m_X11_home_b32 T) else ((m_X11_in (x3.toInt64) (0 : Int64) (1 : Int64)).bind (fun z3 => if z3 = 0 then (m_X11_home_b32 T) else (m_X11_home_l48 FU T x1 x2 x3 (-1 : Int32) (-1 : Int32) (1 : Int32)))))))
set_option maxHeartbeats 4000000 in
set_option maxRecDepth 100000 in
theorem k_X11_home_b138 {B : KB} {X : KE} {rec48 : TT → Int32 → Int32 → Int32 → Int32 → Int32 → Int32 → Option (Int32 × TT)} {rec57 : TT → Int32 → Int32 → Int32 → Int32 → Int32 → Int32 → Int32 → Option (Int32 × TT)} {res : Int32 × TT} (C : Cx B X "GriefEngineModel" cX11_home 11 5) (E : Cr B X (some .int) (some (.int res.1)) res.2) (hrec48 : ∀ (T : TT) (x1 : Int32) (x2 : Int32) (x3 : Int32) (x4 : Int32) (x5 : Int32) (x6 : Int32), rec48 T x1 x2 x3 x4 x5 x6 = some res → Wk B X 11 T 48 [(0, .ref (B.1 10 0)), (1, .int x1), (2, .int x2), (3, .int x3), (4, .int x4), (5, .int x5), (6, .int x6)] []) (hrec57 : ∀ (T : TT) (x1 : Int32) (x2 : Int32) (x3 : Int32) (x4 : Int32) (x5 : Int32) (x6 : Int32) (x7 : Int32), rec57 T x1 x2 x3 x4 x5 x6 x7 = some res → Wk B X 11 T 57 [(0, .ref (B.1 10 0)), (1, .int x1), (2, .int x2), (3, .int x3), (4, .int x4), (5, .int x5), (6, .int x6), (7, .int x7)] []) (T : TT) (x1 : Int32) (x2 : Int32) (x3 : Int32) (x5 : Int32) (x6 : Int32) (x7 : Int32) (s0 : Int32) (h : m_X11_home_b138 rec48 rec57 T x1 x2 x3 x5 x6 x7 s0 = some res) : Wk B X 11 T 138 [(0, .ref (B.1 10 0)), (1, .int x1), (2, .int x2), (3, .int x3), (5, .int x5), (6, .int x6), (7, .int x7)] [.int s0] := by
  unfold m_X11_home_b138 at h
  refine k_istore (pc := 138) C [(4, .int s0), (0, .ref (B.1 10 0)), (1, .int x1), (2, .int x2), (3, .int x3), (5, .int x5), (6, .int x6), (7, .int x7)] dX11_home_138 (by decide) rfl ?_
  refine k_iincN (pc := 140) (x := x7) (c := (1 : Int32)) C (fun y17 => [(7, .int y17), (4, .int s0), (0, .ref (B.1 10 0)), (1, .int x1), (2, .int x2), (3, .int x3), (5, .int x5), (6, .int x6)]) dX11_home_140 7 rfl ciconst_1 (by decide) (fun _ => rfl) h (fun y17 h => ?_)
  refine k_goto (pc := 143) C 57 dX11_home_143 (by decide) ?_
  refine k_sub [2, 3, 4, 5, 1, 6, 7, 0] rfl ?_
  exact hrec57 T x1 x2 x3 s0 x5 x6 y17 h
set_option maxHeartbeats 4000000 in
set_option maxRecDepth 100000 in
theorem k_X11_home_b122 {B : KB} {X : KE} {rec48 : TT → Int32 → Int32 → Int32 → Int32 → Int32 → Int32 → Option (Int32 × TT)} {rec57 : TT → Int32 → Int32 → Int32 → Int32 → Int32 → Int32 → Int32 → Option (Int32 × TT)} {res : Int32 × TT} (C : Cx B X "GriefEngineModel" cX11_home 11 5) (E : Cr B X (some .int) (some (.int res.1)) res.2) (hrec48 : ∀ (T : TT) (x1 : Int32) (x2 : Int32) (x3 : Int32) (x4 : Int32) (x5 : Int32) (x6 : Int32), rec48 T x1 x2 x3 x4 x5 x6 = some res → Wk B X 11 T 48 [(0, .ref (B.1 10 0)), (1, .int x1), (2, .int x2), (3, .int x3), (4, .int x4), (5, .int x5), (6, .int x6)] []) (hrec57 : ∀ (T : TT) (x1 : Int32) (x2 : Int32) (x3 : Int32) (x4 : Int32) (x5 : Int32) (x6 : Int32) (x7 : Int32), rec57 T x1 x2 x3 x4 x5 x6 x7 = some res → Wk B X 11 T 57 [(0, .ref (B.1 10 0)), (1, .int x1), (2, .int x2), (3, .int x3), (4, .int x4), (5, .int x5), (6, .int x6), (7, .int x7)] []) (T : TT) (x1 : Int32) (x2 : Int32) (x3 : Int32) (x4 : Int32) (x6 : Int32) (x7 : Int32) (x10 : Int32) (s0 : Int32) (h : m_X11_home_b122 rec48 rec57 T x1 x2 x3 x4 x6 x7 x10 s0 = some res) : Wk B X 11 T 122 [(0, .ref (B.1 10 0)), (1, .int x1), (2, .int x2), (3, .int x3), (4, .int x4), (6, .int x6), (7, .int x7), (10, .int x10)] [.int s0] := by
  unfold m_X11_home_b122 at h
  refine k_istore (pc := 122) C [(5, .int s0), (0, .ref (B.1 10 0)), (1, .int x1), (2, .int x2), (3, .int x3), (4, .int x4), (6, .int x6), (7, .int x7), (10, .int x10)] dX11_home_122 (by decide) rfl ?_
  refine k_iload (pc := 124) C dX11_home_124 8 rfl ?_
  refine k_iload (pc := 126) C dX11_home_126 5 rfl ?_
  refine k_icmp_le (pc := 128) C 136 dX11_home_128 (by decide) h (fun c16 h => ?_) (fun c16 h => ?_)
  · refine k_iload (pc := 136) C dX11_home_136 5 rfl ?_
    refine k_sub [1, 2, 3, 4, 0, 6, 7] rfl ?_
    exact k_X11_home_b138 C E hrec48 hrec57 T x1 x2 x3 s0 x6 x7 x4 h
  · refine k_iload (pc := 131) C dX11_home_131 8 rfl ?_
    refine k_goto (pc := 133) C 138 dX11_home_133 (by decide) ?_
    refine k_sub [1, 2, 3, 4, 0, 6, 7] rfl ?_
    exact k_X11_home_b138 C E hrec48 hrec57 T x1 x2 x3 s0 x6 x7 x10 h
set_option maxHeartbeats 4000000 in
set_option maxRecDepth 100000 in
theorem k_X11_home_b106 {B : KB} {X : KE} {rec48 : TT → Int32 → Int32 → Int32 → Int32 → Int32 → Int32 → Option (Int32 × TT)} {rec57 : TT → Int32 → Int32 → Int32 → Int32 → Int32 → Int32 → Int32 → Option (Int32 × TT)} {res : Int32 × TT} (C : Cx B X "GriefEngineModel" cX11_home 11 5) (E : Cr B X (some .int) (some (.int res.1)) res.2) (hrec48 : ∀ (T : TT) (x1 : Int32) (x2 : Int32) (x3 : Int32) (x4 : Int32) (x5 : Int32) (x6 : Int32), rec48 T x1 x2 x3 x4 x5 x6 = some res → Wk B X 11 T 48 [(0, .ref (B.1 10 0)), (1, .int x1), (2, .int x2), (3, .int x3), (4, .int x4), (5, .int x5), (6, .int x6)] []) (hrec57 : ∀ (T : TT) (x1 : Int32) (x2 : Int32) (x3 : Int32) (x4 : Int32) (x5 : Int32) (x6 : Int32) (x7 : Int32), rec57 T x1 x2 x3 x4 x5 x6 x7 = some res → Wk B X 11 T 57 [(0, .ref (B.1 10 0)), (1, .int x1), (2, .int x2), (3, .int x3), (4, .int x4), (5, .int x5), (6, .int x6), (7, .int x7)] []) (T : TT) (x1 : Int32) (x2 : Int32) (x3 : Int32) (x4 : Int32) (x5 : Int32) (x6 : Int32) (x7 : Int32) (s0 : Int32) (h : m_X11_home_b106 rec48 rec57 T x1 x2 x3 x4 x5 x6 x7 s0 = some res) : Wk B X 11 T 106 [(0, .ref (B.1 10 0)), (1, .int x1), (2, .int x2), (3, .int x3), (4, .int x4), (5, .int x5), (6, .int x6), (7, .int x7)] [.int s0] := by
  unfold m_X11_home_b106 at h
  refine k_istore (pc := 106) C [(10, .int s0), (0, .ref (B.1 10 0)), (1, .int x1), (2, .int x2), (3, .int x3), (4, .int x4), (5, .int x5), (6, .int x6), (7, .int x7)] dX11_home_106 (by decide) rfl ?_
  refine k_iload (pc := 108) C dX11_home_108 0 rfl ?_
  refine k_iload (pc := 110) C dX11_home_110 5 rfl ?_
  refine k_icmp_le (pc := 112) C 120 dX11_home_112 (by decide) h (fun c15 h => ?_) (fun c15 h => ?_)
  · refine k_iload (pc := 120) C dX11_home_120 6 rfl ?_
    refine k_sub [1, 2, 3, 4, 5, 7, 8, 0] rfl ?_
    exact k_X11_home_b122 C E hrec48 hrec57 T x1 x2 x3 x4 x6 x7 s0 x5 h
  · refine k_iload (pc := 115) C dX11_home_115 7 rfl ?_
    refine k_goto (pc := 117) C 122 dX11_home_117 (by decide) ?_
    refine k_sub [1, 2, 3, 4, 5, 7, 8, 0] rfl ?_
    exact k_X11_home_b122 C E hrec48 hrec57 T x1 x2 x3 x4 x6 x7 s0 x6 h
set_option maxHeartbeats 4000000 in
set_option maxRecDepth 100000 in
theorem k_X11_home_h57 {B : KB} {X : KE} {rec48 : TT → Int32 → Int32 → Int32 → Int32 → Int32 → Int32 → Option (Int32 × TT)} {rec57 : TT → Int32 → Int32 → Int32 → Int32 → Int32 → Int32 → Int32 → Option (Int32 × TT)} {res : Int32 × TT} (C : Cx B X "GriefEngineModel" cX11_home 11 5) (E : Cr B X (some .int) (some (.int res.1)) res.2) (hrec48 : ∀ (T : TT) (x1 : Int32) (x2 : Int32) (x3 : Int32) (x4 : Int32) (x5 : Int32) (x6 : Int32), rec48 T x1 x2 x3 x4 x5 x6 = some res → Wk B X 11 T 48 [(0, .ref (B.1 10 0)), (1, .int x1), (2, .int x2), (3, .int x3), (4, .int x4), (5, .int x5), (6, .int x6)] []) (hrec57 : ∀ (T : TT) (x1 : Int32) (x2 : Int32) (x3 : Int32) (x4 : Int32) (x5 : Int32) (x6 : Int32) (x7 : Int32), rec57 T x1 x2 x3 x4 x5 x6 x7 = some res → Wk B X 11 T 57 [(0, .ref (B.1 10 0)), (1, .int x1), (2, .int x2), (3, .int x3), (4, .int x4), (5, .int x5), (6, .int x6), (7, .int x7)] []) (T : TT) (x1 : Int32) (x2 : Int32) (x3 : Int32) (x4 : Int32) (x5 : Int32) (x6 : Int32) (x7 : Int32) (h : m_X11_home_h57 rec48 rec57 T x1 x2 x3 x4 x5 x6 x7 = some res) : Wk B X 11 T 57 [(0, .ref (B.1 10 0)), (1, .int x1), (2, .int x2), (3, .int x3), (4, .int x4), (5, .int x5), (6, .int x6), (7, .int x7)] [] := by
  unfold m_X11_home_h57 at h
  refine k_iload (pc := 57) C dX11_home_57 7 rfl ?_
  refine k_iload_n (pc := 59) C dX11_home_59 2 rfl ?_
  obtain ⟨z9, e9, h⟩ := bnd h
  refine k_callsI (pc := 60) C lk_X11_131 (by decide) (kc_X11_powerOfThree e9) dX11_home_60 rfl rfl (Nat.le_of_ble_eq_true rfl) ?_
  refine k_icmp_ge (pc := 63) C 146 dX11_home_63 (by decide) h (fun c14 h => ?_) (fun c14 h => ?_)
  · refine k_iincN (pc := 146) (x := x6) (c := (1 : Int32)) C (fun y10 => [(6, .int y10), (0, .ref (B.1 10 0)), (1, .int x1), (2, .int x2), (3, .int x3), (4, .int x4), (5, .int x5), (7, .int x7)]) dX11_home_146 6 rfl ciconst_1 (by decide) (fun _ => rfl) h (fun y10 h => ?_)
    refine k_goto (pc := 149) C 48 dX11_home_149 (by decide) ?_
    refine k_sub [1, 2, 3, 4, 5, 6, 0] rfl ?_
    exact hrec48 T x1 x2 x3 x4 x5 y10 h
  · refine k_aload_n (pc := 66) C dX11_home_66 0 rfl ?_
    refine k_iload_n (pc := 67) C dX11_home_67 1 rfl ?_
    refine k_iload_n (pc := 68) C dX11_home_68 2 rfl ?_
    refine k_iload (pc := 69) C dX11_home_69 7 rfl ?_
    refine k_iconst (pc := 71) (v := (0 : Int32)) C dX11_home_71 ciconst_0 ?_
    refine k_iload (pc := 72) C dX11_home_72 6 rfl ?_
    obtain ⟨z11, e11, h⟩ := bnd h
    refine k_callvI (pc := 74) C lk_X11_134 (by decide) ix_X11 wo_X11 rfl rfl (kc_X11_milesBy e11) dX11_home_74 rfl rfl (Nat.le_of_ble_eq_true rfl) ?_
    refine k_istore (pc := 77) C [(8, .int z11.1), (0, .ref (B.1 10 0)), (1, .int x1), (2, .int x2), (3, .int x3), (4, .int x4), (5, .int x5), (6, .int x6), (7, .int x7)] dX11_home_77 (by decide) rfl ?_
    refine k_aload_n (pc := 79) C dX11_home_79 1 rfl ?_
    refine k_iload_n (pc := 80) C dX11_home_80 2 rfl ?_
    refine k_iload_n (pc := 81) C dX11_home_81 3 rfl ?_
    refine k_iload (pc := 82) C dX11_home_82 8 rfl ?_
    refine k_iload (pc := 84) C dX11_home_84 7 rfl ?_
    refine k_iload_n (pc := 86) C dX11_home_86 3 rfl ?_
    obtain ⟨z12, e12, h⟩ := bnd h
    refine k_callvI (pc := 87) C lk_X11_134 (by decide) ix_X11 wo_X11 rfl rfl (kc_X11_milesBy e12) dX11_home_87 rfl rfl (Nat.le_of_ble_eq_true rfl) ?_
    refine k_istore (pc := 90) C [(9, .int z12.1), (8, .int z11.1), (0, .ref (B.1 10 0)), (1, .int x1), (2, .int x2), (3, .int x3), (4, .int x4), (5, .int x5), (6, .int x6), (7, .int x7)] dX11_home_90 (by decide) rfl ?_
    refine k_iload (pc := 92) C dX11_home_92 1 rfl ?_
    refine k_iload (pc := 94) C dX11_home_94 0 rfl ?_
    refine k_icmp_ge (pc := 96) C 104 dX11_home_96 (by decide) h (fun c13 h => ?_) (fun c13 h => ?_)
    · refine k_iload (pc := 104) C dX11_home_104 0 rfl ?_
      refine k_sub [2, 3, 4, 5, 6, 7, 8, 9] rfl ?_
      exact k_X11_home_b106 C E hrec48 hrec57 z12.2 x1 x2 x3 x4 x5 x6 x7 z12.1 h
    · refine k_iload (pc := 99) C dX11_home_99 1 rfl ?_
      refine k_goto (pc := 101) C 106 dX11_home_101 (by decide) ?_
      refine k_sub [2, 3, 4, 5, 6, 7, 8, 9] rfl ?_
      exact k_X11_home_b106 C E hrec48 hrec57 z12.2 x1 x2 x3 x4 x5 x6 x7 z11.1 h
set_option maxHeartbeats 4000000 in
set_option maxRecDepth 100000 in
theorem k_X11_home_l57 {B : KB} {X : KE} {rec48 : TT → Int32 → Int32 → Int32 → Int32 → Int32 → Int32 → Option (Int32 × TT)} {res : Int32 × TT} (C : Cx B X "GriefEngineModel" cX11_home 11 5) (E : Cr B X (some .int) (some (.int res.1)) res.2) (hrec48 : ∀ (T : TT) (x1 : Int32) (x2 : Int32) (x3 : Int32) (x4 : Int32) (x5 : Int32) (x6 : Int32), rec48 T x1 x2 x3 x4 x5 x6 = some res → Wk B X 11 T 48 [(0, .ref (B.1 10 0)), (1, .int x1), (2, .int x2), (3, .int x3), (4, .int x4), (5, .int x5), (6, .int x6)] []) : ∀ (n : Nat) (T : TT) (x1 : Int32) (x2 : Int32) (x3 : Int32) (x4 : Int32) (x5 : Int32) (x6 : Int32) (x7 : Int32) (h : m_X11_home_l57 rec48 n T x1 x2 x3 x4 x5 x6 x7 = some res), Wk B X 11 T 57 [(0, .ref (B.1 10 0)), (1, .int x1), (2, .int x2), (3, .int x3), (4, .int x4), (5, .int x5), (6, .int x6), (7, .int x7)] [] := by
  intro n
  induction n with
  | zero =>
    intro T x1 x2 x3 x4 x5 x6 x7 h
    exact no_some h
  | succ n ih =>
    intro T x1 x2 x3 x4 x5 x6 x7 h
    exact k_X11_home_h57 C E hrec48 (fun T x1 x2 x3 x4 x5 x6 x7 h => ih T x1 x2 x3 x4 x5 x6 x7 h) T x1 x2 x3 x4 x5 x6 x7 h
set_option maxHeartbeats 4000000 in
set_option maxRecDepth 100000 in
theorem k_X11_home_h48 {B : KB} {X : KE} {rec48 : TT → Int32 → Int32 → Int32 → Int32 → Int32 → Int32 → Option (Int32 × TT)} {res : Int32 × TT} (C : Cx B X "GriefEngineModel" cX11_home 11 5) (E : Cr B X (some .int) (some (.int res.1)) res.2) (hrec48 : ∀ (T : TT) (x1 : Int32) (x2 : Int32) (x3 : Int32) (x4 : Int32) (x5 : Int32) (x6 : Int32), rec48 T x1 x2 x3 x4 x5 x6 = some res → Wk B X 11 T 48 [(0, .ref (B.1 10 0)), (1, .int x1), (2, .int x2), (3, .int x3), (4, .int x4), (5, .int x5), (6, .int x6)] []) (T : TT) (x1 : Int32) (x2 : Int32) (x3 : Int32) (x4 : Int32) (x5 : Int32) (x6 : Int32) (h : m_X11_home_h48 rec48 T x1 x2 x3 x4 x5 x6 = some res) : Wk B X 11 T 48 [(0, .ref (B.1 10 0)), (1, .int x1), (2, .int x2), (3, .int x3), (4, .int x4), (5, .int x5), (6, .int x6)] [] := by
  unfold m_X11_home_h48 at h
  refine k_iload (pc := 48) C dX11_home_48 6 rfl ?_
  refine k_iload_n (pc := 50) C dX11_home_50 2 rfl ?_
  refine k_icmp_ge (pc := 51) C 152 dX11_home_51 (by decide) h (fun c8 h => ?_) (fun c8 h => ?_)
  · refine k_iload_n (pc := 152) C dX11_home_152 3 rfl ?_
    refine k_if_ne (pc := 153) C 161 dX11_home_153 (by decide) h (fun c7 h => ?_) (fun c7 h => ?_)
    · refine k_iload (pc := 161) C dX11_home_161 5 rfl ?_
      exact k_iret (pc := 163) C E (some_1 h) (some_2 h) dX11_home_163
    · refine k_iload (pc := 156) C dX11_home_156 4 rfl ?_
      refine k_goto (pc := 158) C 163 dX11_home_158 (by decide) ?_
      exact k_iret (pc := 163) C E (some_1 h) (some_2 h) dX11_home_163
  · refine k_iconst (pc := 54) (v := (0 : Int32)) C dX11_home_54 ciconst_0 ?_
    refine k_istore (pc := 55) C [(7, .int (0 : Int32)), (0, .ref (B.1 10 0)), (1, .int x1), (2, .int x2), (3, .int x3), (4, .int x4), (5, .int x5), (6, .int x6)] dX11_home_55 (by decide) rfl ?_
    refine k_sub [1, 2, 3, 4, 5, 6, 7, 0] rfl ?_
    exact k_X11_home_l57 C E hrec48 FU T x1 x2 x3 x4 x5 x6 (0 : Int32) h
set_option maxHeartbeats 4000000 in
set_option maxRecDepth 100000 in
theorem k_X11_home_l48 {B : KB} {X : KE} {res : Int32 × TT} (C : Cx B X "GriefEngineModel" cX11_home 11 5) (E : Cr B X (some .int) (some (.int res.1)) res.2) : ∀ (n : Nat) (T : TT) (x1 : Int32) (x2 : Int32) (x3 : Int32) (x4 : Int32) (x5 : Int32) (x6 : Int32) (h : m_X11_home_l48 n T x1 x2 x3 x4 x5 x6 = some res), Wk B X 11 T 48 [(0, .ref (B.1 10 0)), (1, .int x1), (2, .int x2), (3, .int x3), (4, .int x4), (5, .int x5), (6, .int x6)] [] := by
  intro n
  induction n with
  | zero =>
    intro T x1 x2 x3 x4 x5 x6 h
    exact no_some h
  | succ n ih =>
    intro T x1 x2 x3 x4 x5 x6 h
    exact k_X11_home_h48 C E (fun T x1 x2 x3 x4 x5 x6 h => ih T x1 x2 x3 x4 x5 x6 h) T x1 x2 x3 x4 x5 x6 h
set_option maxHeartbeats 4000000 in
set_option maxRecDepth 100000 in
theorem k_X11_home_b32 {B : KB} {X : KE} {res : Int32 × TT} (C : Cx B X "GriefEngineModel" cX11_home 11 5) (E : Cr B X (some .int) (some (.int res.1)) res.2) (T : TT) (h : m_X11_home_b32 T = some res) : Wk B X 11 T 32 [(0, .ref (B.1 10 0))] [] := by
  unfold m_X11_home_b32 at h
  refine k_aload_n (pc := 32) C dX11_home_32 0 rfl ?_
  refine k_bipush (pc := 33) (v := (-2 : Int32)) C dX11_home_33 cbipush_m2 ?_
  obtain ⟨z18, e18, h⟩ := bnd h
  refine k_callvI (pc := 35) C lk_X11_63 (by decide) ix_X11 wo_X11 rfl rfl (kc_X11_bad e18) dX11_home_35 rfl rfl (Nat.le_of_ble_eq_true rfl) ?_
  exact k_iret (pc := 38) C E (some_1 h) (some_2 h) dX11_home_38
set_option maxHeartbeats 4000000 in
set_option maxRecDepth 100000 in
theorem kc_X11_home {B : KB} {l : Launch} {T : TT} {x1 : Int32} {x2 : Int32} {x3 : Int32} {res : Int32 × TT} (h : m_X11_home T x1 x2 x3 = some res) : Kt B l 5 yX11_home cX11_home 11 (some .int) T [.ref (B.1 10 0), .int x1, .int x2, .int x3] (some (.int res.1)) res.2 := by
  refine Kt.of (by decide) (Nat.le_of_ble_eq_true rfl) (fun X hX C E => ?_)
  subst hX
  have C : Cx B X "GriefEngineModel" cX11_home 11 5 := C
  show Wk B X 11 T 0 [(0, .ref (B.1 10 0)), (1, .int x1), (2, .int x2), (3, .int x3)] []
  unfold m_X11_home at h
  refine k_aload_n (pc := 0) C dX11_home_0 0 rfl ?_
  refine k_iload_n (pc := 1) C dX11_home_1 1 rfl ?_
  obtain ⟨z1, e1, h⟩ := bnd h
  refine k_callvI (pc := 2) C lk_X11_116 (by decide) ix_X11 wo_X11 rfl rfl (kc_X11_isDriver e1) dX11_home_2 rfl rfl (Nat.le_of_ble_eq_true rfl) ?_
  refine k_if_eq (pc := 5) C 32 dX11_home_5 (by decide) h (fun c6 h => ?_) (fun c6 h => ?_)
  · refine k_sub [0] rfl ?_
    exact k_X11_home_b32 C E T h
  · refine k_iload_n (pc := 8) C dX11_home_8 2 rfl ?_
    refine k_i2l (pc := 9) C dX11_home_9 ?_
    refine k_ldc2_w (pc := 10) (v := (2 : Int64)) C dX11_home_10 tw4_157 ?_
    refine k_ldc2_w (pc := 13) (v := (7 : Int64)) C dX11_home_13 tw4_233 ?_
    obtain ⟨z2, e2, h⟩ := bnd h
    refine k_callsI (pc := 16) C lk_X11_53 (by decide) (kc_X11_in e2) dX11_home_16 rfl rfl (Nat.le_of_ble_eq_true rfl) ?_
    refine k_if_eq (pc := 19) C 32 dX11_home_19 (by decide) h (fun c5 h => ?_) (fun c5 h => ?_)
    · refine k_sub [0] rfl ?_
      exact k_X11_home_b32 C E T h
    · refine k_iload_n (pc := 22) C dX11_home_22 3 rfl ?_
      refine k_i2l (pc := 23) C dX11_home_23 ?_
      refine k_lconst (pc := 24) (v := (0 : Int64)) C dX11_home_24 (by decide) ?_
      refine k_lconst (pc := 25) (v := (1 : Int64)) C dX11_home_25 (by decide) ?_
      obtain ⟨z3, e3, h⟩ := bnd h
      refine k_callsI (pc := 26) C lk_X11_53 (by decide) (kc_X11_in e3) dX11_home_26 rfl rfl (Nat.le_of_ble_eq_true rfl) ?_
      refine k_if_ne (pc := 29) C 39 dX11_home_29 (by decide) h (fun c4 h => ?_) (fun c4 h => ?_)
      · refine k_iconst (pc := 39) (v := (-1 : Int32)) C dX11_home_39 ciconst_m1 ?_
        refine k_istore (pc := 40) C [(4, .int (-1 : Int32)), (0, .ref (B.1 10 0)), (1, .int x1), (2, .int x2), (3, .int x3)] dX11_home_40 (by decide) rfl ?_
        refine k_iconst (pc := 42) (v := (-1 : Int32)) C dX11_home_42 ciconst_m1 ?_
        refine k_istore (pc := 43) C [(5, .int (-1 : Int32)), (4, .int (-1 : Int32)), (0, .ref (B.1 10 0)), (1, .int x1), (2, .int x2), (3, .int x3)] dX11_home_43 (by decide) rfl ?_
        refine k_iconst (pc := 45) (v := (1 : Int32)) C dX11_home_45 ciconst_1 ?_
        refine k_istore (pc := 46) C [(6, .int (1 : Int32)), (5, .int (-1 : Int32)), (4, .int (-1 : Int32)), (0, .ref (B.1 10 0)), (1, .int x1), (2, .int x2), (3, .int x3)] dX11_home_46 (by decide) rfl ?_
        refine k_sub [3, 4, 5, 6, 2, 1, 0] rfl ?_
        exact k_X11_home_l48 C E FU T x1 x2 x3 (-1 : Int32) (-1 : Int32) (1 : Int32) h
      · refine k_sub [0] rfl ?_
        exact k_X11_home_b32 C E T h
def m_X11_worthOf_b38 (T : TT) (x1 : Int32) (x2 : Int32) (s0 : Int32) : Option (Int32) := (m_X11_kindOf T x1).bind (fun z2 => (m_X11_kindOf T x2).bind (fun z3 => if z2 = z3 then (some s0) else (some (s0 + (1 : Int32)))))
def m_X11_worthOf (T : TT) (x1 : Int32) (x2 : Int32) : Option (Int32) := if inb ((4 : Int32) + x1) 175 then (if inb ((4 : Int32) + x2) 175 then (if (T.1 10 1 (Int32.toNatClampNeg ((4 : Int32) + x2))) ≤ (T.1 10 1 (Int32.toNatClampNeg ((4 : Int32) + x1))) then (if inb ((4 : Int32) + x2) 175 then (m_X11_worthOf_b38 T x1 x2 (T.1 10 1 (Int32.toNatClampNeg ((4 : Int32) + x2)))) else none) else (if inb ((4 : Int32) + x1) 175 then (m_X11_worthOf_b38 T x1 x2 (T.1 10 1 (Int32.toNatClampNeg ((4 : Int32) + x1)))) else none)) else none) else none
set_option maxHeartbeats 4000000 in
set_option maxRecDepth 100000 in
theorem k_X11_worthOf_b38 {B : KB} {X : KE} {T : TT} {res : Int32} (C : Cx B X "GriefEngineModel" cX11_worthOf 4 2) (E : Cr B X (some .int) (some (.int res)) T) (x1 : Int32) (x2 : Int32) (s0 : Int32) (h : m_X11_worthOf_b38 T x1 x2 s0 = some res) : Wk B X 4 T 38 [(0, .ref (B.1 10 0)), (1, .int x1), (2, .int x2)] [.int s0] := by
  unfold m_X11_worthOf_b38 at h
  refine k_istore_n (pc := 38) C [(3, .int s0), (0, .ref (B.1 10 0)), (1, .int x1), (2, .int x2)] dX11_worthOf_38 (by decide) rfl ?_
  refine k_aload_n (pc := 39) C dX11_worthOf_39 1 rfl ?_
  refine k_iload_n (pc := 40) C dX11_worthOf_40 2 rfl ?_
  obtain ⟨z2, e2, h⟩ := bnd h
  refine k_callvI (pc := 41) C lk_X11_124 (by decide) ix_X11 wo_X11 rfl rfl (kc_X11_kindOf e2) dX11_worthOf_41 rfl rfl (Nat.le_of_ble_eq_true rfl) ?_
  refine k_aload_n (pc := 44) C dX11_worthOf_44 1 rfl ?_
  refine k_iload_n (pc := 45) C dX11_worthOf_45 3 rfl ?_
  obtain ⟨z3, e3, h⟩ := bnd h
  refine k_callvI (pc := 46) C lk_X11_124 (by decide) ix_X11 wo_X11 rfl rfl (kc_X11_kindOf e3) dX11_worthOf_46 rfl rfl (Nat.le_of_ble_eq_true rfl) ?_
  refine k_icmp_ne (pc := 49) C 56 dX11_worthOf_49 (by decide) h (fun c4 h => ?_) (fun c4 h => ?_)
  · refine k_iload_n (pc := 56) C dX11_worthOf_56 0 rfl ?_
    refine k_iconst (pc := 57) (v := (1 : Int32)) C dX11_worthOf_57 ciconst_1 ?_
    refine k_iadd (pc := 58) C dX11_worthOf_58 ?_
    exact k_iret (pc := 59) C E (some_i h) rfl dX11_worthOf_59
  · refine k_iload_n (pc := 52) C dX11_worthOf_52 0 rfl ?_
    refine k_goto (pc := 53) C 59 dX11_worthOf_53 (by decide) ?_
    exact k_iret (pc := 59) C E (some_i h) rfl dX11_worthOf_59
set_option maxHeartbeats 4000000 in
set_option maxRecDepth 100000 in
theorem kc_X11_worthOf {B : KB} {l : Launch} {T : TT} {x1 : Int32} {x2 : Int32} {res : Int32} (h : m_X11_worthOf T x1 x2 = some res) : Kt B l 2 yX11_worthOf cX11_worthOf 4 (some .int) T [.ref (B.1 10 0), .int x1, .int x2] (some (.int res)) T := by
  refine Kt.of (by decide) (Nat.le_of_ble_eq_true rfl) (fun X hX C E => ?_)
  subst hX
  have C : Cx B X "GriefEngineModel" cX11_worthOf 4 2 := C
  show Wk B X 4 T 0 [(0, .ref (B.1 10 0)), (1, .int x1), (2, .int x2)] []
  unfold m_X11_worthOf at h
  refine k_aload_n (pc := 0) C dX11_worthOf_0 0 rfl ?_
  refine gf_X11_7 (pc := 1) C dX11_worthOf_1 ?_
  refine k_iconst (pc := 4) (v := (4 : Int32)) C dX11_worthOf_4 ciconst_4 ?_
  refine k_iload_n (pc := 5) C dX11_worthOf_5 1 rfl ?_
  refine k_iadd (pc := 6) C dX11_worthOf_6 ?_
  refine k_iald (pc := 7) C ia_10_1 dX11_worthOf_7 h (fun h => ?_)
  refine k_aload_n (pc := 8) C dX11_worthOf_8 0 rfl ?_
  refine gf_X11_7 (pc := 9) C dX11_worthOf_9 ?_
  refine k_iconst (pc := 12) (v := (4 : Int32)) C dX11_worthOf_12 ciconst_4 ?_
  refine k_iload_n (pc := 13) C dX11_worthOf_13 2 rfl ?_
  refine k_iadd (pc := 14) C dX11_worthOf_14 ?_
  refine k_iald (pc := 15) C ia_10_1 dX11_worthOf_15 h (fun h => ?_)
  refine k_icmp_ge (pc := 16) C 30 dX11_worthOf_16 (by decide) h (fun c1 h => ?_) (fun c1 h => ?_)
  · refine k_aload_n (pc := 30) C dX11_worthOf_30 0 rfl ?_
    refine gf_X11_7 (pc := 31) C dX11_worthOf_31 ?_
    refine k_iconst (pc := 34) (v := (4 : Int32)) C dX11_worthOf_34 ciconst_4 ?_
    refine k_iload_n (pc := 35) C dX11_worthOf_35 2 rfl ?_
    refine k_iadd (pc := 36) C dX11_worthOf_36 ?_
    refine k_iald (pc := 37) C ia_10_1 dX11_worthOf_37 h (fun h => ?_)
    refine k_sub [0, 1, 2] rfl ?_
    exact k_X11_worthOf_b38 C E x1 x2 (T.1 10 1 (Int32.toNatClampNeg ((4 : Int32) + x2))) h
  · refine k_aload_n (pc := 19) C dX11_worthOf_19 0 rfl ?_
    refine gf_X11_7 (pc := 20) C dX11_worthOf_20 ?_
    refine k_iconst (pc := 23) (v := (4 : Int32)) C dX11_worthOf_23 ciconst_4 ?_
    refine k_iload_n (pc := 24) C dX11_worthOf_24 1 rfl ?_
    refine k_iadd (pc := 25) C dX11_worthOf_25 ?_
    refine k_iald (pc := 26) C ia_10_1 dX11_worthOf_26 h (fun h => ?_)
    refine k_goto (pc := 27) C 38 dX11_worthOf_27 (by decide) ?_
    refine k_sub [0, 1, 2] rfl ?_
    exact k_X11_worthOf_b38 C E x1 x2 (T.1 10 1 (Int32.toNatClampNeg ((4 : Int32) + x1))) h
