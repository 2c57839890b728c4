def m_X10_fares_b104 (rec39 : TT → Int32 → Int32 → Int32 → Int32 → Option (Int32 × TT)) (T : TT) (x1 : Int32) (x2 : Int32) (x3 : Int32) (x4 : Int32) : Option (Int32 × TT) := bT (x4 + (1 : Int32)) (fun y14 => rec39 T x1 x2 x3 y14)
def m_X10_fares_b71 (rec39 : TT → Int32 → Int32 → Int32 → Int32 → Option (Int32 × TT)) (T : TT) (x1 : Int32) (x2 : Int32) (x3 : Int32) (x4 : Int32) (x5 : Int32) (s0 : Int32) : Option (Int32 × TT) := (m_X10_isContent T x1 x5 s0).bind (fun z9 => if z9 = 0 then (m_X10_fares_b104 rec39 T x1 x2 x3 x4) else ((m_X10_isContent T x2 s0 x5).bind (fun z10 => if z10 = 0 then (m_X10_fares_b104 rec39 T x1 x2 x3 x4) else (bT (x3 ||| ((1 : Int32) <<< (x4 &&& 31))) (fun y11 => m_X10_fares_b104 rec39 T x1 x2 y11 x4)))))
def m_X10_fares_b57 (rec39 : TT → Int32 → Int32 → Int32 → Int32 → Option (Int32 × TT)) (T : TT) (x1 : Int32) (x2 : Int32) (x3 : Int32) (x4 : Int32) (s0 : Int32) : Option (Int32 × TT) := if (x4 &&& (2 : Int32)) = 0 then (m_X10_fares_b71 rec39 T x1 x2 x3 x4 s0 (0 : Int32)) else (m_X10_fares_b71 rec39 T x1 x2 x3 x4 s0 (1 : Int32))
def m_X10_fares_h39 (rec39 : TT → Int32 → Int32 → Int32 → Int32 → Option (Int32 × TT)) (T : TT) (x1 : Int32) (x2 : Int32) (x3 : Int32) (x4 : Int32) : Option (Int32 × TT) := if (4 : Int32) ≤ x4 then (some (x3, T)) else (if (x4 &&& (1 : Int32)) = 0 then (m_X10_fares_b57 rec39 T x1 x2 x3 x4 (0 : Int32)) else (m_X10_fares_b57 rec39 T x1 x2 x3 x4 (1 : Int32)))
def m_X10_fares_l39 : Nat → TT → Int32 → Int32 → Int32 → Int32 → Option (Int32 × TT)
  | 0 => fun _ _ _ _ _ => none
  | n + 1 => fun T x1 x2 x3 x4 => m_X10_fares_h39 (m_X10_fares_l39 n) T x1 x2 x3 x4
def m_X10_fares_b27 (T : TT) : Option (Int32 × TT) := (m_X10_refuse T (-2 : Int32)).bind (fun z15 => some (z15.1, z15.2))
def m_X10_fares (T : TT) (x1 : Int32) (x2 : Int32) : Option (Int32 × TT) := (m_X4_has T 0 x1).bind (fun z1 => if z1 = 0 then (m_X10_fares_b27 T) else ((m_X4_has T 0 x2).bind (fun z2 => if z2 = 0 then (m_X10_fares_b27 T) else (if x1 = x2 then (m_X10_fares_b27 T) else (m_X10_fares_l39 FU T x1 x2 (0 : Int32) (0 : Int32))))))
set_option maxHeartbeats 4000000 in
set_option maxRecDepth 100000 in
theorem k_X10_fares_b104 {B : KB} {X : KE} {rec39 : TT → Int32 → Int32 → Int32 → Int32 → Option (Int32 × TT)} {res : Int32 × TT} (C : Cx B X "GriefEngine" cX10_fares 7 6) (E : Cr B X (some .int) (some (.int res.1)) res.2) (hrec39 : ∀ (T : TT) (x1 : Int32) (x2 : Int32) (x3 : Int32) (x4 : Int32), rec39 T x1 x2 x3 x4 = some res → Wk B X 7 T 39 [(0, .ref (B.1 4 0)), (1, .int x1), (2, .int x2), (3, .int x3), (4, .int x4)] []) (T : TT) (x1 : Int32) (x2 : Int32) (x3 : Int32) (x4 : Int32) (h : m_X10_fares_b104 rec39 T x1 x2 x3 x4 = some res) : Wk B X 7 T 104 [(0, .ref (B.1 4 0)), (1, .int x1), (2, .int x2), (3, .int x3), (4, .int x4)] [] := by
  unfold m_X10_fares_b104 at h
  refine k_iincN (pc := 104) (x := x4) (c := (1 : Int32)) C (fun y14 => [(4, .int y14), (0, .ref (B.1 4 0)), (1, .int x1), (2, .int x2), (3, .int x3)]) dX10_fares_104 4 rfl ciconst_1 (by decide) (fun _ => rfl) h (fun y14 h => ?_)
  refine k_goto (pc := 107) C 39 dX10_fares_107 (by decide) ?_
  refine k_sub [1, 2, 3, 4, 0] rfl ?_
  exact hrec39 T x1 x2 x3 y14 h
set_option maxHeartbeats 4000000 in
set_option maxRecDepth 100000 in
theorem k_X10_fares_b71 {B : KB} {X : KE} {rec39 : TT → Int32 → Int32 → Int32 → Int32 → Option (Int32 × TT)} {res : Int32 × TT} (C : Cx B X "GriefEngine" cX10_fares 7 6) (E : Cr B X (some .int) (some (.int res.1)) res.2) (hrec39 : ∀ (T : TT) (x1 : Int32) (x2 : Int32) (x3 : Int32) (x4 : Int32), rec39 T x1 x2 x3 x4 = some res → Wk B X 7 T 39 [(0, .ref (B.1 4 0)), (1, .int x1), (2, .int x2), (3, .int x3), (4, .int x4)] []) (T : TT) (x1 : Int32) (x2 : Int32) (x3 : Int32) (x4 : Int32) (x5 : Int32) (s0 : Int32) (h : m_X10_fares_b71 rec39 T x1 x2 x3 x4 x5 s0 = some res) : Wk B X 7 T 71 [(0, .ref (B.1 4 0)), (1, .int x1), (2, .int x2), (3, .int x3), (4, .int x4), (5, .int x5)] [.int s0] := by
  unfold m_X10_fares_b71 at h
  refine k_istore (pc := 71) C [(6, .int s0), (0, .ref (B.1 4 0)), (1, .int x1), (2, .int x2), (3, .int x3), (4, .int x4), (5, .int x5)] dX10_fares_71 (by decide) rfl ?_
  refine k_aload_n (pc := 73) C dX10_fares_73 1 rfl ?_
  refine k_iload_n (pc := 74) C dX10_fares_74 2 rfl ?_
  refine k_iload (pc := 75) C dX10_fares_75 6 rfl ?_
  refine k_iload (pc := 77) C dX10_fares_77 0 rfl ?_
  obtain ⟨z9, e9, h⟩ := bnd h
  refine k_callvI (pc := 79) C lk_X10_219 (by decide) ix_X10 wo_X10 rfl rfl (kc_X10_isContent e9) dX10_fares_79 rfl rfl (Nat.le_of_ble_eq_true rfl) ?_
  refine k_if_eq (pc := 82) C 104 dX10_fares_82 (by decide) h (fun c13 h => ?_) (fun c13 h => ?_)
  · refine k_sub [1, 2, 3, 4, 5] rfl ?_
    exact k_X10_fares_b104 C E hrec39 T x1 x2 x3 x4 h
  · refine k_aload_n (pc := 85) C dX10_fares_85 1 rfl ?_
    refine k_iload_n (pc := 86) C dX10_fares_86 3 rfl ?_
    refine k_iload (pc := 87) C dX10_fares_87 0 rfl ?_
    refine k_iload (pc := 89) C dX10_fares_89 6 rfl ?_
    obtain ⟨z10, e10, h⟩ := bnd h
    refine k_callvI (pc := 91) C lk_X10_219 (by decide) ix_X10 wo_X10 rfl rfl (kc_X10_isContent e10) dX10_fares_91 rfl rfl (Nat.le_of_ble_eq_true rfl) ?_
    refine k_if_eq (pc := 94) C 104 dX10_fares_94 (by decide) h (fun c12 h => ?_) (fun c12 h => ?_)
    · refine k_sub [1, 2, 3, 4, 5] rfl ?_
      exact k_X10_fares_b104 C E hrec39 T x1 x2 x3 x4 h
    · refine k_iload_n (pc := 97) C dX10_fares_97 4 rfl ?_
      refine k_iconst (pc := 98) (v := (1 : Int32)) C dX10_fares_98 ciconst_1 ?_
      refine k_iload (pc := 99) C dX10_fares_99 5 rfl ?_
      refine k_ishl (pc := 101) C dX10_fares_101 ?_
      refine k_ior (pc := 102) C dX10_fares_102 ?_
      refine k_nI h (fun y11 h => ?_)
      refine k_istore_n (pc := 103) C [(3, .int y11), (6, .int s0), (0, .ref (B.1 4 0)), (1, .int x1), (2, .int x2), (4, .int x4), (5, .int x5)] dX10_fares_103 (by decide) rfl ?_
      refine k_sub [2, 3, 4, 0, 5] rfl ?_
      exact k_X10_fares_b104 C E hrec39 T x1 x2 y11 x4 h
set_option maxHeartbeats 4000000 in
set_option maxRecDepth 100000 in
theorem k_X10_fares_b57 {B : KB} {X : KE} {rec39 : TT → Int32 → Int32 → Int32 → Int32 → Option (Int32 × TT)} {res : Int32 × TT} (C : Cx B X "GriefEngine" cX10_fares 7 6) (E : Cr B X (some .int) (some (.int res.1)) res.2) (hrec39 : ∀ (T : TT) (x1 : Int32) (x2 : Int32) (x3 : Int32) (x4 : Int32), rec39 T x1 x2 x3 x4 = some res → Wk B X 7 T 39 [(0, .ref (B.1 4 0)), (1, .int x1), (2, .int x2), (3, .int x3), (4, .int x4)] []) (T : TT) (x1 : Int32) (x2 : Int32) (x3 : Int32) (x4 : Int32) (s0 : Int32) (h : m_X10_fares_b57 rec39 T x1 x2 x3 x4 s0 = some res) : Wk B X 7 T 57 [(0, .ref (B.1 4 0)), (1, .int x1), (2, .int x2), (3, .int x3), (4, .int x4)] [.int s0] := by
  unfold m_X10_fares_b57 at h
  refine k_istore (pc := 57) C [(5, .int s0), (0, .ref (B.1 4 0)), (1, .int x1), (2, .int x2), (3, .int x3), (4, .int x4)] dX10_fares_57 (by decide) rfl ?_
  refine k_iload (pc := 59) C dX10_fares_59 5 rfl ?_
  refine k_iconst (pc := 61) (v := (2 : Int32)) C dX10_fares_61 ciconst_2 ?_
  refine k_iand (pc := 62) C dX10_fares_62 ?_
  refine k_if_eq (pc := 63) C 70 dX10_fares_63 (by decide) h (fun c8 h => ?_) (fun c8 h => ?_)
  · refine k_iconst (pc := 70) (v := (0 : Int32)) C dX10_fares_70 ciconst_0 ?_
    refine k_sub [1, 2, 3, 4, 5, 0] rfl ?_
    exact k_X10_fares_b71 C E hrec39 T x1 x2 x3 x4 s0 (0 : Int32) h
  · refine k_iconst (pc := 66) (v := (1 : Int32)) C dX10_fares_66 ciconst_1 ?_
    refine k_goto (pc := 67) C 71 dX10_fares_67 (by decide) ?_
    refine k_sub [1, 2, 3, 4, 5, 0] rfl ?_
    exact k_X10_fares_b71 C E hrec39 T x1 x2 x3 x4 s0 (1 : Int32) h
set_option maxHeartbeats 4000000 in
set_option maxRecDepth 100000 in
theorem k_X10_fares_h39 {B : KB} {X : KE} {rec39 : TT → Int32 → Int32 → Int32 → Int32 → Option (Int32 × TT)} {res : Int32 × TT} (C : Cx B X "GriefEngine" cX10_fares 7 6) (E : Cr B X (some .int) (some (.int res.1)) res.2) (hrec39 : ∀ (T : TT) (x1 : Int32) (x2 : Int32) (x3 : Int32) (x4 : Int32), rec39 T x1 x2 x3 x4 = some res → Wk B X 7 T 39 [(0, .ref (B.1 4 0)), (1, .int x1), (2, .int x2), (3, .int x3), (4, .int x4)] []) (T : TT) (x1 : Int32) (x2 : Int32) (x3 : Int32) (x4 : Int32) (h : m_X10_fares_h39 rec39 T x1 x2 x3 x4 = some res) : Wk B X 7 T 39 [(0, .ref (B.1 4 0)), (1, .int x1), (2, .int x2), (3, .int x3), (4, .int x4)] [] := by
  unfold m_X10_fares_h39 at h
  refine k_iload (pc := 39) C dX10_fares_39 4 rfl ?_
  refine k_iconst (pc := 41) (v := (4 : Int32)) C dX10_fares_41 ciconst_4 ?_
  refine k_icmp_ge (pc := 42) C 110 dX10_fares_42 (by decide) h (fun c7 h => ?_) (fun c7 h => ?_)
  · refine k_iload_n (pc := 110) C dX10_fares_110 3 rfl ?_
    exact k_iret (pc := 111) C E (some_1 h) (some_2 h) dX10_fares_111
  · refine k_iload (pc := 45) C dX10_fares_45 4 rfl ?_
    refine k_iconst (pc := 47) (v := (1 : Int32)) C dX10_fares_47 ciconst_1 ?_
    refine k_iand (pc := 48) C dX10_fares_48 ?_
    refine k_if_eq (pc := 49) C 56 dX10_fares_49 (by decide) h (fun c6 h => ?_) (fun c6 h => ?_)
    · refine k_iconst (pc := 56) (v := (0 : Int32)) C dX10_fares_56 ciconst_0 ?_
      refine k_sub [0, 1, 2, 3, 4] rfl ?_
      exact k_X10_fares_b57 C E hrec39 T x1 x2 x3 x4 (0 : Int32) h
    · refine k_iconst (pc := 52) (v := (1 : Int32)) C dX10_fares_52 ciconst_1 ?_
      refine k_goto (pc := 53) C 57 dX10_fares_53 (by decide) ?_
      refine k_sub [0, 1, 2, 3, 4] rfl ?_
      exact k_X10_fares_b57 C E hrec39 T x1 x2 x3 x4 (1 : Int32) h
set_option maxHeartbeats 4000000 in
set_option maxRecDepth 100000 in
theorem k_X10_fares_l39 {B : KB} {X : KE} {res : Int32 × TT} (C : Cx B X "GriefEngine" cX10_fares 7 6) (E : Cr B X (some .int) (some (.int res.1)) res.2) : ∀ (n : Nat) (T : TT) (x1 : Int32) (x2 : Int32) (x3 : Int32) (x4 : Int32) (h : m_X10_fares_l39 n T x1 x2 x3 x4 = some res), Wk B X 7 T 39 [(0, .ref (B.1 4 0)), (1, .int x1), (2, .int x2), (3, .int x3), (4, .int x4)] [] := by
  intro n
  induction n with
  | zero =>
    intro T x1 x2 x3 x4 h
    exact no_some h
  | succ n ih =>
    intro T x1 x2 x3 x4 h
    exact k_X10_fares_h39 C E (fun T x1 x2 x3 x4 h => ih T x1 x2 x3 x4 h) T x1 x2 x3 x4 h
set_option maxHeartbeats 4000000 in
set_option maxRecDepth 100000 in
theorem k_X10_fares_b27 {B : KB} {X : KE} {res : Int32 × TT} (C : Cx B X "GriefEngine" cX10_fares 7 6) (E : Cr B X (some .int) (some (.int res.1)) res.2) (T : TT) (h : m_X10_fares_b27 T = some res) : Wk B X 7 T 27 [(0, .ref (B.1 4 0))] [] := by
  unfold m_X10_fares_b27 at h
  refine k_aload_n (pc := 27) C dX10_fares_27 0 rfl ?_
  refine k_bipush (pc := 28) (v := (-2 : Int32)) C dX10_fares_28 cbipush_m2 ?_
  obtain ⟨z15, e15, h⟩ := bnd h
  refine k_callvI (pc := 30) C lk_X10_73 (by decide) ix_X10 wo_X10 rfl rfl (kc_X10_refuse e15) dX10_fares_30 rfl rfl (Nat.le_of_ble_eq_true rfl) ?_
  exact k_iret (pc := 33) C E (some_1 h) (some_2 h) dX10_fares_33
set_option maxHeartbeats 4000000 in
set_option maxRecDepth 100000 in
theorem kc_X10_fares {B : KB} {l : Launch} {T : TT} {x1 : Int32} {x2 : Int32} {res : Int32 × TT} (h : m_X10_fares T x1 x2 = some res) : Kt B l 6 yX10_fares cX10_fares 7 (some .int) T [.ref (B.1 4 0), .int x1, .int x2] (some (.int res.1)) res.2 := by
  refine Kt.of (by decide) (Nat.le_of_ble_eq_true rfl) (fun X hX C E => ?_)
  subst hX
  have C : Cx B X "GriefEngine" cX10_fares 7 6 := C
  show Wk B X 7 T 0 [(0, .ref (B.1 4 0)), (1, .int x1), (2, .int x2)] []
  unfold m_X10_fares at h
  refine k_aload_n (pc := 0) C dX10_fares_0 0 rfl ?_
  refine gf_X10_12 (pc := 1) C dX10_fares_1 ?_
  refine k_iload_n (pc := 4) C dX10_fares_4 1 rfl ?_
  obtain ⟨z1, e1, h⟩ := bnd h
  refine k_callvI (pc := 5) C lk_X10_132 (by decide) (ix_X4 lt4_0) (wo_X4 lt4_0) rfl rfl (kc_X4_has lt4_0 e1) dX10_fares_5 rfl rfl (Nat.le_of_ble_eq_true rfl) ?_
  refine k_if_eq (pc := 8) C 27 dX10_fares_8 (by decide) h (fun c5 h => ?_) (fun c5 h => ?_)
  · refine k_sub [0] rfl ?_
    exact k_X10_fares_b27 C E T h
  · refine k_aload_n (pc := 11) C dX10_fares_11 0 rfl ?_
    refine gf_X10_12 (pc := 12) C dX10_fares_12 ?_
    refine k_iload_n (pc := 15) C dX10_fares_15 2 rfl ?_
    obtain ⟨z2, e2, h⟩ := bnd h
    refine k_callvI (pc := 16) C lk_X10_132 (by decide) (ix_X4 lt4_0) (wo_X4 lt4_0) rfl rfl (kc_X4_has lt4_0 e2) dX10_fares_16 rfl rfl (Nat.le_of_ble_eq_true rfl) ?_
    refine k_if_eq (pc := 19) C 27 dX10_fares_19 (by decide) h (fun c4 h => ?_) (fun c4 h => ?_)
    · refine k_sub [0] rfl ?_
      exact k_X10_fares_b27 C E T h
    · refine k_iload_n (pc := 22) C dX10_fares_22 1 rfl ?_
      refine k_iload_n (pc := 23) C dX10_fares_23 2 rfl ?_
      refine k_icmp_ne (pc := 24) C 34 dX10_fares_24 (by decide) h (fun c3 h => ?_) (fun c3 h => ?_)
      · refine k_iconst (pc := 34) (v := (0 : Int32)) C dX10_fares_34 ciconst_0 ?_
        refine k_istore_n (pc := 35) C [(3, .int (0 : Int32)), (0, .ref (B.1 4 0)), (1, .int x1), (2, .int x2)] dX10_fares_35 (by decide) rfl ?_
        refine k_iconst (pc := 36) (v := (0 : Int32)) C dX10_fares_36 ciconst_0 ?_
        refine k_istore (pc := 37) C [(4, .int (0 : Int32)), (3, .int (0 : Int32)), (0, .ref (B.1 4 0)), (1, .int x1), (2, .int x2)] dX10_fares_37 (by decide) rfl ?_
        refine k_sub [2, 3, 4, 1, 0] rfl ?_
        exact k_X10_fares_l39 C E FU T x1 x2 (0 : Int32) (0 : Int32) h
      · refine k_sub [0] rfl ?_
        exact k_X10_fares_b27 C E T h
def m_X10_tenTo_h4 (rec4 : Int32 → Int64 → Int32 → Option (Int64)) (x0 : Int32) (x1 : Int64) (x3 : Int32) : Option (Int64) := if x0 ≤ x3 then (some x1) else (if (6 : Int32) ≤ x3 then (some x1) else (bT (x1 * (10 : Int64)) (fun y1 => bT (x3 + (1 : Int32)) (fun y2 => rec4 x0 y1 y2))))
def m_X10_tenTo_l4 : Nat → Int32 → Int64 → Int32 → Option (Int64)
  | 0 => fun _ _ _ => none
  | n + 1 => fun x0 x1 x3 => m_X10_tenTo_h4 (m_X10_tenTo_l4 n) x0 x1 x3
def m_X10_tenTo (x0 : Int32) : Option (Int64) := m_X10_tenTo_l4 FU x0 (1 : Int64) (0 : Int32)
set_option maxHeartbeats 4000000 in
set_option maxRecDepth 100000 in
theorem k_X10_tenTo_h4 {B : KB} {X : KE} {rec4 : Int32 → Int64 → Int32 → Option (Int64)} {T0 : TT} {res : Int64} (C : Cx B X "GriefEngine" cX10_tenTo 4 1) (E : Cr B X (some .long) (some (.long res)) T0) (hrec4 : ∀ (x0 : Int32) (x1 : Int64) (x3 : Int32), rec4 x0 x1 x3 = some res → Wk B X 4 T0 4 [(0, .int x0), (1, .long x1), (3, .int x3)] []) (x0 : Int32) (x1 : Int64) (x3 : Int32) (h : m_X10_tenTo_h4 rec4 x0 x1 x3 = some res) : Wk B X 4 T0 4 [(0, .int x0), (1, .long x1), (3, .int x3)] [] := by
  unfold m_X10_tenTo_h4 at h
  refine k_iload_n (pc := 4) C dX10_tenTo_4 2 rfl ?_
  refine k_iload_n (pc := 5) C dX10_tenTo_5 0 rfl ?_
  refine k_icmp_ge (pc := 6) C 27 dX10_tenTo_6 (by decide) h (fun c4 h => ?_) (fun c4 h => ?_)
  · refine k_lload_n (pc := 27) C dX10_tenTo_27 1 rfl ?_
    exact k_lret (pc := 28) C E (some_i h) rfl dX10_tenTo_28
  · refine k_iload_n (pc := 9) C dX10_tenTo_9 2 rfl ?_
    refine k_bipush (pc := 10) (v := (6 : Int32)) C dX10_tenTo_10 cbipush_6 ?_
    refine k_icmp_ge (pc := 12) C 27 dX10_tenTo_12 (by decide) h (fun c3 h => ?_) (fun c3 h => ?_)
    · refine k_lload_n (pc := 27) C dX10_tenTo_27 1 rfl ?_
      exact k_lret (pc := 28) C E (some_i h) rfl dX10_tenTo_28
    · refine k_lload_n (pc := 15) C dX10_tenTo_15 1 rfl ?_
      refine k_ldc2_w (pc := 16) (v := (10 : Int64)) C dX10_tenTo_16 tw4_2 ?_
      refine k_lmul (pc := 19) C dX10_tenTo_19 ?_
      refine k_nL h (fun y1 h => ?_)
      refine k_lstore_n (pc := 20) C [(1, .long y1), (0, .int x0), (3, .int x3)] dX10_tenTo_20 (by decide) rfl ?_
      refine k_iincN (pc := 21) (x := x3) (c := (1 : Int32)) C (fun y2 => [(3, .int y2), (1, .long y1), (0, .int x0)]) dX10_tenTo_21 2 rfl ciconst_1 (by decide) (fun _ => rfl) h (fun y2 h => ?_)
      refine k_goto (pc := 24) C 4 dX10_tenTo_24 (by decide) ?_
      refine k_sub [2, 1, 0] rfl ?_
      exact hrec4 x0 y1 y2 h
set_option maxHeartbeats 4000000 in
set_option maxRecDepth 100000 in
theorem k_X10_tenTo_l4 {B : KB} {X : KE} {T0 : TT} {res : Int64} (C : Cx B X "GriefEngine" cX10_tenTo 4 1) (E : Cr B X (some .long) (some (.long res)) T0) : ∀ (n : Nat) (x0 : Int32) (x1 : Int64) (x3 : Int32) (h : m_X10_tenTo_l4 n x0 x1 x3 = some res), Wk B X 4 T0 4 [(0, .int x0), (1, .long x1), (3, .int x3)] [] := by
  intro n
  induction n with
  | zero =>
    intro x0 x1 x3 h
    exact no_some h
  | succ n ih =>
    intro x0 x1 x3 h
    exact k_X10_tenTo_h4 C E (fun x0 x1 x3 h => ih x0 x1 x3 h) x0 x1 x3 h
set_option maxHeartbeats 4000000 in
set_option maxRecDepth 100000 in
theorem kc_X10_tenTo {B : KB} {l : Launch} {T : TT} {x0 : Int32} {res : Int64} (h : m_X10_tenTo x0 = some res) : Kt B l 1 yX10_tenTo cX10_tenTo 4 (some .long) T [.int x0] (some (.long res)) T := by
  refine Kt.of (by decide) (Nat.le_of_ble_eq_true rfl) (fun X hX C E => ?_)
  subst hX
  have C : Cx B X "GriefEngine" cX10_tenTo 4 1 := C
  show Wk B X 4 T 0 [(0, .int x0)] []
  unfold m_X10_tenTo at h
  refine k_lconst (pc := 0) (v := (1 : Int64)) C dX10_tenTo_0 (by decide) ?_
  refine k_lstore_n (pc := 1) C [(1, .long (1 : Int64)), (0, .int x0)] dX10_tenTo_1 (by decide) rfl ?_
  refine k_iconst (pc := 2) (v := (0 : Int32)) C dX10_tenTo_2 ciconst_0 ?_
  refine k_istore_n (pc := 3) C [(3, .int (0 : Int32)), (1, .long (1 : Int64)), (0, .int x0)] dX10_tenTo_3 (by decide) rfl ?_
  refine k_sub [2, 1, 0] rfl ?_
  exact k_X10_tenTo_l4 C E FU x0 (1 : Int64) (0 : Int32) h
def m_X10_tenfoldMean_e (self : (Nat × Nat) → Int32 → Int32 → Int32 → Int32 → Option (Int64)) (h0 : Nat × Nat) (x1 : Int32) (x2 : Int32) (x3 : Int32) (x4 : Int32) : Option (Int64) := if x3 ≤ 0 then (some (0 : Int64)) else (if x3 ≤ (6 : Int32) then ((m_X10_seasonOf x1).bind (fun z1 => (v_runs h0 z1 x2).bind (fun z2 => (m_X10_tenTo (x3 - (1 : Int32))).bind (fun z3 => bT ((z2.toInt64) * z3) (fun y4 => (v_left h0 (0 : Int32) x2).bind (fun z5 => (self h0 (x1 + (1 : Int32)) z5 (x3 - (1 : Int32)) x4).bind (fun z6 => (v_left h0 (2 : Int32) x2).bind (fun z7 => (self h0 (x1 + (1 : Int32)) z7 (x3 - (1 : Int32)) x4).bind (fun z8 => some (((((10 : Int32) - x4).toInt64) * (y4 + z6)) + ((x4.toInt64) * z8))))))))))) else (some (0 : Int64)))
def m_X10_tenfoldMean : Nat → (Nat × Nat) → Int32 → Int32 → Int32 → Int32 → Option (Int64)
  | 0 => fun _ _ _ _ _ => none
  | n + 1 => fun h0 x1 x2 x3 x4 => m_X10_tenfoldMean_e (m_X10_tenfoldMean n) h0 x1 x2 x3 x4
set_option maxHeartbeats 4000000 in
set_option maxRecDepth 100000 in
theorem kc0_X10_tenfoldMean {B : KB} {l : Launch} : ∀ (n : Nat) {T : TT} {h0 : Nat × Nat} {x1 : Int32} {x2 : Int32} {x3 : Int32} {x4 : Int32} {res : Int64}, kok h0.1 h0.2 → m_X10_tenfoldMean n h0 x1 x2 x3 x4 = some res → Kt B l (4 + n) yX10_tenfoldMean cX10_tenfoldMean 11 (some .long) T [.ref (B.1 h0.1 h0.2), .int x1, .int x2, .int x3, .int x4] (some (.long res)) T := by
  intro n
  induction n with
  | zero =>
    intro T h0 x1 x2 x3 x4 res hk0 h
    exact no_some h
  | succ n ih =>
    intro T h0 x1 x2 x3 x4 res hk0 h
    refine Kt.of (by decide) (Nat.le_of_ble_eq_true rfl) (fun X hX C E => ?_)
    subst hX
    generalize hdd : 4 + (n + 1) = d at C
    have C : Cx B X "GriefEngine" cX10_tenfoldMean 11 d := C
    have hdS : 4 + n < d ∧ 4 ≤ d := by omega
    have hself := @ih
    skip
    show Wk B X 11 T 0 [(0, .ref (B.1 h0.1 h0.2)), (1, .int x1), (2, .int x2), (3, .int x3), (4, .int x4)] []
    have h : m_X10_tenfoldMean_e (m_X10_tenfoldMean n) h0 x1 x2 x3 x4 = some res := h
    unfold m_X10_tenfoldMean_e at h
    refine k_iload_n (pc := 0) C dX10_tenfoldMean_0 3 rfl ?_
    refine k_if_le (pc := 1) C 10 dX10_tenfoldMean_1 (by decide) h (fun c10 h => ?_) (fun c10 h => ?_)
    · refine k_lconst (pc := 10) (v := (0 : Int64)) C dX10_tenfoldMean_10 (by decide) ?_
      exact k_lret (pc := 11) C E (some_i h) rfl dX10_tenfoldMean_11
    · refine k_iload_n (pc := 4) C dX10_tenfoldMean_4 3 rfl ?_
      refine k_bipush (pc := 5) (v := (6 : Int32)) C dX10_tenfoldMean_5 cbipush_6 ?_
      refine k_icmp_le (pc := 7) C 12 dX10_tenfoldMean_7 (by decide) h (fun c9 h => ?_) (fun c9 h => ?_)
      · refine k_aload_n (pc := 12) C dX10_tenfoldMean_12 0 rfl ?_
        refine k_iload_n (pc := 13) C dX10_tenfoldMean_13 1 rfl ?_
        obtain ⟨z1, e1, h⟩ := bnd h
        refine k_callsI (pc := 14) C lk_X10_157 (by omega) (kc_X10_seasonOf e1) dX10_tenfoldMean_14 rfl rfl (Nat.le_of_ble_eq_true rfl) ?_
        refine k_iload_n (pc := 17) C dX10_tenfoldMean_17 2 rfl ?_
        obtain ⟨z2, e2, h⟩ := bnd h
        refine kv_runs (pc := 18) C lk_X10_160 (by omega) hk0 e2 dX10_tenfoldMean_18 (Nat.le_of_ble_eq_true rfl) ?_
        refine k_i2l (pc := 21) C dX10_tenfoldMean_21 ?_
        refine k_iload_n (pc := 22) C dX10_tenfoldMean_22 3 rfl ?_
        refine k_iconst (pc := 23) (v := (1 : Int32)) C dX10_tenfoldMean_23 ciconst_1 ?_
        refine k_isub (pc := 24) C dX10_tenfoldMean_24 ?_
        obtain ⟨z3, e3, h⟩ := bnd h
        refine k_callsJ (pc := 25) C lk_X10_227 (by omega) (kc_X10_tenTo e3) dX10_tenfoldMean_25 rfl rfl (Nat.le_of_ble_eq_true rfl) ?_
        refine k_lmul (pc := 28) C dX10_tenfoldMean_28 ?_
        refine k_nL h (fun y4 h => ?_)
        refine k_lstore (pc := 29) C [(5, .long y4), (0, .ref (B.1 h0.1 h0.2)), (1, .int x1), (2, .int x2), (3, .int x3), (4, .int x4)] dX10_tenfoldMean_29 (by decide) rfl ?_
        refine k_aload_n (pc := 31) C dX10_tenfoldMean_31 1 rfl ?_
        refine k_iload_n (pc := 32) C dX10_tenfoldMean_32 2 rfl ?_
        refine k_iconst (pc := 33) (v := (1 : Int32)) C dX10_tenfoldMean_33 ciconst_1 ?_
        refine k_iadd (pc := 34) C dX10_tenfoldMean_34 ?_
        refine k_aload_n (pc := 35) C dX10_tenfoldMean_35 1 rfl ?_
        refine k_iconst (pc := 36) (v := (0 : Int32)) C dX10_tenfoldMean_36 ciconst_0 ?_
        refine k_iload_n (pc := 37) C dX10_tenfoldMean_37 3 rfl ?_
        obtain ⟨z5, e5, h⟩ := bnd h
        refine kv_left (pc := 38) C lk_X10_165 (by omega) hk0 e5 dX10_tenfoldMean_38 (Nat.le_of_ble_eq_true rfl) ?_
        refine k_iload_n (pc := 41) C dX10_tenfoldMean_41 4 rfl ?_
        refine k_iconst (pc := 42) (v := (1 : Int32)) C dX10_tenfoldMean_42 ciconst_1 ?_
        refine k_isub (pc := 43) C dX10_tenfoldMean_43 ?_
        refine k_iload (pc := 44) C dX10_tenfoldMean_44 5 rfl ?_
        obtain ⟨z6, e6, h⟩ := bnd h
        refine k_callsJ (pc := 46) C lk_X10_223 (by omega) (hself hk0 e6) dX10_tenfoldMean_46 rfl rfl (Nat.le_of_ble_eq_true rfl) ?_
        refine k_lstore (pc := 49) C [(7, .long z6), (5, .long y4), (0, .ref (B.1 h0.1 h0.2)), (1, .int x1), (2, .int x2), (3, .int x3), (4, .int x4)] dX10_tenfoldMean_49 (by decide) rfl ?_
        refine k_aload_n (pc := 51) C dX10_tenfoldMean_51 2 rfl ?_
        refine k_iload_n (pc := 52) C dX10_tenfoldMean_52 3 rfl ?_
        refine k_iconst (pc := 53) (v := (1 : Int32)) C dX10_tenfoldMean_53 ciconst_1 ?_
        refine k_iadd (pc := 54) C dX10_tenfoldMean_54 ?_
        refine k_aload_n (pc := 55) C dX10_tenfoldMean_55 2 rfl ?_
        refine k_iconst (pc := 56) (v := (2 : Int32)) C dX10_tenfoldMean_56 ciconst_2 ?_
        refine k_iload_n (pc := 57) C dX10_tenfoldMean_57 4 rfl ?_
        obtain ⟨z7, e7, h⟩ := bnd h
        refine kv_left (pc := 58) C lk_X10_165 (by omega) hk0 e7 dX10_tenfoldMean_58 (Nat.le_of_ble_eq_true rfl) ?_
        refine k_iload_n (pc := 61) C dX10_tenfoldMean_61 5 rfl ?_
        refine k_iconst (pc := 62) (v := (1 : Int32)) C dX10_tenfoldMean_62 ciconst_1 ?_
        refine k_isub (pc := 63) C dX10_tenfoldMean_63 ?_
        refine k_iload (pc := 64) C dX10_tenfoldMean_64 6 rfl ?_
        obtain ⟨z8, e8, h⟩ := bnd h
        refine k_callsJ (pc := 66) C lk_X10_223 (by omega) (hself hk0 e8) dX10_tenfoldMean_66 rfl rfl (Nat.le_of_ble_eq_true rfl) ?_
        refine k_lstore (pc := 69) C [(9, .long z8), (7, .long z6), (5, .long y4), (0, .ref (B.1 h0.1 h0.2)), (1, .int x1), (2, .int x2), (3, .int x3), (4, .int x4)] dX10_tenfoldMean_69 (by decide) rfl ?_
        refine k_bipush (pc := 71) (v := (10 : Int32)) C dX10_tenfoldMean_71 cbipush_10 ?_
        refine k_iload (pc := 73) C dX10_tenfoldMean_73 7 rfl ?_
        refine k_isub (pc := 75) C dX10_tenfoldMean_75 ?_
        refine k_i2l (pc := 76) C dX10_tenfoldMean_76 ?_
        refine k_lload (pc := 77) C dX10_tenfoldMean_77 2 rfl ?_
        refine k_lload (pc := 79) C dX10_tenfoldMean_79 1 rfl ?_
        refine k_ladd (pc := 81) C dX10_tenfoldMean_81 ?_
        refine k_lmul (pc := 82) C dX10_tenfoldMean_82 ?_
        refine k_iload (pc := 83) C dX10_tenfoldMean_83 7 rfl ?_
        refine k_i2l (pc := 85) C dX10_tenfoldMean_85 ?_
        refine k_lload (pc := 86) C dX10_tenfoldMean_86 0 rfl ?_
        refine k_lmul (pc := 88) C dX10_tenfoldMean_88 ?_
        refine k_ladd (pc := 89) C dX10_tenfoldMean_89 ?_
        exact k_lret (pc := 90) C E (some_i h) rfl dX10_tenfoldMean_90
      · refine k_lconst (pc := 10) (v := (0 : Int64)) C dX10_tenfoldMean_10 (by decide) ?_
        exact k_lret (pc := 11) C E (some_i h) rfl dX10_tenfoldMean_11
set_option maxHeartbeats 4000000 in
set_option maxRecDepth 100000 in
theorem kc_X10_tenfoldMean {B : KB} {l : Launch} {T : TT} {h0 : Nat × Nat} {x1 : Int32} {x2 : Int32} {x3 : Int32} {x4 : Int32} {res : Int64} (hk0 : kok h0.1 h0.2) (h : m_X10_tenfoldMean 12 h0 x1 x2 x3 x4 = some res) : Kt B l 16 yX10_tenfoldMean cX10_tenfoldMean 11 (some .long) T [.ref (B.1 h0.1 h0.2), .int x1, .int x2, .int x3, .int x4] (some (.long res)) T := kc0_X10_tenfoldMean 12 hk0 h
def m_X10_commonDivisor_h3 (rec3 : Int64 → Int64 → Int32 → Option (Int64)) (x0 : Int64) (x2 : Int64) (x4 : Int32) : Option (Int64) := if (200 : Int32) ≤ x4 then (some x0) else (if (lg_cmp x2 (0 : Int64)) = 0 then (some x0) else (if x2 = 0 then none else (bT (x0 - x0 / x2 * x2) (fun y1 => bT (x4 + (1 : Int32)) (fun y2 => rec3 x2 y1 y2)))))
def m_X10_commonDivisor_l3 : Nat → Int64 → Int64 → Int32 → Option (Int64)
  | 0 => fun _ _ _ => none
  | n + 1 => fun x0 x2 x4 => m_X10_commonDivisor_h3 (m_X10_commonDivisor_l3 n) x0 x2 x4
def m_X10_commonDivisor (x0 : Int64) (x2 : Int64) : Option (Int64) := m_X10_commonDivisor_l3 FU x0 x2 (0 : Int32)
set_option maxHeartbeats 4000000 in
set_option maxRecDepth 100000 in
theorem k_X10_commonDivisor_h3 {B : KB} {X : KE} {rec3 : Int64 → Int64 → Int32 → Option (Int64)} {T0 : TT} {res : Int64} (C : Cx B X "GriefEngine" cX10_commonDivisor 7 1) (E : Cr B X (some .long) (some (.long res)) T0) (hrec3 : ∀ (x0 : Int64) (x2 : Int64) (x4 : Int32), rec3 x0 x2 x4 = some res → Wk B X 7 T0 3 [(0, .long x0), (2, .long x2), (4, .int x4)] []) (x0 : Int64) (x2 : Int64) (x4 : Int32) (h : m_X10_commonDivisor_h3 rec3 x0 x2 x4 = some res) : Wk B X 7 T0 3 [(0, .long x0), (2, .long x2), (4, .int x4)] [] := by
  unfold m_X10_commonDivisor_h3 at h
  refine k_iload (pc := 3) C dX10_commonDivisor_3 2 rfl ?_
  refine k_sipush (pc := 5) (v := (200 : Int32)) C dX10_commonDivisor_5 csipush_200 ?_
  refine k_icmp_ge (pc := 8) C 33 dX10_commonDivisor_8 (by decide) h (fun c4 h => ?_) (fun c4 h => ?_)
  · refine k_lload_n (pc := 33) C dX10_commonDivisor_33 0 rfl ?_
    exact k_lret (pc := 34) C E (some_i h) rfl dX10_commonDivisor_34
  · refine k_lload_n (pc := 11) C dX10_commonDivisor_11 1 rfl ?_
    refine k_lconst (pc := 12) (v := (0 : Int64)) C dX10_commonDivisor_12 (by decide) ?_
    refine k_lcmp (pc := 13) C dX10_commonDivisor_13 ?_
    refine k_if_eq (pc := 14) C 33 dX10_commonDivisor_14 (by decide) h (fun c3 h => ?_) (fun c3 h => ?_)
    · refine k_lload_n (pc := 33) C dX10_commonDivisor_33 0 rfl ?_
      exact k_lret (pc := 34) C E (some_i h) rfl dX10_commonDivisor_34
    · refine k_lload_n (pc := 17) C dX10_commonDivisor_17 0 rfl ?_
      refine k_lload_n (pc := 18) C dX10_commonDivisor_18 1 rfl ?_
      refine k_lrem (pc := 19) C dX10_commonDivisor_19 h (fun h => ?_)
      refine k_nL h (fun y1 h => ?_)
      refine k_lstore (pc := 20) C [(5, .long y1), (0, .long x0), (2, .long x2), (4, .int x4)] dX10_commonDivisor_20 (by decide) rfl ?_
      refine k_lload_n (pc := 22) C dX10_commonDivisor_22 2 rfl ?_
      refine k_lstore_n (pc := 23) C [(0, .long x2), (5, .long y1), (2, .long x2), (4, .int x4)] dX10_commonDivisor_23 (by decide) rfl ?_
      refine k_lload (pc := 24) C dX10_commonDivisor_24 1 rfl ?_
      refine k_lstore_n (pc := 26) C [(2, .long y1), (0, .long x2), (5, .long y1), (4, .int x4)] dX10_commonDivisor_26 (by decide) rfl ?_
      refine k_iincN (pc := 27) (x := x4) (c := (1 : Int32)) C (fun y2 => [(4, .int y2), (2, .long y1), (0, .long x2), (5, .long y1)]) dX10_commonDivisor_27 3 rfl ciconst_1 (by decide) (fun _ => rfl) h (fun y2 h => ?_)
      refine k_goto (pc := 30) C 3 dX10_commonDivisor_30 (by decide) ?_
      refine k_sub [2, 1, 0] rfl ?_
      exact hrec3 x2 y1 y2 h
set_option maxHeartbeats 4000000 in
set_option maxRecDepth 100000 in
theorem k_X10_commonDivisor_l3 {B : KB} {X : KE} {T0 : TT} {res : Int64} (C : Cx B X "GriefEngine" cX10_commonDivisor 7 1) (E : Cr B X (some .long) (some (.long res)) T0) : ∀ (n : Nat) (x0 : Int64) (x2 : Int64) (x4 : Int32) (h : m_X10_commonDivisor_l3 n x0 x2 x4 = some res), Wk B X 7 T0 3 [(0, .long x0), (2, .long x2), (4, .int x4)] [] := by
  intro n
  induction n with
  | zero =>
    intro x0 x2 x4 h
    exact no_some h
  | succ n ih =>
    intro x0 x2 x4 h
    exact k_X10_commonDivisor_h3 C E (fun x0 x2 x4 h => ih x0 x2 x4 h) x0 x2 x4 h
set_option maxHeartbeats 4000000 in
set_option maxRecDepth 100000 in
theorem kc_X10_commonDivisor {B : KB} {l : Launch} {T : TT} {x0 : Int64} {x2 : Int64} {res : Int64} (h : m_X10_commonDivisor x0 x2 = some res) : Kt B l 1 yX10_commonDivisor cX10_commonDivisor 7 (some .long) T [.long x0, .long x2] (some (.long res)) T := by
  refine Kt.of (by decide) (Nat.le_of_ble_eq_true rfl) (fun X hX C E => ?_)
  subst hX
  have C : Cx B X "GriefEngine" cX10_commonDivisor 7 1 := C
  show Wk B X 7 T 0 [(0, .long x0), (2, .long x2)] []
  unfold m_X10_commonDivisor at h
  refine k_iconst (pc := 0) (v := (0 : Int32)) C dX10_commonDivisor_0 ciconst_0 ?_
  refine k_istore (pc := 1) C [(4, .int (0 : Int32)), (0, .long x0), (2, .long x2)] dX10_commonDivisor_1 (by decide) rfl ?_
  refine k_sub [1, 2, 0] rfl ?_
  exact k_X10_commonDivisor_l3 C E FU x0 x2 (0 : Int32) h
def m_X10_setFraction (T : TT) (x1 : Int64) (x3 : Int64) : Option (TT) := (m_X10_commonDivisor x1 x3).bind (fun z1 => if 0 < (lg_cmp z1 (0 : Int64)) then (if z1 = 0 then none else (bT (sL T 4 9 (x1 / z1)) (fun T2 => if z1 = 0 then none else (bT (sL T2 4 10 (x3 / z1)) (fun T3 => some T3))))) else (some T))
set_option maxHeartbeats 4000000 in
set_option maxRecDepth 100000 in
theorem kc_X10_setFraction {B : KB} {l : Launch} {T : TT} {x1 : Int64} {x3 : Int64} {res : TT} (h : m_X10_setFraction T x1 x3 = some res) : Kt B l 2 yX10_setFraction cX10_setFraction 7 none T [.ref (B.1 4 0), .long x1, .long x3] none res := by
  refine Kt.of (by decide) (Nat.le_of_ble_eq_true rfl) (fun X hX C E => ?_)
  subst hX
  have C : Cx B X "GriefEngine" cX10_setFraction 7 2 := C
  show Wk B X 7 T 0 [(0, .ref (B.1 4 0)), (1, .long x1), (3, .long x3)] []
  unfold m_X10_setFraction at h
  refine k_lload_n (pc := 0) C dX10_setFraction_0 1 rfl ?_
  refine k_lload_n (pc := 1) C dX10_setFraction_1 2 rfl ?_
  obtain ⟨z1, e1, h⟩ := bnd h
  refine k_callsJ (pc := 2) C lk_X10_289 (by decide) (kc_X10_commonDivisor e1) dX10_setFraction_2 rfl rfl (Nat.le_of_ble_eq_true rfl) ?_
  refine k_lstore (pc := 5) C [(5, .long z1), (0, .ref (B.1 4 0)), (1, .long x1), (3, .long x3)] dX10_setFraction_5 (by decide) rfl ?_
  refine k_lload (pc := 7) C dX10_setFraction_7 0 rfl ?_
  refine k_lconst (pc := 9) (v := (0 : Int64)) C dX10_setFraction_9 (by decide) ?_
  refine k_lcmp (pc := 10) C dX10_setFraction_10 ?_
  refine k_if_gt (pc := 11) C 15 dX10_setFraction_11 (by decide) h (fun c4 h => ?_) (fun c4 h => ?_)
  · refine k_aload_n (pc := 15) C dX10_setFraction_15 1 rfl ?_
    refine k_lload_n (pc := 16) C dX10_setFraction_16 2 rfl ?_
    refine k_lload (pc := 17) C dX10_setFraction_17 0 rfl ?_
    refine k_ldiv (pc := 19) C dX10_setFraction_19 h (fun h => ?_)
    refine pf_X10_55 (pc := 20) C dX10_setFraction_20 ?_
    refine k_nT h (fun T2 h => ?_)
    refine k_aload_n (pc := 23) C dX10_setFraction_23 1 rfl ?_
    refine k_lload_n (pc := 24) C dX10_setFraction_24 3 rfl ?_
    refine k_lload (pc := 25) C dX10_setFraction_25 0 rfl ?_
    refine k_ldiv (pc := 27) C dX10_setFraction_27 h (fun h => ?_)
    refine pf_X10_59 (pc := 28) C dX10_setFraction_28 ?_
    refine k_nT h (fun T3 h => ?_)
    exact k_vret (pc := 31) C E (some_i h) dX10_setFraction_31
  · exact k_vret (pc := 14) C E (some_i h) dX10_setFraction_14
def m_X10_starts_b31 (T : TT) : Option (Int32 × TT) := (m_X10_refuse T (-2 : Int32)).bind (fun z11 => some (z11.1, z11.2))
def m_X10_starts (T : TT) (x1 : Int32) (x2 : Int32) (x3 : Int32) : Option (Int32 × TT) := (m_X4_has T 0 x1).bind (fun z1 => if z1 = 0 then (m_X10_starts_b31 T) else ((m_X10_within x2 (0 : Int32) (6 : Int32)).bind (fun z2 => if z2 = 0 then (m_X10_starts_b31 T) else ((m_X10_within x3 (0 : Int32) (10 : Int32)).bind (fun z3 => if z3 = 0 then (m_X10_starts_b31 T) else ((m_X4_kindOf T 0 x1).bind (fun z4 => if inb x1 6 then ((m_X10_tenfoldMean 12 z4 (T.2.1 0 8) (T.1 0 3 (Int32.toNatClampNeg x1)) x2 x3).bind (fun z5 => (m_X10_tenTo x2).bind (fun z6 => (m_X10_setFraction T z5 z6).bind (fun z7 => some ((1 : Int32), z7))))) else none)))))))
set_option maxHeartbeats 4000000 in
set_option maxRecDepth 100000 in
theorem k_X10_starts_b31 {B : KB} {X : KE} {res : Int32 × TT} (C : Cx B X "GriefEngine" cX10_starts 6 17) (E : Cr B X (some .int) (some (.int res.1)) res.2) (T : TT) (h : m_X10_starts_b31 T = some res) : Wk B X 6 T 31 [(0, .ref (B.1 4 0))] [] := by
  unfold m_X10_starts_b31 at h
  refine k_aload_n (pc := 31) C dX10_starts_31 0 rfl ?_
  refine k_bipush (pc := 32) (v := (-2 : Int32)) C dX10_starts_32 cbipush_m2 ?_
  obtain ⟨z11, e11, h⟩ := bnd h
  refine k_callvI (pc := 34) C lk_X10_73 (by decide) ix_X10 wo_X10 rfl rfl (kc_X10_refuse e11) dX10_starts_34 rfl rfl (Nat.le_of_ble_eq_true rfl) ?_
  exact k_iret (pc := 37) C E (some_1 h) (some_2 h) dX10_starts_37
set_option maxHeartbeats 4000000 in
set_option maxRecDepth 100000 in
theorem kc_X10_starts {B : KB} {l : Launch} {T : TT} {x1 : Int32} {x2 : Int32} {x3 : Int32} {res : Int32 × TT} (h : m_X10_starts T x1 x2 x3 = some res) : Kt B l 17 yX10_starts cX10_starts 6 (some .int) T [.ref (B.1 4 0), .int x1, .int x2, .int x3] (some (.int res.1)) res.2 := by
  refine Kt.of (by decide) (Nat.le_of_ble_eq_true rfl) (fun X hX C E => ?_)
  subst hX
  have C : Cx B X "GriefEngine" cX10_starts 6 17 := C
  show Wk B X 6 T 0 [(0, .ref (B.1 4 0)), (1, .int x1), (2, .int x2), (3, .int x3)] []
  unfold m_X10_starts at h
  refine k_aload_n (pc := 0) C dX10_starts_0 0 rfl ?_
  refine gf_X10_12 (pc := 1) C dX10_starts_1 ?_
  refine k_iload_n (pc := 4) C dX10_starts_4 1 rfl ?_
  obtain ⟨z1, e1, h⟩ := bnd h
  refine k_callvI (pc := 5) C lk_X10_132 (by decide) (ix_X4 lt4_0) (wo_X4 lt4_0) rfl rfl (kc_X4_has lt4_0 e1) dX10_starts_5 rfl rfl (Nat.le_of_ble_eq_true rfl) ?_
  refine k_if_eq (pc := 8) C 31 dX10_starts_8 (by decide) h (fun c10 h => ?_) (fun c10 h => ?_)
  · refine k_sub [0] rfl ?_
    exact k_X10_starts_b31 C E T h
  · refine k_iload_n (pc := 11) C dX10_starts_11 2 rfl ?_
    refine k_iconst (pc := 12) (v := (0 : Int32)) C dX10_starts_12 ciconst_0 ?_
    refine k_bipush (pc := 13) (v := (6 : Int32)) C dX10_starts_13 cbipush_6 ?_
    obtain ⟨z2, e2, h⟩ := bnd h
    refine k_callsI (pc := 15) C lk_X10_69 (by decide) (kc_X10_within e2) dX10_starts_15 rfl rfl (Nat.le_of_ble_eq_true rfl) ?_
    refine k_if_eq (pc := 18) C 31 dX10_starts_18 (by decide) h (fun c9 h => ?_) (fun c9 h => ?_)
    · refine k_sub [0] rfl ?_
      exact k_X10_starts_b31 C E T h
    · refine k_iload_n (pc := 21) C dX10_starts_21 3 rfl ?_
      refine k_iconst (pc := 22) (v := (0 : Int32)) C dX10_starts_22 ciconst_0 ?_
      refine k_bipush (pc := 23) (v := (10 : Int32)) C dX10_starts_23 cbipush_10 ?_
      obtain ⟨z3, e3, h⟩ := bnd h
      refine k_callsI (pc := 25) C lk_X10_69 (by decide) (kc_X10_within e3) dX10_starts_25 rfl rfl (Nat.le_of_ble_eq_true rfl) ?_
      refine k_if_ne (pc := 28) C 38 dX10_starts_28 (by decide) h (fun c8 h => ?_) (fun c8 h => ?_)
      · refine k_aload_n (pc := 38) C dX10_starts_38 0 rfl ?_
        refine gf_X10_12 (pc := 39) C dX10_starts_39 ?_
        refine k_iload_n (pc := 42) C dX10_starts_42 1 rfl ?_
        obtain ⟨z4, e4, h⟩ := bnd h
        have hz4 := kr_X4_kindOf lt4_0 e4
        refine k_callvA (pc := 43) C lk_X10_153 (by decide) (ix_X4 lt4_0) (wo_X4 lt4_0) rfl rfl (kc_X4_kindOf lt4_0 e4) dX10_starts_43 rfl rfl (Nat.le_of_ble_eq_true rfl) ?_
        refine k_aload_n (pc := 46) C dX10_starts_46 0 rfl ?_
        refine gf_X10_12 (pc := 47) C dX10_starts_47 ?_
        refine gf_X10_141 (pc := 50) C lt4_0 dX10_starts_50 ?_
        refine k_aload_n (pc := 53) C dX10_starts_53 0 rfl ?_
        refine gf_X10_12 (pc := 54) C dX10_starts_54 ?_
        refine gf_X10_147 (pc := 57) C lt4_0 dX10_starts_57 ?_
        refine k_iload_n (pc := 60) C dX10_starts_60 1 rfl ?_
        refine k_iald (pc := 61) C (ia_R3 lt4_0) dX10_starts_61 h (fun h => ?_)
        refine k_iload_n (pc := 62) C dX10_starts_62 2 rfl ?_
        refine k_iload_n (pc := 63) C dX10_starts_63 3 rfl ?_
        obtain ⟨z5, e5, h⟩ := bnd h
        refine k_callsJ (pc := 64) C lk_X10_223 (by decide) (kc_X10_tenfoldMean hz4 e5) dX10_starts_64 rfl rfl (Nat.le_of_ble_eq_true rfl) ?_
        refine k_lstore (pc := 67) C [(4, .long z5), (0, .ref (B.1 4 0)), (1, .int x1), (2, .int x2), (3, .int x3)] dX10_starts_67 (by decide) rfl ?_
        refine k_aload_n (pc := 69) C dX10_starts_69 1 rfl ?_
        refine k_lload (pc := 70) C dX10_starts_70 0 rfl ?_
        refine k_iload_n (pc := 72) C dX10_starts_72 3 rfl ?_
        obtain ⟨z6, e6, h⟩ := bnd h
        refine k_callsJ (pc := 73) C lk_X10_227 (by decide) (kc_X10_tenTo e6) dX10_starts_73 rfl rfl (Nat.le_of_ble_eq_true rfl) ?_
        obtain ⟨z7, e7, h⟩ := bnd h
        refine k_callvV (pc := 76) C lk_X10_231 (by decide) ix_X10 wo_X10 rfl rfl (kc_X10_setFraction e7) dX10_starts_76 rfl rfl (Nat.le_of_ble_eq_true rfl) ?_
        refine k_iconst (pc := 79) (v := (1 : Int32)) C dX10_starts_79 ciconst_1 ?_
        exact k_iret (pc := 80) C E (some_1 h) (some_2 h) dX10_starts_80
      · refine k_sub [0] rfl ?_
        exact k_X10_starts_b31 C E T h
def m_X10_years_h56 (rec47 : TT → Int32 → Int64 → Int32 → Int32 → Option (Int32 × TT)) (rec56 : TT → Int32 → Int64 → Int32 → Int32 → Int32 → Option (Int32 × TT)) (T : TT) (x2 : Int32) (x3 : Int64) (x5 : Int32) (x6 : Int32) (x7 : Int32) : Option (Int32 × TT) := if (T.2.1 1 7) ≤ x7 then (bT (sI T 1 8 ((T.2.1 1 8) + (1 : Int32))) (fun T8 => bT (x6 + (1 : Int32)) (fun y9 => rec47 T8 x2 x3 x5 y9))) else (bT (((x3 * (1103515245 : Int64)) + (12345 : Int64)) - ((x3 * (1103515245 : Int64)) + (12345 : Int64)) / (2147483648 : Int64) * (2147483648 : Int64)) (fun y10 => (m_X4_act T 1 x7 (((y10 / (65536 : Int64)) - (y10 / (65536 : Int64)) / (3 : Int64) * (3 : Int64)).toInt32)).bind (fun z11 => bT (x5 + z11.1) (fun y12 => bT (x7 + (1 : Int32)) (fun y13 => rec56 z11.2 x2 y10 y12 x6 y13)))))
def m_X10_years_l56 (rec47 : TT → Int32 → Int64 → Int32 → Int32 → Option (Int32 × TT)) : Nat → TT → Int32 → Int64 → Int32 → Int32 → Int32 → Option (Int32 × TT)
  | 0 => fun _ _ _ _ _ _ => none
  | n + 1 => fun T x2 x3 x5 x6 x7 => m_X10_years_h56 rec47 (m_X10_years_l56 rec47 n) T x2 x3 x5 x6 x7
def m_X10_years_h47 (rec47 : TT → Int32 → Int64 → Int32 → Int32 → Option (Int32 × TT)) (T : TT) (x2 : Int32) (x3 : Int64) (x5 : Int32) (x6 : Int32) : Option (Int32 × TT) := if x2 ≤ x6 then (some (x5, T)) else (m_X10_years_l56 rec47 FU T x2 x3 x5 x6 (0 : Int32))
def m_X10_years_l47 : Nat → TT → Int32 → Int64 → Int32 → Int32 → Option (Int32 × TT)
  | 0 => fun _ _ _ _ _ => none
  | n + 1 => fun T x2 x3 x5 x6 => m_X10_years_h47 (m_X10_years_l47 n) T x2 x3 x5 x6
def m_X10_years_b20 (T : TT) : Option (Int32 × TT) := (m_X10_refuse T (-2 : Int32)).bind (fun z15 => some (z15.1, z15.2))
def m_X10_years (T : TT) (x1 : Int32) (x2 : Int32) : Option (Int32 × TT) := (m_X10_within x1 (0 : Int32) (999999 : Int32)).bind (fun z1 => if z1 = 0 then (m_X10_years_b20 T) else ((m_X10_within x2 (0 : Int32) (60 : Int32)).bind (fun z2 => if z2 = 0 then (m_X10_years_b20 T) else ((m_X4_copyFrom T 1 0).bind (fun z3 => bT (x1.toInt64) (fun y4 => m_X10_years_l47 FU z3 x2 y4 (0 : Int32) (0 : Int32)))))))
set_option maxHeartbeats 4000000 in
set_option maxRecDepth 100000 in
theorem k_X10_years_h56 {B : KB} {X : KE} {rec47 : TT → Int32 → Int64 → Int32 → Int32 → Option (Int32 × TT)} {rec56 : TT → Int32 → Int64 → Int32 → Int32 → Int32 → Option (Int32 × TT)} {res : Int32 × TT} (C : Cx B X "GriefEngine" cX10_years 8 5) (E : Cr B X (some .int) (some (.int res.1)) res.2) (hrec47 : ∀ (T : TT) (x2 : Int32) (x3 : Int64) (x5 : Int32) (x6 : Int32), rec47 T x2 x3 x5 x6 = some res → Wk B X 8 T 47 [(0, .ref (B.1 4 0)), (2, .int x2), (3, .long x3), (5, .int x5), (6, .int x6)] []) (hrec56 : ∀ (T : TT) (x2 : Int32) (x3 : Int64) (x5 : Int32) (x6 : Int32) (x7 : Int32), rec56 T x2 x3 x5 x6 x7 = some res → Wk B X 8 T 56 [(0, .ref (B.1 4 0)), (2, .int x2), (3, .long x3), (5, .int x5), (6, .int x6), (7, .int x7)] []) (T : TT) (x2 : Int32) (x3 : Int64) (x5 : Int32) (x6 : Int32) (x7 : Int32) (h : m_X10_years_h56 rec47 rec56 T x2 x3 x5 x6 x7 = some res) : Wk B X 8 T 56 [(0, .ref (B.1 4 0)), (2, .int x2), (3, .long x3), (5, .int x5), (6, .int x6), (7, .int x7)] [] := by
  unfold m_X10_years_h56 at h
  refine k_iload (pc := 56) C dX10_years_56 5 rfl ?_
  refine k_aload_n (pc := 58) C dX10_years_58 0 rfl ?_
  refine gf_X10_16 (pc := 59) C dX10_years_59 ?_
  refine gf_X10_62 (pc := 62) C lt4_1 dX10_years_62 ?_
  refine k_icmp_ge (pc := 65) C 112 dX10_years_65 (by decide) h (fun c14 h => ?_) (fun c14 h => ?_)
  · refine k_aload_n (pc := 112) C dX10_years_112 0 rfl ?_
    refine gf_X10_16 (pc := 113) C dX10_years_113 ?_
    refine k_dup (pc := 116) C dX10_years_116 rfl ?_
    refine gf_X10_141 (pc := 117) C lt4_1 dX10_years_117 ?_
    refine k_iconst (pc := 120) (v := (1 : Int32)) C dX10_years_120 ciconst_1 ?_
    refine k_iadd (pc := 121) C dX10_years_121 ?_
    refine pf_X10_141 (pc := 122) C lt4_1 dX10_years_122 ?_
    refine k_nT h (fun T8 h => ?_)
    refine k_iincN (pc := 125) (x := x6) (c := (1 : Int32)) C (fun y9 => [(6, .int y9), (0, .ref (B.1 4 0)), (2, .int x2), (3, .long x3), (5, .int x5), (7, .int x7)]) dX10_years_125 4 rfl ciconst_1 (by decide) (fun _ => rfl) h (fun y9 h => ?_)
    refine k_goto (pc := 128) C 47 dX10_years_128 (by decide) ?_
    refine k_sub [1, 2, 3, 4, 0] rfl ?_
    exact hrec47 T8 x2 x3 x5 y9 h
  · refine k_lload_n (pc := 68) C dX10_years_68 2 rfl ?_
    refine k_ldc2_w (pc := 69) (v := (1103515245 : Int64)) C dX10_years_69 tw4_15 ?_
    refine k_lmul (pc := 72) C dX10_years_72 ?_
    refine k_ldc2_w (pc := 73) (v := (12345 : Int64)) C dX10_years_73 tw4_16 ?_
    refine k_ladd (pc := 76) C dX10_years_76 ?_
    refine k_ldc2_w (pc := 77) (v := (2147483648 : Int64)) C dX10_years_77 tw4_17 ?_
    refine k_lremc (pc := 80) C dX10_years_80 (by decide) ?_
    refine k_nL h (fun y10 h => ?_)
    refine k_lstore_n (pc := 81) C [(3, .long y10), (0, .ref (B.1 4 0)), (2, .int x2), (5, .int x5), (6, .int x6), (7, .int x7)] dX10_years_81 (by decide) rfl ?_
    refine k_iload (pc := 82) C dX10_years_82 3 rfl ?_
    refine k_aload_n (pc := 84) C dX10_years_84 1 rfl ?_
    refine gf_X10_16 (pc := 85) C dX10_years_85 ?_
    refine k_iload (pc := 88) C dX10_years_88 5 rfl ?_
    refine k_lload_n (pc := 90) C dX10_years_90 0 rfl ?_
    refine k_ldc2_w (pc := 91) (v := (65536 : Int64)) C dX10_years_91 tw4_18 ?_
    refine k_ldivc (pc := 94) C dX10_years_94 (by decide) ?_
    refine k_ldc2_w (pc := 95) (v := (3 : Int64)) C dX10_years_95 tw4_19 ?_
    refine k_lremc (pc := 98) C dX10_years_98 (by decide) ?_
    refine k_l2i (pc := 99) C dX10_years_99 ?_
    obtain ⟨z11, e11, h⟩ := bnd h
    refine k_callvI (pc := 100) C lk_X10_246 (by decide) (ix_X4 lt4_1) (wo_X4 lt4_1) rfl rfl (kc_X4_act lt4_1 e11) dX10_years_100 rfl rfl (Nat.le_of_ble_eq_true rfl) ?_
    refine k_iadd (pc := 103) C dX10_years_103 ?_
    refine k_nI h (fun y12 h => ?_)
    refine k_istore (pc := 104) C [(5, .int y12), (3, .long y10), (0, .ref (B.1 4 0)), (2, .int x2), (6, .int x6), (7, .int x7)] dX10_years_104 (by decide) rfl ?_
    refine k_iincN (pc := 106) (x := x7) (c := (1 : Int32)) C (fun y13 => [(7, .int y13), (5, .int y12), (3, .long y10), (0, .ref (B.1 4 0)), (2, .int x2), (6, .int x6)]) dX10_years_106 5 rfl ciconst_1 (by decide) (fun _ => rfl) h (fun y13 h => ?_)
    refine k_goto (pc := 109) C 56 dX10_years_109 (by decide) ?_
    refine k_sub [3, 4, 2, 1, 5, 0] rfl ?_
    exact hrec56 z11.2 x2 y10 y12 x6 y13 h
set_option maxHeartbeats 4000000 in
set_option maxRecDepth 100000 in
theorem k_X10_years_l56 {B : KB} {X : KE} {rec47 : TT → Int32 → Int64 → Int32 → Int32 → Option (Int32 × TT)} {res : Int32 × TT} (C : Cx B X "GriefEngine" cX10_years 8 5) (E : Cr B X (some .int) (some (.int res.1)) res.2) (hrec47 : ∀ (T : TT) (x2 : Int32) (x3 : Int64) (x5 : Int32) (x6 : Int32), rec47 T x2 x3 x5 x6 = some res → Wk B X 8 T 47 [(0, .ref (B.1 4 0)), (2, .int x2), (3, .long x3), (5, .int x5), (6, .int x6)] []) : ∀ (n : Nat) (T : TT) (x2 : Int32) (x3 : Int64) (x5 : Int32) (x6 : Int32) (x7 : Int32) (h : m_X10_years_l56 rec47 n T x2 x3 x5 x6 x7 = some res), Wk B X 8 T 56 [(0, .ref (B.1 4 0)), (2, .int x2), (3, .long x3), (5, .int x5), (6, .int x6), (7, .int x7)] [] := by
  intro n
  induction n with
  | zero =>
    intro T x2 x3 x5 x6 x7 h
    exact no_some h
  | succ n ih =>
    intro T x2 x3 x5 x6 x7 h
    exact k_X10_years_h56 C E hrec47 (fun T x2 x3 x5 x6 x7 h => ih T x2 x3 x5 x6 x7 h) T x2 x3 x5 x6 x7 h
set_option maxHeartbeats 4000000 in
set_option maxRecDepth 100000 in
theorem k_X10_years_h47 {B : KB} {X : KE} {rec47 : TT → Int32 → Int64 → Int32 → Int32 → Option (Int32 × TT)} {res : Int32 × TT} (C : Cx B X "GriefEngine" cX10_years 8 5) (E : Cr B X (some .int) (some (.int res.1)) res.2) (hrec47 : ∀ (T : TT) (x2 : Int32) (x3 : Int64) (x5 : Int32) (x6 : Int32), rec47 T x2 x3 x5 x6 = some res → Wk B X 8 T 47 [(0, .ref (B.1 4 0)), (2, .int x2), (3, .long x3), (5, .int x5), (6, .int x6)] []) (T : TT) (x2 : Int32) (x3 : Int64) (x5 : Int32) (x6 : Int32) (h : m_X10_years_h47 rec47 T x2 x3 x5 x6 = some res) : Wk B X 8 T 47 [(0, .ref (B.1 4 0)), (2, .int x2), (3, .long x3), (5, .int x5), (6, .int x6)] [] := by
  unfold m_X10_years_h47 at h
  refine k_iload (pc := 47) C dX10_years_47 4 rfl ?_
  refine k_iload_n (pc := 49) C dX10_years_49 1 rfl ?_
  refine k_icmp_ge (pc := 50) C 131 dX10_years_50 (by decide) h (fun c7 h => ?_) (fun c7 h => ?_)
  · refine k_iload (pc := 131) C dX10_years_131 3 rfl ?_
    exact k_iret (pc := 133) C E (some_1 h) (some_2 h) dX10_years_133
  · refine k_iconst (pc := 53) (v := (0 : Int32)) C dX10_years_53 ciconst_0 ?_
    refine k_istore (pc := 54) C [(7, .int (0 : Int32)), (0, .ref (B.1 4 0)), (2, .int x2), (3, .long x3), (5, .int x5), (6, .int x6)] dX10_years_54 (by decide) rfl ?_
    refine k_sub [1, 2, 3, 4, 5, 0] rfl ?_
    exact k_X10_years_l56 C E hrec47 FU T x2 x3 x5 x6 (0 : Int32) h
set_option maxHeartbeats 4000000 in
set_option maxRecDepth 100000 in
theorem k_X10_years_l47 {B : KB} {X : KE} {res : Int32 × TT} (C : Cx B X "GriefEngine" cX10_years 8 5) (E : Cr B X (some .int) (some (.int res.1)) res.2) : ∀ (n : Nat) (T : TT) (x2 : Int32) (x3 : Int64) (x5 : Int32) (x6 : Int32) (h : m_X10_years_l47 n T x2 x3 x5 x6 = some res), Wk B X 8 T 47 [(0, .ref (B.1 4 0)), (2, .int x2), (3, .long x3), (5, .int x5), (6, .int x6)] [] := by
  intro n
  induction n with
  | zero =>
    intro T x2 x3 x5 x6 h
    exact no_some h
  | succ n ih =>
    intro T x2 x3 x5 x6 h
    exact k_X10_years_h47 C E (fun T x2 x3 x5 x6 h => ih T x2 x3 x5 x6 h) T x2 x3 x5 x6 h
set_option maxHeartbeats 4000000 in
set_option maxRecDepth 100000 in
theorem k_X10_years_b20 {B : KB} {X : KE} {res : Int32 × TT} (C : Cx B X "GriefEngine" cX10_years 8 5) (E : Cr B X (some .int) (some (.int res.1)) res.2) (T : TT) (h : m_X10_years_b20 T = some res) : Wk B X 8 T 20 [(0, .ref (B.1 4 0))] [] := by
  unfold m_X10_years_b20 at h
  refine k_aload_n (pc := 20) C dX10_years_20 0 rfl ?_
  refine k_bipush (pc := 21) (v := (-2 : Int32)) C dX10_years_21 cbipush_m2 ?_
  obtain ⟨z15, e15, h⟩ := bnd h
  refine k_callvI (pc := 23) C lk_X10_73 (by decide) ix_X10 wo_X10 rfl rfl (kc_X10_refuse e15) dX10_years_23 rfl rfl (Nat.le_of_ble_eq_true rfl) ?_
  exact k_iret (pc := 26) C E (some_1 h) (some_2 h) dX10_years_26
set_option maxHeartbeats 4000000 in
set_option maxRecDepth 100000 in
theorem kc_X10_years {B : KB} {l : Launch} {T : TT} {x1 : Int32} {x2 : Int32} {res : Int32 × TT} (h : m_X10_years T x1 x2 = some res) : Kt B l 5 yX10_years cX10_years 8 (some .int) T [.ref (B.1 4 0), .int x1, .int x2] (some (.int res.1)) res.2 := by
  refine Kt.of (by decide) (Nat.le_of_ble_eq_true rfl) (fun X hX C E => ?_)
  subst hX
  have C : Cx B X "GriefEngine" cX10_years 8 5 := C
  show Wk B X 8 T 0 [(0, .ref (B.1 4 0)), (1, .int x1), (2, .int x2)] []
  unfold m_X10_years at h
  refine k_iload_n (pc := 0) C dX10_years_0 1 rfl ?_
  refine k_iconst (pc := 1) (v := (0 : Int32)) C dX10_years_1 ciconst_0 ?_
  refine k_ldc (pc := 2) (v := (999999 : Int32)) C dX10_years_2 tw4_14 ?_
  obtain ⟨z1, e1, h⟩ := bnd h
  refine k_callsI (pc := 4) C lk_X10_69 (by decide) (kc_X10_within e1) dX10_years_4 rfl rfl (Nat.le_of_ble_eq_true rfl) ?_
  refine k_if_eq (pc := 7) C 20 dX10_years_7 (by decide) h (fun c6 h => ?_) (fun c6 h => ?_)
  · refine k_sub [0] rfl ?_
    exact k_X10_years_b20 C E T h
  · refine k_iload_n (pc := 10) C dX10_years_10 2 rfl ?_
    refine k_iconst (pc := 11) (v := (0 : Int32)) C dX10_years_11 ciconst_0 ?_
    refine k_bipush (pc := 12) (v := (60 : Int32)) C dX10_years_12 cbipush_60 ?_
    obtain ⟨z2, e2, h⟩ := bnd h
    refine k_callsI (pc := 14) C lk_X10_69 (by decide) (kc_X10_within e2) dX10_years_14 rfl rfl (Nat.le_of_ble_eq_true rfl) ?_
    refine k_if_ne (pc := 17) C 27 dX10_years_17 (by decide) h (fun c5 h => ?_) (fun c5 h => ?_)
    · refine k_aload_n (pc := 27) C dX10_years_27 0 rfl ?_
      refine gf_X10_16 (pc := 28) C dX10_years_28 ?_
      refine k_aload_n (pc := 31) C dX10_years_31 0 rfl ?_
      refine gf_X10_12 (pc := 32) C dX10_years_32 ?_
      obtain ⟨z3, e3, h⟩ := bnd h
      refine k_callvV (pc := 35) C lk_X10_121 (by decide) (ix_X4 lt4_1) (wo_X4 lt4_1) rfl rfl (kc_X4_copyFrom lt4_1 lt4_0 e3) dX10_years_35 rfl rfl (Nat.le_of_ble_eq_true rfl) ?_
      refine k_iload_n (pc := 38) C dX10_years_38 1 rfl ?_
      refine k_i2l (pc := 39) C dX10_years_39 ?_
      refine k_nL h (fun y4 h => ?_)
      refine k_lstore_n (pc := 40) C [(3, .long y4), (0, .ref (B.1 4 0)), (1, .int x1), (2, .int x2)] dX10_years_40 (by decide) rfl ?_
      refine k_iconst (pc := 41) (v := (0 : Int32)) C dX10_years_41 ciconst_0 ?_
      refine k_istore (pc := 42) C [(5, .int (0 : Int32)), (3, .long y4), (0, .ref (B.1 4 0)), (1, .int x1), (2, .int x2)] dX10_years_42 (by decide) rfl ?_
      refine k_iconst (pc := 44) (v := (0 : Int32)) C dX10_years_44 ciconst_0 ?_
      refine k_istore (pc := 45) C [(6, .int (0 : Int32)), (5, .int (0 : Int32)), (3, .long y4), (0, .ref (B.1 4 0)), (1, .int x1), (2, .int x2)] dX10_years_45 (by decide) rfl ?_
      refine k_sub [3, 5, 2, 1, 0] rfl ?_
      exact k_X10_years_l47 C E FU z3 x2 y4 (0 : Int32) (0 : Int32) h
    · refine k_sub [0] rfl ?_
      exact k_X10_years_b20 C E T h
def m_X10_part (T : TT) (x1 : Int32) : Option (Int64 × TT) := (m_X10_within x1 (0 : Int32) (1 : Int32)).bind (fun z1 => if z1 = 0 then ((m_X10_refuse T (-2 : Int32)).bind (fun z3 => some ((z3.1.toInt64), z3.2))) else (if x1 = 0 then (some ((T.2.2.1 4 9), T)) else (some ((T.2.2.1 4 10), T))))
set_option maxHeartbeats 4000000 in
set_option maxRecDepth 100000 in
theorem kc_X10_part {B : KB} {l : Launch} {T : TT} {x1 : Int32} {res : Int64 × TT} (h : m_X10_part T x1 = some res) : Kt B l 2 yX10_part cX10_part 2 (some .long) T [.ref (B.1 4 0), .int x1] (some (.long res.1)) res.2 := by
  refine Kt.of (by decide) (Nat.le_of_ble_eq_true rfl) (fun X hX C E => ?_)
  subst hX
  have C : Cx B X "GriefEngine" cX10_part 2 2 := C
  show Wk B X 2 T 0 [(0, .ref (B.1 4 0)), (1, .int x1)] []
  unfold m_X10_part at h
  refine k_iload_n (pc := 0) C dX10_part_0 1 rfl ?_
  refine k_iconst (pc := 1) (v := (0 : Int32)) C dX10_part_1 ciconst_0 ?_
  refine k_iconst (pc := 2) (v := (1 : Int32)) C dX10_part_2 ciconst_1 ?_
  obtain ⟨z1, e1, h⟩ := bnd h
  refine k_callsI (pc := 3) C lk_X10_69 (by decide) (kc_X10_within e1) dX10_part_3 rfl rfl (Nat.le_of_ble_eq_true rfl) ?_
  refine k_if_ne (pc := 6) C 17 dX10_part_6 (by decide) h (fun c4 h => ?_) (fun c4 h => ?_)
  · refine k_iload_n (pc := 17) C dX10_part_17 1 rfl ?_
    refine k_if_ne (pc := 18) C 28 dX10_part_18 (by decide) h (fun c2 h => ?_) (fun c2 h => ?_)
    · refine k_aload_n (pc := 28) C dX10_part_28 0 rfl ?_
      refine gf_X10_59 (pc := 29) C dX10_part_29 ?_
      exact k_lret (pc := 32) C E (some_1 h) (some_2 h) dX10_part_32
    · refine k_aload_n (pc := 21) C dX10_part_21 0 rfl ?_
      refine gf_X10_55 (pc := 22) C dX10_part_22 ?_
      refine k_goto (pc := 25) C 32 dX10_part_25 (by decide) ?_
      exact k_lret (pc := 32) C E (some_1 h) (some_2 h) dX10_part_32
  · refine k_aload_n (pc := 9) C dX10_part_9 0 rfl ?_
    refine k_bipush (pc := 10) (v := (-2 : Int32)) C dX10_part_10 cbipush_m2 ?_
    obtain ⟨z3, e3, h⟩ := bnd h
    refine k_callvI (pc := 12) C lk_X10_73 (by decide) ix_X10 wo_X10 rfl rfl (kc_X10_refuse e3) dX10_part_12 rfl rfl (Nat.le_of_ble_eq_true rfl) ?_
    refine k_i2l (pc := 15) C dX10_part_15 ?_
    exact k_lret (pc := 16) C E (some_1 h) (some_2 h) dX10_part_16
def m_X10_image (T : TT) (x1 : Int32) : Option (Int32 × TT) := (m_X10_within x1 (0 : Int32) (1 : Int32)).bind (fun z1 => if z1 = 0 then ((m_X10_refuse T (-2 : Int32)).bind (fun z5 => some (z5.1, z5.2))) else (if inb x1 2 then ((m_X4_copyFrom T (2 + (Int32.toNatClampNeg x1)) 0).bind (fun z3 => if inb x1 2 then bT (sA z3 4 2 (Int32.toNatClampNeg x1) (vp_nar .boolean (1 : Int32))) (fun T4 => some ((1 : Int32), T4)) else none)) else none))
set_option maxHeartbeats 4000000 in
set_option maxRecDepth 100000 in
theorem kc_X10_image {B : KB} {l : Launch} {T : TT} {x1 : Int32} {res : Int32 × TT} (h : m_X10_image T x1 = some res) : Kt B l 2 yX10_image cX10_image 2 (some .int) T [.ref (B.1 4 0), .int x1] (some (.int res.1)) res.2 := by
  refine Kt.of (by decide) (Nat.le_of_ble_eq_true rfl) (fun X hX C E => ?_)
  subst hX
  have C : Cx B X "GriefEngine" cX10_image 2 2 := C
  show Wk B X 2 T 0 [(0, .ref (B.1 4 0)), (1, .int x1)] []
  unfold m_X10_image at h
  refine k_iload_n (pc := 0) C dX10_image_0 1 rfl ?_
  refine k_iconst (pc := 1) (v := (0 : Int32)) C dX10_image_1 ciconst_0 ?_
  refine k_iconst (pc := 2) (v := (1 : Int32)) C dX10_image_2 ciconst_1 ?_
  obtain ⟨z1, e1, h⟩ := bnd h
  refine k_callsI (pc := 3) C lk_X10_69 (by decide) (kc_X10_within e1) dX10_image_3 rfl rfl (Nat.le_of_ble_eq_true rfl) ?_
  refine k_if_ne (pc := 6) C 16 dX10_image_6 (by decide) h (fun c6 h => ?_) (fun c6 h => ?_)
  · refine k_aload_n (pc := 16) C dX10_image_16 0 rfl ?_
    refine gf_X10_19 (pc := 17) C dX10_image_17 ?_
    refine k_iload_n (pc := 20) C dX10_image_20 1 rfl ?_
    refine k_qald (pc := 21) C iq_img rfl rfl dX10_image_21 h (fun hi2 h => ?_)
    refine k_aload_n (pc := 22) C dX10_image_22 0 rfl ?_
    refine gf_X10_12 (pc := 23) C dX10_image_23 ?_
    obtain ⟨z3, e3, h⟩ := bnd h
    refine k_callvV (pc := 26) C lk_X10_121 (by decide) (ix_X4 (img_R hi2)) (wo_X4 (img_R hi2)) rfl rfl (kc_X4_copyFrom (img_R hi2) lt4_0 e3) dX10_image_26 rfl rfl (Nat.le_of_ble_eq_true rfl) ?_
    refine k_aload_n (pc := 29) C dX10_image_29 0 rfl ?_
    refine gf_X10_23 (pc := 30) C dX10_image_30 ?_
    refine k_iload_n (pc := 33) C dX10_image_33 1 rfl ?_
    refine k_iconst (pc := 34) (v := (1 : Int32)) C dX10_image_34 ciconst_1 ?_
    refine k_zast (pc := 35) C ia_4_2 dX10_image_35 h (fun h => ?_)
    refine k_nT h (fun T4 h => ?_)
    refine k_iconst (pc := 36) (v := (1 : Int32)) C dX10_image_36 ciconst_1 ?_
    exact k_iret (pc := 37) C E (some_1 h) (some_2 h) dX10_image_37
  · refine k_aload_n (pc := 9) C dX10_image_9 0 rfl ?_
    refine k_bipush (pc := 10) (v := (-2 : Int32)) C dX10_image_10 cbipush_m2 ?_
    obtain ⟨z5, e5, h⟩ := bnd h
    refine k_callvI (pc := 12) C lk_X10_73 (by decide) ix_X10 wo_X10 rfl rfl (kc_X10_refuse e5) dX10_image_12 rfl rfl (Nat.le_of_ble_eq_true rfl) ?_
    exact k_iret (pc := 15) C E (some_1 h) (some_2 h) dX10_image_15
def m_X10_from (T : TT) (x1 : Int32) : Option (Int32 × TT) := (m_X10_within x1 (0 : Int32) (1 : Int32)).bind (fun z1 => if z1 = 0 then ((m_X10_refuse T (-2 : Int32)).bind (fun z6 => some (z6.1, z6.2))) else (if inb x1 2 then (if (T.1 4 2 (Int32.toNatClampNeg x1)) = 0 then ((m_X10_refuse T (-3 : Int32)).bind (fun z4 => some (z4.1, z4.2))) else (if inb x1 2 then ((m_X4_copyFrom T 0 (2 + (Int32.toNatClampNeg x1))).bind (fun z3 => some ((1 : Int32), z3))) else none)) else none))
set_option maxHeartbeats 4000000 in
set_option maxRecDepth 100000 in
theorem kc_X10_from {B : KB} {l : Launch} {T : TT} {x1 : Int32} {res : Int32 × TT} (h : m_X10_from T x1 = some res) : Kt B l 2 yX10_from cX10_from 2 (some .int) T [.ref (B.1 4 0), .int x1] (some (.int res.1)) res.2 := by
  refine Kt.of (by decide) (Nat.le_of_ble_eq_true rfl) (fun X hX C E => ?_)
  subst hX
  have C : Cx B X "GriefEngine" cX10_from 2 2 := C
  show Wk B X 2 T 0 [(0, .ref (B.1 4 0)), (1, .int x1)] []
  unfold m_X10_from at h
  refine k_iload_n (pc := 0) C dX10_from_0 1 rfl ?_
  refine k_iconst (pc := 1) (v := (0 : Int32)) C dX10_from_1 ciconst_0 ?_
  refine k_iconst (pc := 2) (v := (1 : Int32)) C dX10_from_2 ciconst_1 ?_
  obtain ⟨z1, e1, h⟩ := bnd h
  refine k_callsI (pc := 3) C lk_X10_69 (by decide) (kc_X10_within e1) dX10_from_3 rfl rfl (Nat.le_of_ble_eq_true rfl) ?_
  refine k_if_ne (pc := 6) C 16 dX10_from_6 (by decide) h (fun c7 h => ?_) (fun c7 h => ?_)
  · refine k_aload_n (pc := 16) C dX10_from_16 0 rfl ?_
    refine gf_X10_23 (pc := 17) C dX10_from_17 ?_
    refine k_iload_n (pc := 20) C dX10_from_20 1 rfl ?_
    refine k_zald (pc := 21) C ia_4_2 dX10_from_21 h (fun h => ?_)
    refine k_if_ne (pc := 22) C 32 dX10_from_22 (by decide) h (fun c5 h => ?_) (fun c5 h => ?_)
    · refine k_aload_n (pc := 32) C dX10_from_32 0 rfl ?_
      refine gf_X10_12 (pc := 33) C dX10_from_33 ?_
      refine k_aload_n (pc := 36) C dX10_from_36 0 rfl ?_
      refine gf_X10_19 (pc := 37) C dX10_from_37 ?_
      refine k_iload_n (pc := 40) C dX10_from_40 1 rfl ?_
      refine k_qald (pc := 41) C iq_img rfl rfl dX10_from_41 h (fun hi2 h => ?_)
      obtain ⟨z3, e3, h⟩ := bnd h
      refine k_callvV (pc := 42) C lk_X10_121 (by decide) (ix_X4 lt4_0) (wo_X4 lt4_0) rfl rfl (kc_X4_copyFrom lt4_0 (img_R hi2) e3) dX10_from_42 rfl rfl (Nat.le_of_ble_eq_true rfl) ?_
      refine k_iconst (pc := 45) (v := (1 : Int32)) C dX10_from_45 ciconst_1 ?_
      exact k_iret (pc := 46) C E (some_1 h) (some_2 h) dX10_from_46
    · refine k_aload_n (pc := 25) C dX10_from_25 0 rfl ?_
      refine k_bipush (pc := 26) (v := (-3 : Int32)) C dX10_from_26 cbipush_m3 ?_
      obtain ⟨z4, e4, h⟩ := bnd h
      refine k_callvI (pc := 28) C lk_X10_73 (by decide) ix_X10 wo_X10 rfl rfl (kc_X10_refuse e4) dX10_from_28 rfl rfl (Nat.le_of_ble_eq_true rfl) ?_
      exact k_iret (pc := 31) C E (some_1 h) (some_2 h) dX10_from_31
  · refine k_aload_n (pc := 9) C dX10_from_9 0 rfl ?_
    refine k_bipush (pc := 10) (v := (-2 : Int32)) C dX10_from_10 cbipush_m2 ?_
    obtain ⟨z6, e6, h⟩ := bnd h
    refine k_callvI (pc := 12) C lk_X10_73 (by decide) ix_X10 wo_X10 rfl rfl (kc_X10_refuse e6) dX10_from_12 rfl rfl (Nat.le_of_ble_eq_true rfl) ?_
    exact k_iret (pc := 15) C E (some_1 h) (some_2 h) dX10_from_15
def m_X10_status (T : TT) (x1 : Int32) : Option (Int32 × TT) := (m_X10_within x1 (0 : Int32) (2 : Int32)).bind (fun z1 => if z1 = 0 then ((m_X10_refuse T (-2 : Int32)).bind (fun z2 => some ((-1 : Int32), z2.2))) else (if inb x1 3 then (some ((T.1 4 4 (Int32.toNatClampNeg x1)), T)) else none))
set_option maxHeartbeats 4000000 in
set_option maxRecDepth 100000 in
theorem kc_X10_status {B : KB} {l : Launch} {T : TT} {x1 : Int32} {res : Int32 × TT} (h : m_X10_status T x1 = some res) : Kt B l 2 yX10_status cX10_status 2 (some .int) T [.ref (B.1 4 0), .int x1] (some (.int res.1)) res.2 := by
  refine Kt.of (by decide) (Nat.le_of_ble_eq_true rfl) (fun X hX C E => ?_)
  subst hX
  have C : Cx B X "GriefEngine" cX10_status 2 2 := C
  show Wk B X 2 T 0 [(0, .ref (B.1 4 0)), (1, .int x1)] []
  unfold m_X10_status at h
  refine k_iload_n (pc := 0) C dX10_status_0 1 rfl ?_
  refine k_iconst (pc := 1) (v := (0 : Int32)) C dX10_status_1 ciconst_0 ?_
  refine k_iconst (pc := 2) (v := (2 : Int32)) C dX10_status_2 ciconst_2 ?_
  obtain ⟨z1, e1, h⟩ := bnd h
  refine k_callsI (pc := 3) C lk_X10_69 (by decide) (kc_X10_within e1) dX10_status_3 rfl rfl (Nat.le_of_ble_eq_true rfl) ?_
  refine k_if_ne (pc := 6) C 18 dX10_status_6 (by decide) h (fun c3 h => ?_) (fun c3 h => ?_)
  · refine k_aload_n (pc := 18) C dX10_status_18 0 rfl ?_
    refine gf_X10_52 (pc := 19) C dX10_status_19 ?_
    refine k_iload_n (pc := 22) C dX10_status_22 1 rfl ?_
    refine k_iald (pc := 23) C ia_4_4 dX10_status_23 h (fun h => ?_)
    exact k_iret (pc := 24) C E (some_1 h) (some_2 h) dX10_status_24
  · refine k_aload_n (pc := 9) C dX10_status_9 0 rfl ?_
    refine k_bipush (pc := 10) (v := (-2 : Int32)) C dX10_status_10 cbipush_m2 ?_
    obtain ⟨z2, e2, h⟩ := bnd h
    refine k_callvI (pc := 12) C lk_X10_73 (by decide) ix_X10 wo_X10 rfl rfl (kc_X10_refuse e2) dX10_status_12 rfl rfl (Nat.le_of_ble_eq_true rfl) ?_
    refine k_pop (pc := 15) C dX10_status_15 rfl ?_
    refine k_iconst (pc := 16) (v := (-1 : Int32)) C dX10_status_16 ciconst_m1 ?_
    exact k_iret (pc := 17) C E (some_1 h) (some_2 h) dX10_status_17
def m_X10_count (T : TT) (x1 : Int32) : Option (Int32 × TT) := if x1 = (0 : Int32) then (some ((T.2.1 0 7), T)) else (if x1 = (1 : Int32) then (some ((T.2.1 0 8), T)) else (if x1 = (2 : Int32) then ((m_X4_sumOf T 0 0 3 6).bind (fun z4 => some (z4, T))) else (if x1 = (3 : Int32) then ((m_X4_sumOf T 0 0 4 6).bind (fun z6 => some (z6, T))) else (if x1 = (4 : Int32) then (some ((T.2.1 0 9), T)) else (if x1 = (5 : Int32) then (some ((T.2.1 0 10), T)) else (if x1 = (6 : Int32) then (some ((T.2.1 0 11), T)) else (if x1 = (7 : Int32) then (some ((T.2.1 5 1), T)) else ((m_X10_refuse T (-2 : Int32)).bind (fun z11 => some (z11.1, z11.2))))))))))
set_option maxHeartbeats 4000000 in
set_option maxRecDepth 100000 in
theorem kc_X10_count {B : KB} {l : Launch} {T : TT} {x1 : Int32} {res : Int32 × TT} (h : m_X10_count T x1 = some res) : Kt B l 2 yX10_count cX10_count 2 (some .int) T [.ref (B.1 4 0), .int x1] (some (.int res.1)) res.2 := by
  refine Kt.of (by decide) (Nat.le_of_ble_eq_true rfl) (fun X hX C E => ?_)
  subst hX
  have C : Cx B X "GriefEngine" cX10_count 2 2 := C
  show Wk B X 2 T 0 [(0, .ref (B.1 4 0)), (1, .int x1)] []
  unfold m_X10_count at h
  refine k_iload_n (pc := 0) C dX10_count_0 1 rfl ?_
  by_cases c1 : x1 = (0 : Int32)
  · rw [if_pos c1] at h
    refine k_tabIn (pc := 1) C 48 (0 : Int32) dX10_count_1 c1 (by decide) (by decide) rfl (by decide) ?_
    refine k_aload_n (pc := 48) C dX10_count_48 0 rfl ?_
    refine gf_X10_12 (pc := 49) C dX10_count_49 ?_
    refine gf_X10_62 (pc := 52) C lt4_0 dX10_count_52 ?_
    exact k_iret (pc := 55) C E (some_1 h) (some_2 h) dX10_count_55
  · rw [if_neg c1] at h
    by_cases c2 : x1 = (1 : Int32)
    · rw [if_pos c2] at h
      refine k_tabIn (pc := 1) C 56 (1 : Int32) dX10_count_1 c2 (by decide) (by decide) rfl (by decide) ?_
      refine k_aload_n (pc := 56) C dX10_count_56 0 rfl ?_
      refine gf_X10_12 (pc := 57) C dX10_count_57 ?_
      refine gf_X10_141 (pc := 60) C lt4_0 dX10_count_60 ?_
      exact k_iret (pc := 63) C E (some_1 h) (some_2 h) dX10_count_63
    · rw [if_neg c2] at h
      by_cases c3 : x1 = (2 : Int32)
      · rw [if_pos c3] at h
        refine k_tabIn (pc := 1) C 64 (2 : Int32) dX10_count_1 c3 (by decide) (by decide) rfl (by decide) ?_
        refine k_aload_n (pc := 64) C dX10_count_64 0 rfl ?_
        refine gf_X10_12 (pc := 65) C dX10_count_65 ?_
        refine k_aload_n (pc := 68) C dX10_count_68 0 rfl ?_
        refine gf_X10_12 (pc := 69) C dX10_count_69 ?_
        refine gf_X10_147 (pc := 72) C lt4_0 dX10_count_72 ?_
        obtain ⟨z4, e4, h⟩ := bnd h
        refine k_callvI (pc := 75) C lk_X10_249 (by decide) (ix_X4 lt4_0) (wo_X4 lt4_0) rfl rfl (kc_X4_sumOf lt4_0 (ia_R3 lt4_0) e4) dX10_count_75 rfl rfl (Nat.le_of_ble_eq_true rfl) ?_
        exact k_iret (pc := 78) C E (some_1 h) (some_2 h) dX10_count_78
      · rw [if_neg c3] at h
        by_cases c5 : x1 = (3 : Int32)
        · rw [if_pos c5] at h
          refine k_tabIn (pc := 1) C 79 (3 : Int32) dX10_count_1 c5 (by decide) (by decide) rfl (by decide) ?_
          refine k_aload_n (pc := 79) C dX10_count_79 0 rfl ?_
          refine gf_X10_12 (pc := 80) C dX10_count_80 ?_
          refine k_aload_n (pc := 83) C dX10_count_83 0 rfl ?_
          refine gf_X10_12 (pc := 84) C dX10_count_84 ?_
          refine gf_X10_150 (pc := 87) C lt4_0 dX10_count_87 ?_
          obtain ⟨z6, e6, h⟩ := bnd h
          refine k_callvI (pc := 90) C lk_X10_249 (by decide) (ix_X4 lt4_0) (wo_X4 lt4_0) rfl rfl (kc_X4_sumOf lt4_0 (ia_R4 lt4_0) e6) dX10_count_90 rfl rfl (Nat.le_of_ble_eq_true rfl) ?_
          exact k_iret (pc := 93) C E (some_1 h) (some_2 h) dX10_count_93
        · rw [if_neg c5] at h
          by_cases c7 : x1 = (4 : Int32)
          · rw [if_pos c7] at h
            refine k_tabIn (pc := 1) C 94 (4 : Int32) dX10_count_1 c7 (by decide) (by decide) rfl (by decide) ?_
            refine k_aload_n (pc := 94) C dX10_count_94 0 rfl ?_
            refine gf_X10_12 (pc := 95) C dX10_count_95 ?_
            refine gf_X10_203 (pc := 98) C lt4_0 dX10_count_98 ?_
            exact k_iret (pc := 101) C E (some_1 h) (some_2 h) dX10_count_101
          · rw [if_neg c7] at h
            by_cases c8 : x1 = (5 : Int32)
            · rw [if_pos c8] at h
              refine k_tabIn (pc := 1) C 102 (5 : Int32) dX10_count_1 c8 (by decide) (by decide) rfl (by decide) ?_
              refine k_aload_n (pc := 102) C dX10_count_102 0 rfl ?_
              refine gf_X10_12 (pc := 103) C dX10_count_103 ?_
              refine gf_X10_206 (pc := 106) C lt4_0 dX10_count_106 ?_
              exact k_iret (pc := 109) C E (some_1 h) (some_2 h) dX10_count_109
            · rw [if_neg c8] at h
              by_cases c9 : x1 = (6 : Int32)
              · rw [if_pos c9] at h
                refine k_tabIn (pc := 1) C 110 (6 : Int32) dX10_count_1 c9 (by decide) (by decide) rfl (by decide) ?_
                refine k_aload_n (pc := 110) C dX10_count_110 0 rfl ?_
                refine gf_X10_12 (pc := 111) C dX10_count_111 ?_
                refine gf_X10_135 (pc := 114) C lt4_0 dX10_count_114 ?_
                exact k_iret (pc := 117) C E (some_1 h) (some_2 h) dX10_count_117
              · rw [if_neg c9] at h
                by_cases c10 : x1 = (7 : Int32)
                · rw [if_pos c10] at h
                  refine k_tabIn (pc := 1) C 118 (7 : Int32) dX10_count_1 c10 (by decide) (by decide) rfl (by decide) ?_
                  refine k_aload_n (pc := 118) C dX10_count_118 0 rfl ?_
                  refine gf_X10_30 (pc := 119) C dX10_count_119 ?_
                  refine gf_X10_87 (pc := 122) C dX10_count_122 ?_
                  exact k_iret (pc := 125) C E (some_1 h) (some_2 h) dX10_count_125
                · rw [if_neg c10] at h
                  have n1 : x1.toInt ≠ 0 := ne_toInt c1
                  have n2 : x1.toInt ≠ 1 := ne_toInt c2
                  have n3 : x1.toInt ≠ 2 := ne_toInt c3
                  have n5 : x1.toInt ≠ 3 := ne_toInt c5
                  have n7 : x1.toInt ≠ 4 := ne_toInt c7
                  have n8 : x1.toInt ≠ 5 := ne_toInt c8
                  have n9 : x1.toInt ≠ 6 := ne_toInt c9
                  have n10 : x1.toInt ≠ 7 := ne_toInt c10
                  refine k_tabOut (pc := 1) C 126 dX10_count_1 (by omega) (by decide) ?_
                  refine k_aload_n (pc := 126) C dX10_count_126 0 rfl ?_
                  refine k_bipush (pc := 127) (v := (-2 : Int32)) C dX10_count_127 cbipush_m2 ?_
                  obtain ⟨z11, e11, h⟩ := bnd h
                  refine k_callvI (pc := 129) C lk_X10_73 (by decide) ix_X10 wo_X10 rfl rfl (kc_X10_refuse e11) dX10_count_129 rfl rfl (Nat.le_of_ble_eq_true rfl) ?_
                  exact k_iret (pc := 132) C E (some_1 h) (some_2 h) dX10_count_132
