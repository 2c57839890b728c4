def m_X10_forget_b37 (T : TT) (x1 : Int32) (s0 : Int32) : Option (Int32 × TT) := if x1 = 0 then (bT (sI T 0 9 (0 : Int32)) (fun T6 => some (s0, T6))) else (bT (sI T 0 10 (0 : Int32)) (fun T5 => some (s0, T5)))
def m_X10_forget (T : TT) (x1 : Int32) : Option (Int32 × TT) := (m_X10_within x1 (0 : Int32) (1 : Int32)).bind (fun z1 => if z1 = 0 then ((m_X10_refuse T (-2 : Int32)).bind (fun z3 => some (z3.1, z3.2))) else (if x1 = 0 then (m_X10_forget_b37 T x1 (T.2.1 0 9)) else (m_X10_forget_b37 T x1 (T.2.1 0 10))))
set_option maxHeartbeats 4000000 in
set_option maxRecDepth 100000 in
theorem k_X10_forget_b37 {B : KB} {X : KE} {res : Int32 × TT} (C : Cx B X "GriefEngine" cX10_forget 3 2) (E : Cr B X (some .int) (some (.int res.1)) res.2) (T : TT) (x1 : Int32) (s0 : Int32) (h : m_X10_forget_b37 T x1 s0 = some res) : Wk B X 3 T 37 [(0, .ref (B.1 4 0)), (1, .int x1)] [.int s0] := by
  unfold m_X10_forget_b37 at h
  refine k_istore_n (pc := 37) C [(2, .int s0), (0, .ref (B.1 4 0)), (1, .int x1)] dX10_forget_37 (by decide) rfl ?_
  refine k_iload_n (pc := 38) C dX10_forget_38 2 rfl ?_
  refine k_if_ne (pc := 39) C 53 dX10_forget_39 (by decide) h (fun c7 h => ?_) (fun c7 h => ?_)
  · refine k_aload_n (pc := 53) C dX10_forget_53 1 rfl ?_
    refine gf_X10_12 (pc := 54) C dX10_forget_54 ?_
    refine k_iconst (pc := 57) (v := (0 : Int32)) C dX10_forget_57 ciconst_0 ?_
    refine pf_X10_206 (pc := 58) C lt4_0 dX10_forget_58 ?_
    refine k_nT h (fun T5 h => ?_)
    refine k_iload_n (pc := 61) C dX10_forget_61 0 rfl ?_
    exact k_iret (pc := 62) C E (some_1 h) (some_2 h) dX10_forget_62
  · refine k_aload_n (pc := 42) C dX10_forget_42 1 rfl ?_
    refine gf_X10_12 (pc := 43) C dX10_forget_43 ?_
    refine k_iconst (pc := 46) (v := (0 : Int32)) C dX10_forget_46 ciconst_0 ?_
    refine pf_X10_203 (pc := 47) C lt4_0 dX10_forget_47 ?_
    refine k_nT h (fun T6 h => ?_)
    refine k_goto (pc := 50) C 61 dX10_forget_50 (by decide) ?_
    refine k_iload_n (pc := 61) C dX10_forget_61 0 rfl ?_
    exact k_iret (pc := 62) C E (some_1 h) (some_2 h) dX10_forget_62
set_option maxHeartbeats 4000000 in
set_option maxRecDepth 100000 in
theorem kc_X10_forget {B : KB} {l : Launch} {T : TT} {x1 : Int32} {res : Int32 × TT} (h : m_X10_forget T x1 = some res) : Kt B l 2 yX10_forget cX10_forget 3 (some .int) T [.ref (B.1 4 0), .int x1] (some (.int res.1)) res.2 := by
  refine Kt.of (by decide) (Nat.le_of_ble_eq_true rfl) (fun X hX C E => ?_)
  subst hX
  have C : Cx B X "GriefEngine" cX10_forget 3 2 := C
  show Wk B X 3 T 0 [(0, .ref (B.1 4 0)), (1, .int x1)] []
  unfold m_X10_forget at h
  refine k_iload_n (pc := 0) C dX10_forget_0 1 rfl ?_
  refine k_iconst (pc := 1) (v := (0 : Int32)) C dX10_forget_1 ciconst_0 ?_
  refine k_iconst (pc := 2) (v := (1 : Int32)) C dX10_forget_2 ciconst_1 ?_
  obtain ⟨z1, e1, h⟩ := bnd h
  refine k_callsI (pc := 3) C lk_X10_69 (by decide) (kc_X10_within e1) dX10_forget_3 rfl rfl (Nat.le_of_ble_eq_true rfl) ?_
  refine k_if_ne (pc := 6) C 16 dX10_forget_6 (by decide) h (fun c4 h => ?_) (fun c4 h => ?_)
  · refine k_iload_n (pc := 16) C dX10_forget_16 1 rfl ?_
    refine k_if_ne (pc := 17) C 30 dX10_forget_17 (by decide) h (fun c2 h => ?_) (fun c2 h => ?_)
    · refine k_aload_n (pc := 30) C dX10_forget_30 0 rfl ?_
      refine gf_X10_12 (pc := 31) C dX10_forget_31 ?_
      refine gf_X10_206 (pc := 34) C lt4_0 dX10_forget_34 ?_
      refine k_sub [0, 1] rfl ?_
      exact k_X10_forget_b37 C E T x1 (T.2.1 0 10) h
    · refine k_aload_n (pc := 20) C dX10_forget_20 0 rfl ?_
      refine gf_X10_12 (pc := 21) C dX10_forget_21 ?_
      refine gf_X10_203 (pc := 24) C lt4_0 dX10_forget_24 ?_
      refine k_goto (pc := 27) C 37 dX10_forget_27 (by decide) ?_
      refine k_sub [0, 1] rfl ?_
      exact k_X10_forget_b37 C E T x1 (T.2.1 0 9) h
  · refine k_aload_n (pc := 9) C dX10_forget_9 0 rfl ?_
    refine k_bipush (pc := 10) (v := (-2 : Int32)) C dX10_forget_10 cbipush_m2 ?_
    obtain ⟨z3, e3, h⟩ := bnd h
    refine k_callvI (pc := 12) C lk_X10_73 (by decide) ix_X10 wo_X10 rfl rfl (kc_X10_refuse e3) dX10_forget_12 rfl rfl (Nat.le_of_ble_eq_true rfl) ?_
    exact k_iret (pc := 15) C E (some_1 h) (some_2 h) dX10_forget_15
def m_X10_kindsThatFit_b36 (T : TT) (rec4 : Int32 → Int32 → Int32 → Option (Int32)) (x1 : Int32) (x2 : Int32) (x3 : Int32) : Option (Int32) := bT (x3 + (1 : Int32)) (fun y6 => rec4 x1 x2 y6)
def m_X10_kindsThatFit_h4 (T : TT) (rec4 : Int32 → Int32 → Int32 → Option (Int32)) (x1 : Int32) (x2 : Int32) (x3 : Int32) : Option (Int32) := if (6 : Int32) ≤ x3 then (some x2) else (if inb x3 6 then ((m_X4_notesFit T 0 x1 (0, 8 + (Int32.toNatClampNeg x3))).bind (fun z2 => if z2 = 0 then (m_X10_kindsThatFit_b36 T rec4 x1 x2 x3) else (bT (x2 ||| ((1 : Int32) <<< (x3 &&& 31))) (fun y3 => m_X10_kindsThatFit_b36 T rec4 x1 y3 x3)))) else none)
def m_X10_kindsThatFit_l4 (T : TT) : Nat → Int32 → Int32 → Int32 → Option (Int32)
  | 0 => fun _ _ _ => none
  | n + 1 => fun x1 x2 x3 => m_X10_kindsThatFit_h4 T (m_X10_kindsThatFit_l4 T n) x1 x2 x3
def m_X10_kindsThatFit (T : TT) (x1 : Int32) : Option (Int32) := m_X10_kindsThatFit_l4 T FU x1 (0 : Int32) (0 : Int32)
set_option maxHeartbeats 4000000 in
set_option maxRecDepth 100000 in
theorem k_X10_kindsThatFit_b36 {B : KB} {X : KE} {T : TT} {rec4 : Int32 → Int32 → Int32 → Option (Int32)} {res : Int32} (C : Cx B X "GriefEngine" cX10_kindsThatFit 4 5) (E : Cr B X (some .int) (some (.int res)) T) (hrec4 : ∀ (x1 : Int32) (x2 : Int32) (x3 : Int32), rec4 x1 x2 x3 = some res → Wk B X 4 T 4 [(0, .ref (B.1 4 0)), (1, .int x1), (2, .int x2), (3, .int x3)] []) (x1 : Int32) (x2 : Int32) (x3 : Int32) (h : m_X10_kindsThatFit_b36 T rec4 x1 x2 x3 = some res) : Wk B X 4 T 36 [(0, .ref (B.1 4 0)), (1, .int x1), (2, .int x2), (3, .int x3)] [] := by
  unfold m_X10_kindsThatFit_b36 at h
  refine k_iincN (pc := 36) (x := x3) (c := (1 : Int32)) C (fun y6 => [(3, .int y6), (0, .ref (B.1 4 0)), (1, .int x1), (2, .int x2)]) dX10_kindsThatFit_36 3 rfl ciconst_1 (by decide) (fun _ => rfl) h (fun y6 h => ?_)
  refine k_goto (pc := 39) C 4 dX10_kindsThatFit_39 (by decide) ?_
  refine k_sub [1, 2, 3, 0] rfl ?_
  exact hrec4 x1 x2 y6 h
set_option maxHeartbeats 4000000 in
set_option maxRecDepth 100000 in
theorem k_X10_kindsThatFit_h4 {B : KB} {X : KE} {T : TT} {rec4 : Int32 → Int32 → Int32 → Option (Int32)} {res : Int32} (C : Cx B X "GriefEngine" cX10_kindsThatFit 4 5) (E : Cr B X (some .int) (some (.int res)) T) (hrec4 : ∀ (x1 : Int32) (x2 : Int32) (x3 : Int32), rec4 x1 x2 x3 = some res → Wk B X 4 T 4 [(0, .ref (B.1 4 0)), (1, .int x1), (2, .int x2), (3, .int x3)] []) (x1 : Int32) (x2 : Int32) (x3 : Int32) (h : m_X10_kindsThatFit_h4 T rec4 x1 x2 x3 = some res) : Wk B X 4 T 4 [(0, .ref (B.1 4 0)), (1, .int x1), (2, .int x2), (3, .int x3)] [] := by
  unfold m_X10_kindsThatFit_h4 at h
  refine k_iload_n (pc := 4) C dX10_kindsThatFit_4 3 rfl ?_
  refine k_bipush (pc := 5) (v := (6 : Int32)) C dX10_kindsThatFit_5 cbipush_6 ?_
  refine k_icmp_ge (pc := 7) C 42 dX10_kindsThatFit_7 (by decide) h (fun c5 h => ?_) (fun c5 h => ?_)
  · refine k_iload_n (pc := 42) C dX10_kindsThatFit_42 2 rfl ?_
    exact k_iret (pc := 43) C E (some_i h) rfl dX10_kindsThatFit_43
  · refine k_aload_n (pc := 10) C dX10_kindsThatFit_10 0 rfl ?_
    refine gf_X10_12 (pc := 11) C dX10_kindsThatFit_11 ?_
    refine k_iload_n (pc := 14) C dX10_kindsThatFit_14 1 rfl ?_
    refine k_aload_n (pc := 15) C dX10_kindsThatFit_15 0 rfl ?_
    refine gf_X10_12 (pc := 16) C dX10_kindsThatFit_16 ?_
    refine gf_X10_266 (pc := 19) C lt4_0 dX10_kindsThatFit_19 ?_
    refine k_iload_n (pc := 22) C dX10_kindsThatFit_22 3 rfl ?_
    refine k_qald (pc := 23) C (iq_R lt4_0) rfl rfl dX10_kindsThatFit_23 h (fun hi1 h => ?_)
    obtain ⟨z2, e2, h⟩ := bnd h
    refine k_callvI (pc := 24) C lk_X10_270 (by decide) (ix_X4 lt4_0) (wo_X4 lt4_0) rfl rfl (kc_X4_notesFit lt4_0 (kok_R lt4_0 hi1) e2) dX10_kindsThatFit_24 rfl rfl (Nat.le_of_ble_eq_true rfl) ?_
    refine k_if_eq (pc := 27) C 36 dX10_kindsThatFit_27 (by decide) h (fun c4 h => ?_) (fun c4 h => ?_)
    · refine k_sub [0, 1, 2, 3] rfl ?_
      exact k_X10_kindsThatFit_b36 C E hrec4 x1 x2 x3 h
    · refine k_iload_n (pc := 30) C dX10_kindsThatFit_30 2 rfl ?_
      refine k_iconst (pc := 31) (v := (1 : Int32)) C dX10_kindsThatFit_31 ciconst_1 ?_
      refine k_iload_n (pc := 32) C dX10_kindsThatFit_32 3 rfl ?_
      refine k_ishl (pc := 33) C dX10_kindsThatFit_33 ?_
      refine k_ior (pc := 34) C dX10_kindsThatFit_34 ?_
      refine k_nI h (fun y3 h => ?_)
      refine k_istore_n (pc := 35) C [(2, .int y3), (0, .ref (B.1 4 0)), (1, .int x1), (3, .int x3)] dX10_kindsThatFit_35 (by decide) rfl ?_
      refine k_sub [1, 2, 0, 3] rfl ?_
      exact k_X10_kindsThatFit_b36 C E hrec4 x1 y3 x3 h
set_option maxHeartbeats 4000000 in
set_option maxRecDepth 100000 in
theorem k_X10_kindsThatFit_l4 {B : KB} {X : KE} {T : TT} {res : Int32} (C : Cx B X "GriefEngine" cX10_kindsThatFit 4 5) (E : Cr B X (some .int) (some (.int res)) T) : ∀ (n : Nat) (x1 : Int32) (x2 : Int32) (x3 : Int32) (h : m_X10_kindsThatFit_l4 T n x1 x2 x3 = some res), Wk B X 4 T 4 [(0, .ref (B.1 4 0)), (1, .int x1), (2, .int x2), (3, .int x3)] [] := by
  intro n
  induction n with
  | zero =>
    intro x1 x2 x3 h
    exact no_some h
  | succ n ih =>
    intro x1 x2 x3 h
    exact k_X10_kindsThatFit_h4 C E (fun x1 x2 x3 h => ih x1 x2 x3 h) x1 x2 x3 h
set_option maxHeartbeats 4000000 in
set_option maxRecDepth 100000 in
theorem kc_X10_kindsThatFit {B : KB} {l : Launch} {T : TT} {x1 : Int32} {res : Int32} (h : m_X10_kindsThatFit T x1 = some res) : Kt B l 5 yX10_kindsThatFit cX10_kindsThatFit 4 (some .int) T [.ref (B.1 4 0), .int x1] (some (.int res)) T := by
  refine Kt.of (by decide) (Nat.le_of_ble_eq_true rfl) (fun X hX C E => ?_)
  subst hX
  have C : Cx B X "GriefEngine" cX10_kindsThatFit 4 5 := C
  show Wk B X 4 T 0 [(0, .ref (B.1 4 0)), (1, .int x1)] []
  unfold m_X10_kindsThatFit at h
  refine k_iconst (pc := 0) (v := (0 : Int32)) C dX10_kindsThatFit_0 ciconst_0 ?_
  refine k_istore_n (pc := 1) C [(2, .int (0 : Int32)), (0, .ref (B.1 4 0)), (1, .int x1)] dX10_kindsThatFit_1 (by decide) rfl ?_
  refine k_iconst (pc := 2) (v := (0 : Int32)) C dX10_kindsThatFit_2 ciconst_0 ?_
  refine k_istore_n (pc := 3) C [(3, .int (0 : Int32)), (2, .int (0 : Int32)), (0, .ref (B.1 4 0)), (1, .int x1)] dX10_kindsThatFit_3 (by decide) rfl ?_
  refine k_sub [2, 3, 1, 0] rfl ?_
  exact k_X10_kindsThatFit_l4 C E FU x1 (0 : Int32) (0 : Int32) h
def m_X10_is (T : TT) (x1 : Int32) : Option (Int32 × TT) := (m_X4_has T 0 x1).bind (fun z1 => if z1 = 0 then ((m_X10_refuse T (-2 : Int32)).bind (fun z3 => some (z3.1, z3.2))) else ((m_X10_kindsThatFit T x1).bind (fun z2 => some (z2, T))))
set_option maxHeartbeats 4000000 in
set_option maxRecDepth 100000 in
theorem kc_X10_is {B : KB} {l : Launch} {T : TT} {x1 : Int32} {res : Int32 × TT} (h : m_X10_is T x1 = some res) : Kt B l 6 yX10_is cX10_is 2 (some .int) T [.ref (B.1 4 0), .int x1] (some (.int res.1)) res.2 := by
  refine Kt.of (by decide) (Nat.le_of_ble_eq_true rfl) (fun X hX C E => ?_)
  subst hX
  have C : Cx B X "GriefEngine" cX10_is 2 6 := C
  show Wk B X 2 T 0 [(0, .ref (B.1 4 0)), (1, .int x1)] []
  unfold m_X10_is at h
  refine k_aload_n (pc := 0) C dX10_is_0 0 rfl ?_
  refine gf_X10_12 (pc := 1) C dX10_is_1 ?_
  refine k_iload_n (pc := 4) C dX10_is_4 1 rfl ?_
  obtain ⟨z1, e1, h⟩ := bnd h
  refine k_callvI (pc := 5) C lk_X10_132 (by decide) (ix_X4 lt4_0) (wo_X4 lt4_0) rfl rfl (kc_X4_has lt4_0 e1) dX10_is_5 rfl rfl (Nat.le_of_ble_eq_true rfl) ?_
  refine k_if_ne (pc := 8) C 18 dX10_is_8 (by decide) h (fun c4 h => ?_) (fun c4 h => ?_)
  · refine k_aload_n (pc := 18) C dX10_is_18 0 rfl ?_
    refine k_iload_n (pc := 19) C dX10_is_19 1 rfl ?_
    obtain ⟨z2, e2, h⟩ := bnd h
    refine k_callvI (pc := 20) C lk_X10_209 (by decide) ix_X10 wo_X10 rfl rfl (kc_X10_kindsThatFit e2) dX10_is_20 rfl rfl (Nat.le_of_ble_eq_true rfl) ?_
    exact k_iret (pc := 23) C E (some_1 h) (some_2 h) dX10_is_23
  · refine k_aload_n (pc := 11) C dX10_is_11 0 rfl ?_
    refine k_bipush (pc := 12) (v := (-2 : Int32)) C dX10_is_12 cbipush_m2 ?_
    obtain ⟨z3, e3, h⟩ := bnd h
    refine k_callvI (pc := 14) C lk_X10_73 (by decide) ix_X10 wo_X10 rfl rfl (kc_X10_refuse e3) dX10_is_14 rfl rfl (Nat.le_of_ble_eq_true rfl) ?_
    exact k_iret (pc := 17) C E (some_1 h) (some_2 h) dX10_is_17
def m_X10_mostAlike_b109 (rec60 : TT → Int32 → Int32 → Int32 → Option (Int32 × TT)) (rec73 : TT → Int32 → Int32 → Int32 → Int32 → Int32 → Option (Int32 × TT)) (T : TT) (x1 : Int32) (x5 : Int32) (x6 : Int32) (x7 : Int32) (x8 : Int32) : Option (Int32 × TT) := bT (x8 + (1 : Int32)) (fun y14 => rec73 T x1 x5 x6 x7 y14)
def m_X10_mostAlike_h73 (rec60 : TT → Int32 → Int32 → Int32 → Option (Int32 × TT)) (rec73 : TT → Int32 → Int32 → Int32 → Int32 → Int32 → Option (Int32 × TT)) (T : TT) (x1 : Int32) (x5 : Int32) (x6 : Int32) (x7 : Int32) (x8 : Int32) : Option (Int32 × TT) := if (6 : Int32) ≤ x8 then (bT (if x5 < x7 then x7 else x5) (fun y8 => bT (x6 + (1 : Int32)) (fun y9 => rec60 T x1 y8 y9))) else (if ((x1 >>> (x8 &&& 31)) &&& (1 : Int32)) = 0 then (m_X10_mostAlike_b109 rec60 rec73 T x1 x5 x6 x7 x8) else (if inb x8 6 then (if inb x6 6 then (if (T.1 4 3 (Int32.toNatClampNeg x8)) = (T.1 4 3 (Int32.toNatClampNeg x6)) then (bT (x7 + (1 : Int32)) (fun y10 => m_X10_mostAlike_b109 rec60 rec73 T x1 x5 x6 y10 x8)) else (m_X10_mostAlike_b109 rec60 rec73 T x1 x5 x6 x7 x8)) else none) else none))
def m_X10_mostAlike_l73 (rec60 : TT → Int32 → Int32 → Int32 → Option (Int32 × TT)) : Nat → TT → Int32 → Int32 → Int32 → Int32 → Int32 → Option (Int32 × TT)
  | 0 => fun _ _ _ _ _ _ => none
  | n + 1 => fun T x1 x5 x6 x7 x8 => m_X10_mostAlike_h73 rec60 (m_X10_mostAlike_l73 rec60 n) T x1 x5 x6 x7 x8
def m_X10_mostAlike_h60 (rec60 : TT → Int32 → Int32 → Int32 → Option (Int32 × TT)) (T : TT) (x1 : Int32) (x5 : Int32) (x6 : Int32) : Option (Int32 × TT) := if (6 : Int32) ≤ x6 then (some (x5, T)) else (m_X10_mostAlike_l73 rec60 FU T x1 x5 x6 (0 : Int32) (0 : Int32))
def m_X10_mostAlike_l60 : Nat → TT → Int32 → Int32 → Int32 → Option (Int32 × TT)
  | 0 => fun _ _ _ _ => none
  | n + 1 => fun T x1 x5 x6 => m_X10_mostAlike_h60 (m_X10_mostAlike_l60 n) T x1 x5 x6
def m_X10_mostAlike_h3 (rec3 : TT → Int32 → Int32 → Int32 → Int32 → Int32 → Option (Int32 × TT)) (T : TT) (x1 : Int32) (x2 : Int32) (x3 : Int32) (x4 : Int32) (x5 : Int32) : Option (Int32 × TT) := if (6 : Int32) ≤ x5 then (m_X10_mostAlike_l60 FU T x1 (0 : Int32) (0 : Int32)) else (if inb x5 6 then ((v_runs (0, 8 + (Int32.toNatClampNeg x5)) x2 x3).bind (fun z2 => (v_left (0, 8 + (Int32.toNatClampNeg x5)) x4 x3).bind (fun z3 => if inb x5 6 then bT (sA T 4 3 (Int32.toNatClampNeg x5) ((z2 * (100 : Int32)) + z3)) (fun T4 => bT (x5 + (1 : Int32)) (fun y5 => rec3 T4 x1 x2 x3 x4 y5)) else none))) else none)
def m_X10_mostAlike_l3 : Nat → TT → Int32 → Int32 → Int32 → Int32 → Int32 → Option (Int32 × TT)
  | 0 => fun _ _ _ _ _ _ => none
  | n + 1 => fun T x1 x2 x3 x4 x5 => m_X10_mostAlike_h3 (m_X10_mostAlike_l3 n) T x1 x2 x3 x4 x5
def m_X10_mostAlike (T : TT) (x1 : Int32) (x2 : Int32) (x3 : Int32) (x4 : Int32) : Option (Int32 × TT) := m_X10_mostAlike_l3 FU T x1 x2 x3 x4 (0 : Int32)
set_option maxHeartbeats 4000000 in
set_option maxRecDepth 100000 in
theorem k_X10_mostAlike_b109 {B : KB} {X : KE} {rec60 : TT → Int32 → Int32 → Int32 → Option (Int32 × TT)} {rec73 : TT → Int32 → Int32 → Int32 → Int32 → Int32 → Option (Int32 × TT)} {res : Int32 × TT} (C : Cx B X "GriefEngine" cX10_mostAlike 9 4) (E : Cr B X (some .int) (some (.int res.1)) res.2) (hrec60 : ∀ (T : TT) (x1 : Int32) (x5 : Int32) (x6 : Int32), rec60 T x1 x5 x6 = some res → Wk B X 9 T 60 [(0, .ref (B.1 4 0)), (1, .int x1), (5, .int x5), (6, .int x6)] []) (hrec73 : ∀ (T : TT) (x1 : Int32) (x5 : Int32) (x6 : Int32) (x7 : Int32) (x8 : Int32), rec73 T x1 x5 x6 x7 x8 = some res → Wk B X 9 T 73 [(0, .ref (B.1 4 0)), (1, .int x1), (5, .int x5), (6, .int x6), (7, .int x7), (8, .int x8)] []) (T : TT) (x1 : Int32) (x5 : Int32) (x6 : Int32) (x7 : Int32) (x8 : Int32) (h : m_X10_mostAlike_b109 rec60 rec73 T x1 x5 x6 x7 x8 = some res) : Wk B X 9 T 109 [(0, .ref (B.1 4 0)), (1, .int x1), (5, .int x5), (6, .int x6), (7, .int x7), (8, .int x8)] [] := by
  unfold m_X10_mostAlike_b109 at h
  refine k_iincN (pc := 109) (x := x8) (c := (1 : Int32)) C (fun y14 => [(8, .int y14), (0, .ref (B.1 4 0)), (1, .int x1), (5, .int x5), (6, .int x6), (7, .int x7)]) dX10_mostAlike_109 5 rfl ciconst_1 (by decide) (fun _ => rfl) h (fun y14 h => ?_)
  refine k_goto (pc := 112) C 73 dX10_mostAlike_112 (by decide) ?_
  refine k_sub [1, 2, 3, 4, 5, 0] rfl ?_
  exact hrec73 T x1 x5 x6 x7 y14 h
set_option maxHeartbeats 4000000 in
set_option maxRecDepth 100000 in
theorem k_X10_mostAlike_h73 {B : KB} {X : KE} {rec60 : TT → Int32 → Int32 → Int32 → Option (Int32 × TT)} {rec73 : TT → Int32 → Int32 → Int32 → Int32 → Int32 → Option (Int32 × TT)} {res : Int32 × TT} (C : Cx B X "GriefEngine" cX10_mostAlike 9 4) (E : Cr B X (some .int) (some (.int res.1)) res.2) (hrec60 : ∀ (T : TT) (x1 : Int32) (x5 : Int32) (x6 : Int32), rec60 T x1 x5 x6 = some res → Wk B X 9 T 60 [(0, .ref (B.1 4 0)), (1, .int x1), (5, .int x5), (6, .int x6)] []) (hrec73 : ∀ (T : TT) (x1 : Int32) (x5 : Int32) (x6 : Int32) (x7 : Int32) (x8 : Int32), rec73 T x1 x5 x6 x7 x8 = some res → Wk B X 9 T 73 [(0, .ref (B.1 4 0)), (1, .int x1), (5, .int x5), (6, .int x6), (7, .int x7), (8, .int x8)] []) (T : TT) (x1 : Int32) (x5 : Int32) (x6 : Int32) (x7 : Int32) (x8 : Int32) (h : m_X10_mostAlike_h73 rec60 rec73 T x1 x5 x6 x7 x8 = some res) : Wk B X 9 T 73 [(0, .ref (B.1 4 0)), (1, .int x1), (5, .int x5), (6, .int x6), (7, .int x7), (8, .int x8)] [] := by
  unfold m_X10_mostAlike_h73 at h
  refine k_iload (pc := 73) C dX10_mostAlike_73 5 rfl ?_
  refine k_bipush (pc := 75) (v := (6 : Int32)) C dX10_mostAlike_75 cbipush_6 ?_
  refine k_icmp_ge (pc := 77) C 115 dX10_mostAlike_77 (by decide) h (fun c13 h => ?_) (fun c13 h => ?_)
  · refine k_iload (pc := 115) C dX10_mostAlike_115 2 rfl ?_
    refine k_iload (pc := 117) C dX10_mostAlike_117 4 rfl ?_
    refine k_mmax (pc := 119) C (by decide) tw3_198 tw3_14 tw1_17 tw3_15 (Nat.le_of_ble_eq_true rfl) dX10_mostAlike_119 ?_
    refine k_nI h (fun y8 h => ?_)
    refine k_istore (pc := 122) C [(5, .int y8), (0, .ref (B.1 4 0)), (1, .int x1), (6, .int x6), (7, .int x7), (8, .int x8)] dX10_mostAlike_122 (by decide) rfl ?_
    refine k_iincN (pc := 124) (x := x6) (c := (1 : Int32)) C (fun y9 => [(6, .int y9), (5, .int y8), (0, .ref (B.1 4 0)), (1, .int x1), (7, .int x7), (8, .int x8)]) dX10_mostAlike_124 3 rfl ciconst_1 (by decide) (fun _ => rfl) h (fun y9 h => ?_)
    refine k_goto (pc := 127) C 60 dX10_mostAlike_127 (by decide) ?_
    refine k_sub [2, 3, 1, 0] rfl ?_
    exact hrec60 T x1 y8 y9 h
  · refine k_iload_n (pc := 80) C dX10_mostAlike_80 1 rfl ?_
    refine k_iload (pc := 81) C dX10_mostAlike_81 5 rfl ?_
    refine k_ishr (pc := 83) C dX10_mostAlike_83 ?_
    refine k_iconst (pc := 84) (v := (1 : Int32)) C dX10_mostAlike_84 ciconst_1 ?_
    refine k_iand (pc := 85) C dX10_mostAlike_85 ?_
    refine k_if_eq (pc := 86) C 109 dX10_mostAlike_86 (by decide) h (fun c12 h => ?_) (fun c12 h => ?_)
    · refine k_sub [0, 1, 2, 3, 4, 5] rfl ?_
      exact k_X10_mostAlike_b109 C E hrec60 hrec73 T x1 x5 x6 x7 x8 h
    · refine k_aload_n (pc := 89) C dX10_mostAlike_89 0 rfl ?_
      refine gf_X10_48 (pc := 90) C dX10_mostAlike_90 ?_
      refine k_iload (pc := 93) C dX10_mostAlike_93 5 rfl ?_
      refine k_iald (pc := 95) C ia_4_3 dX10_mostAlike_95 h (fun h => ?_)
      refine k_aload_n (pc := 96) C dX10_mostAlike_96 0 rfl ?_
      refine gf_X10_48 (pc := 97) C dX10_mostAlike_97 ?_
      refine k_iload (pc := 100) C dX10_mostAlike_100 3 rfl ?_
      refine k_iald (pc := 102) C ia_4_3 dX10_mostAlike_102 h (fun h => ?_)
      refine k_icmp_ne (pc := 103) C 109 dX10_mostAlike_103 (by decide) h (fun c11 h => ?_) (fun c11 h => ?_)
      · refine k_sub [0, 1, 2, 3, 4, 5] rfl ?_
        exact k_X10_mostAlike_b109 C E hrec60 hrec73 T x1 x5 x6 x7 x8 h
      · refine k_iincN (pc := 106) (x := x7) (c := (1 : Int32)) C (fun y10 => [(7, .int y10), (0, .ref (B.1 4 0)), (1, .int x1), (5, .int x5), (6, .int x6), (8, .int x8)]) dX10_mostAlike_106 4 rfl ciconst_1 (by decide) (fun _ => rfl) h (fun y10 h => ?_)
        refine k_sub [1, 2, 3, 4, 0, 5] rfl ?_
        exact k_X10_mostAlike_b109 C E hrec60 hrec73 T x1 x5 x6 y10 x8 h
set_option maxHeartbeats 4000000 in
set_option maxRecDepth 100000 in
theorem k_X10_mostAlike_l73 {B : KB} {X : KE} {rec60 : TT → Int32 → Int32 → Int32 → Option (Int32 × TT)} {res : Int32 × TT} (C : Cx B X "GriefEngine" cX10_mostAlike 9 4) (E : Cr B X (some .int) (some (.int res.1)) res.2) (hrec60 : ∀ (T : TT) (x1 : Int32) (x5 : Int32) (x6 : Int32), rec60 T x1 x5 x6 = some res → Wk B X 9 T 60 [(0, .ref (B.1 4 0)), (1, .int x1), (5, .int x5), (6, .int x6)] []) : ∀ (n : Nat) (T : TT) (x1 : Int32) (x5 : Int32) (x6 : Int32) (x7 : Int32) (x8 : Int32) (h : m_X10_mostAlike_l73 rec60 n T x1 x5 x6 x7 x8 = some res), Wk B X 9 T 73 [(0, .ref (B.1 4 0)), (1, .int x1), (5, .int x5), (6, .int x6), (7, .int x7), (8, .int x8)] [] := by
  intro n
  induction n with
  | zero =>
    intro T x1 x5 x6 x7 x8 h
    exact no_some h
  | succ n ih =>
    intro T x1 x5 x6 x7 x8 h
    exact k_X10_mostAlike_h73 C E hrec60 (fun T x1 x5 x6 x7 x8 h => ih T x1 x5 x6 x7 x8 h) T x1 x5 x6 x7 x8 h
set_option maxHeartbeats 4000000 in
set_option maxRecDepth 100000 in
theorem k_X10_mostAlike_h60 {B : KB} {X : KE} {rec60 : TT → Int32 → Int32 → Int32 → Option (Int32 × TT)} {res : Int32 × TT} (C : Cx B X "GriefEngine" cX10_mostAlike 9 4) (E : Cr B X (some .int) (some (.int res.1)) res.2) (hrec60 : ∀ (T : TT) (x1 : Int32) (x5 : Int32) (x6 : Int32), rec60 T x1 x5 x6 = some res → Wk B X 9 T 60 [(0, .ref (B.1 4 0)), (1, .int x1), (5, .int x5), (6, .int x6)] []) (T : TT) (x1 : Int32) (x5 : Int32) (x6 : Int32) (h : m_X10_mostAlike_h60 rec60 T x1 x5 x6 = some res) : Wk B X 9 T 60 [(0, .ref (B.1 4 0)), (1, .int x1), (5, .int x5), (6, .int x6)] [] := by
  unfold m_X10_mostAlike_h60 at h
  refine k_iload (pc := 60) C dX10_mostAlike_60 3 rfl ?_
  refine k_bipush (pc := 62) (v := (6 : Int32)) C dX10_mostAlike_62 cbipush_6 ?_
  refine k_icmp_ge (pc := 64) C 130 dX10_mostAlike_64 (by decide) h (fun c7 h => ?_) (fun c7 h => ?_)
  · refine k_iload (pc := 130) C dX10_mostAlike_130 2 rfl ?_
    exact k_iret (pc := 132) C E (some_1 h) (some_2 h) dX10_mostAlike_132
  · refine k_iconst (pc := 67) (v := (0 : Int32)) C dX10_mostAlike_67 ciconst_0 ?_
    refine k_istore (pc := 68) C [(7, .int (0 : Int32)), (0, .ref (B.1 4 0)), (1, .int x1), (5, .int x5), (6, .int x6)] dX10_mostAlike_68 (by decide) rfl ?_
    refine k_iconst (pc := 70) (v := (0 : Int32)) C dX10_mostAlike_70 ciconst_0 ?_
    refine k_istore (pc := 71) C [(8, .int (0 : Int32)), (7, .int (0 : Int32)), (0, .ref (B.1 4 0)), (1, .int x1), (5, .int x5), (6, .int x6)] dX10_mostAlike_71 (by decide) rfl ?_
    refine k_sub [2, 3, 4, 5, 1, 0] rfl ?_
    exact k_X10_mostAlike_l73 C E hrec60 FU T x1 x5 x6 (0 : Int32) (0 : Int32) h
set_option maxHeartbeats 4000000 in
set_option maxRecDepth 100000 in
theorem k_X10_mostAlike_l60 {B : KB} {X : KE} {res : Int32 × TT} (C : Cx B X "GriefEngine" cX10_mostAlike 9 4) (E : Cr B X (some .int) (some (.int res.1)) res.2) : ∀ (n : Nat) (T : TT) (x1 : Int32) (x5 : Int32) (x6 : Int32) (h : m_X10_mostAlike_l60 n T x1 x5 x6 = some res), Wk B X 9 T 60 [(0, .ref (B.1 4 0)), (1, .int x1), (5, .int x5), (6, .int x6)] [] := by
  intro n
  induction n with
  | zero =>
    intro T x1 x5 x6 h
    exact no_some h
  | succ n ih =>
    intro T x1 x5 x6 h
    exact k_X10_mostAlike_h60 C E (fun T x1 x5 x6 h => ih T x1 x5 x6 h) T x1 x5 x6 h
set_option maxHeartbeats 4000000 in
set_option maxRecDepth 100000 in
theorem k_X10_mostAlike_h3 {B : KB} {X : KE} {rec3 : TT → Int32 → Int32 → Int32 → Int32 → Int32 → Option (Int32 × TT)} {res : Int32 × TT} (C : Cx B X "GriefEngine" cX10_mostAlike 9 4) (E : Cr B X (some .int) (some (.int res.1)) res.2) (hrec3 : ∀ (T : TT) (x1 : Int32) (x2 : Int32) (x3 : Int32) (x4 : Int32) (x5 : Int32), rec3 T x1 x2 x3 x4 x5 = some res → Wk B X 9 T 3 [(0, .ref (B.1 4 0)), (1, .int x1), (2, .int x2), (3, .int x3), (4, .int x4), (5, .int x5)] []) (T : TT) (x1 : Int32) (x2 : Int32) (x3 : Int32) (x4 : Int32) (x5 : Int32) (h : m_X10_mostAlike_h3 rec3 T x1 x2 x3 x4 x5 = some res) : Wk B X 9 T 3 [(0, .ref (B.1 4 0)), (1, .int x1), (2, .int x2), (3, .int x3), (4, .int x4), (5, .int x5)] [] := by
  unfold m_X10_mostAlike_h3 at h
  refine k_iload (pc := 3) C dX10_mostAlike_3 5 rfl ?_
  refine k_bipush (pc := 5) (v := (6 : Int32)) C dX10_mostAlike_5 cbipush_6 ?_
  refine k_icmp_ge (pc := 7) C 54 dX10_mostAlike_7 (by decide) h (fun c6 h => ?_) (fun c6 h => ?_)
  · refine k_iconst (pc := 54) (v := (0 : Int32)) C dX10_mostAlike_54 ciconst_0 ?_
    refine k_istore (pc := 55) C [(5, .int (0 : Int32)), (0, .ref (B.1 4 0)), (1, .int x1), (2, .int x2), (3, .int x3), (4, .int x4)] dX10_mostAlike_55 (by decide) rfl ?_
    refine k_iconst (pc := 57) (v := (0 : Int32)) C dX10_mostAlike_57 ciconst_0 ?_
    refine k_istore (pc := 58) C [(6, .int (0 : Int32)), (5, .int (0 : Int32)), (0, .ref (B.1 4 0)), (1, .int x1), (2, .int x2), (3, .int x3), (4, .int x4)] dX10_mostAlike_58 (by decide) rfl ?_
    refine k_sub [2, 3, 1, 0] rfl ?_
    exact k_X10_mostAlike_l60 C E FU T x1 (0 : Int32) (0 : Int32) h
  · refine k_aload_n (pc := 10) C dX10_mostAlike_10 0 rfl ?_
    refine gf_X10_12 (pc := 11) C dX10_mostAlike_11 ?_
    refine gf_X10_266 (pc := 14) C lt4_0 dX10_mostAlike_14 ?_
    refine k_iload (pc := 17) C dX10_mostAlike_17 5 rfl ?_
    refine k_qald (pc := 19) C (iq_R lt4_0) rfl rfl dX10_mostAlike_19 h (fun hi1 h => ?_)
    refine k_astore (pc := 20) C [(6, .ref (B.1 0 (8 + (Int32.toNatClampNeg x5)))), (0, .ref (B.1 4 0)), (1, .int x1), (2, .int x2), (3, .int x3), (4, .int x4), (5, .int x5)] dX10_mostAlike_20 (by decide) rfl ?_
    refine k_aload_n (pc := 22) C dX10_mostAlike_22 1 rfl ?_
    refine gf_X10_48 (pc := 23) C dX10_mostAlike_23 ?_
    refine k_iload (pc := 26) C dX10_mostAlike_26 6 rfl ?_
    refine k_aload (pc := 28) C dX10_mostAlike_28 0 rfl ?_
    refine k_iload_n (pc := 30) C dX10_mostAlike_30 3 rfl ?_
    refine k_iload_n (pc := 31) C dX10_mostAlike_31 4 rfl ?_
    obtain ⟨z2, e2, h⟩ := bnd h
    refine kv_runs (pc := 32) C lk_X10_160 (by decide) (kok_R lt4_0 hi1) e2 dX10_mostAlike_32 (Nat.le_of_ble_eq_true rfl) ?_
    refine k_bipush (pc := 35) (v := (100 : Int32)) C dX10_mostAlike_35 cbipush_100 ?_
    refine k_imul (pc := 37) C dX10_mostAlike_37 ?_
    refine k_aload (pc := 38) C dX10_mostAlike_38 0 rfl ?_
    refine k_iload (pc := 40) C dX10_mostAlike_40 5 rfl ?_
    refine k_iload_n (pc := 42) C dX10_mostAlike_42 4 rfl ?_
    obtain ⟨z3, e3, h⟩ := bnd h
    refine kv_left (pc := 43) C lk_X10_165 (by decide) (kok_R lt4_0 hi1) e3 dX10_mostAlike_43 (Nat.le_of_ble_eq_true rfl) ?_
    refine k_iadd (pc := 46) C dX10_mostAlike_46 ?_
    refine k_iast (pc := 47) C ia_4_3 dX10_mostAlike_47 h (fun h => ?_)
    refine k_nT h (fun T4 h => ?_)
    refine k_iincN (pc := 48) (x := x5) (c := (1 : Int32)) C (fun y5 => [(5, .int y5), (6, .ref (B.1 0 (8 + (Int32.toNatClampNeg x5)))), (0, .ref (B.1 4 0)), (1, .int x1), (2, .int x2), (3, .int x3), (4, .int x4)]) dX10_mostAlike_48 6 rfl ciconst_1 (by decide) (fun _ => rfl) h (fun y5 h => ?_)
    refine k_goto (pc := 51) C 3 dX10_mostAlike_51 (by decide) ?_
    refine k_sub [2, 3, 4, 5, 6, 0] rfl ?_
    exact hrec3 T4 x1 x2 x3 x4 y5 h
set_option maxHeartbeats 4000000 in
set_option maxRecDepth 100000 in
theorem k_X10_mostAlike_l3 {B : KB} {X : KE} {res : Int32 × TT} (C : Cx B X "GriefEngine" cX10_mostAlike 9 4) (E : Cr B X (some .int) (some (.int res.1)) res.2) : ∀ (n : Nat) (T : TT) (x1 : Int32) (x2 : Int32) (x3 : Int32) (x4 : Int32) (x5 : Int32) (h : m_X10_mostAlike_l3 n T x1 x2 x3 x4 x5 = some res), Wk B X 9 T 3 [(0, .ref (B.1 4 0)), (1, .int x1), (2, .int x2), (3, .int x3), (4, .int x4), (5, .int x5)] [] := by
  intro n
  induction n with
  | zero =>
    intro T x1 x2 x3 x4 x5 h
    exact no_some h
  | succ n ih =>
    intro T x1 x2 x3 x4 x5 h
    exact k_X10_mostAlike_h3 C E (fun T x1 x2 x3 x4 x5 h => ih T x1 x2 x3 x4 x5 h) T x1 x2 x3 x4 x5 h
set_option maxHeartbeats 4000000 in
set_option maxRecDepth 100000 in
theorem kc_X10_mostAlike {B : KB} {l : Launch} {T : TT} {x1 : Int32} {x2 : Int32} {x3 : Int32} {x4 : Int32} {res : Int32 × TT} (h : m_X10_mostAlike T x1 x2 x3 x4 = some res) : Kt B l 4 yX10_mostAlike cX10_mostAlike 9 (some .int) T [.ref (B.1 4 0), .int x1, .int x2, .int x3, .int x4] (some (.int res.1)) res.2 := by
  refine Kt.of (by decide) (Nat.le_of_ble_eq_true rfl) (fun X hX C E => ?_)
  subst hX
  have C : Cx B X "GriefEngine" cX10_mostAlike 9 4 := C
  show Wk B X 9 T 0 [(0, .ref (B.1 4 0)), (1, .int x1), (2, .int x2), (3, .int x3), (4, .int x4)] []
  unfold m_X10_mostAlike at h
  refine k_iconst (pc := 0) (v := (0 : Int32)) C dX10_mostAlike_0 ciconst_0 ?_
  refine k_istore (pc := 1) C [(5, .int (0 : Int32)), (0, .ref (B.1 4 0)), (1, .int x1), (2, .int x2), (3, .int x3), (4, .int x4)] dX10_mostAlike_1 (by decide) rfl ?_
  refine k_sub [1, 2, 3, 4, 5, 0] rfl ?_
  exact k_X10_mostAlike_l3 C E FU T x1 x2 x3 x4 (0 : Int32) h
def m_X10_bestMorning_b55 (rec9 : TT → Int32 → Int32 → Int32 → Int32 → Int32 → Option (Int32 × TT)) (rec18 : TT → Int32 → Int32 → Int32 → Int32 → Int32 → Int32 → Option (Int32 × TT)) (T : TT) (x1 : Int32) (x2 : Int32) (x3 : Int32) (x4 : Int32) (x5 : Int32) (x6 : Int32) : Option (Int32 × TT) := bT (x6 + (1 : Int32)) (fun y7 => rec18 T x1 x2 x3 x4 x5 y7)
def m_X10_bestMorning_h18 (rec9 : TT → Int32 → Int32 → Int32 → Int32 → Int32 → Option (Int32 × TT)) (rec18 : TT → Int32 → Int32 → Int32 → Int32 → Int32 → Int32 → Option (Int32 × TT)) (T : TT) (x1 : Int32) (x2 : Int32) (x3 : Int32) (x4 : Int32) (x5 : Int32) (x6 : Int32) : Option (Int32 × TT) := if (3 : Int32) ≤ x6 then (bT (x5 + (1 : Int32)) (fun y2 => rec9 T x1 x2 x3 x4 y2)) else ((m_X10_mostAlike T x1 x5 x2 x6).bind (fun z3 => if x3 ≤ z3.1 then (m_X10_bestMorning_b55 rec9 rec18 z3.2 x1 x2 x3 x4 x5 x6) else (bT (((10 : Int32) * x5) + x6) (fun y4 => m_X10_bestMorning_b55 rec9 rec18 z3.2 x1 x2 z3.1 y4 x5 x6))))
def m_X10_bestMorning_l18 (rec9 : TT → Int32 → Int32 → Int32 → Int32 → Int32 → Option (Int32 × TT)) : Nat → TT → Int32 → Int32 → Int32 → Int32 → Int32 → Int32 → Option (Int32 × TT)
  | 0 => fun _ _ _ _ _ _ _ => none
  | n + 1 => fun T x1 x2 x3 x4 x5 x6 => m_X10_bestMorning_h18 rec9 (m_X10_bestMorning_l18 rec9 n) T x1 x2 x3 x4 x5 x6
def m_X10_bestMorning_h9 (rec9 : TT → Int32 → Int32 → Int32 → Int32 → Int32 → Option (Int32 × TT)) (T : TT) (x1 : Int32) (x2 : Int32) (x3 : Int32) (x4 : Int32) (x5 : Int32) : Option (Int32 × TT) := if (4 : Int32) ≤ x5 then (some (x4, T)) else (m_X10_bestMorning_l18 rec9 FU T x1 x2 x3 x4 x5 (0 : Int32))
def m_X10_bestMorning_l9 : Nat → TT → Int32 → Int32 → Int32 → Int32 → Int32 → Option (Int32 × TT)
  | 0 => fun _ _ _ _ _ _ => none
  | n + 1 => fun T x1 x2 x3 x4 x5 => m_X10_bestMorning_h9 (m_X10_bestMorning_l9 n) T x1 x2 x3 x4 x5
def m_X10_bestMorning (T : TT) (x1 : Int32) (x2 : Int32) : Option (Int32 × TT) := m_X10_bestMorning_l9 FU T x1 x2 (7 : Int32) (-1 : Int32) (0 : Int32)
set_option maxHeartbeats 4000000 in
set_option maxRecDepth 100000 in
theorem k_X10_bestMorning_b55 {B : KB} {X : KE} {rec9 : TT → Int32 → Int32 → Int32 → Int32 → Int32 → Option (Int32 × TT)} {rec18 : TT → Int32 → Int32 → Int32 → Int32 → Int32 → Int32 → Option (Int32 × TT)} {res : Int32 × TT} (C : Cx B X "GriefEngine" cX10_bestMorning 8 5) (E : Cr B X (some .int) (some (.int res.1)) res.2) (hrec9 : ∀ (T : TT) (x1 : Int32) (x2 : Int32) (x3 : Int32) (x4 : Int32) (x5 : Int32), rec9 T x1 x2 x3 x4 x5 = some res → Wk B X 8 T 9 [(0, .ref (B.1 4 0)), (1, .int x1), (2, .int x2), (3, .int x3), (4, .int x4), (5, .int x5)] []) (hrec18 : ∀ (T : TT) (x1 : Int32) (x2 : Int32) (x3 : Int32) (x4 : Int32) (x5 : Int32) (x6 : Int32), rec18 T x1 x2 x3 x4 x5 x6 = some res → Wk B X 8 T 18 [(0, .ref (B.1 4 0)), (1, .int x1), (2, .int x2), (3, .int x3), (4, .int x4), (5, .int x5), (6, .int x6)] []) (T : TT) (x1 : Int32) (x2 : Int32) (x3 : Int32) (x4 : Int32) (x5 : Int32) (x6 : Int32) (h : m_X10_bestMorning_b55 rec9 rec18 T x1 x2 x3 x4 x5 x6 = some res) : Wk B X 8 T 55 [(0, .ref (B.1 4 0)), (1, .int x1), (2, .int x2), (3, .int x3), (4, .int x4), (5, .int x5), (6, .int x6)] [] := by
  unfold m_X10_bestMorning_b55 at h
  refine k_iincN (pc := 55) (x := x6) (c := (1 : Int32)) C (fun y7 => [(6, .int y7), (0, .ref (B.1 4 0)), (1, .int x1), (2, .int x2), (3, .int x3), (4, .int x4), (5, .int x5)]) dX10_bestMorning_55 6 rfl ciconst_1 (by decide) (fun _ => rfl) h (fun y7 h => ?_)
  refine k_goto (pc := 58) C 18 dX10_bestMorning_58 (by decide) ?_
  refine k_sub [1, 2, 3, 4, 5, 6, 0] rfl ?_
  exact hrec18 T x1 x2 x3 x4 x5 y7 h
set_option maxHeartbeats 4000000 in
set_option maxRecDepth 100000 in
theorem k_X10_bestMorning_h18 {B : KB} {X : KE} {rec9 : TT → Int32 → Int32 → Int32 → Int32 → Int32 → Option (Int32 × TT)} {rec18 : TT → Int32 → Int32 → Int32 → Int32 → Int32 → Int32 → Option (Int32 × TT)} {res : Int32 × TT} (C : Cx B X "GriefEngine" cX10_bestMorning 8 5) (E : Cr B X (some .int) (some (.int res.1)) res.2) (hrec9 : ∀ (T : TT) (x1 : Int32) (x2 : Int32) (x3 : Int32) (x4 : Int32) (x5 : Int32), rec9 T x1 x2 x3 x4 x5 = some res → Wk B X 8 T 9 [(0, .ref (B.1 4 0)), (1, .int x1), (2, .int x2), (3, .int x3), (4, .int x4), (5, .int x5)] []) (hrec18 : ∀ (T : TT) (x1 : Int32) (x2 : Int32) (x3 : Int32) (x4 : Int32) (x5 : Int32) (x6 : Int32), rec18 T x1 x2 x3 x4 x5 x6 = some res → Wk B X 8 T 18 [(0, .ref (B.1 4 0)), (1, .int x1), (2, .int x2), (3, .int x3), (4, .int x4), (5, .int x5), (6, .int x6)] []) (T : TT) (x1 : Int32) (x2 : Int32) (x3 : Int32) (x4 : Int32) (x5 : Int32) (x6 : Int32) (h : m_X10_bestMorning_h18 rec9 rec18 T x1 x2 x3 x4 x5 x6 = some res) : Wk B X 8 T 18 [(0, .ref (B.1 4 0)), (1, .int x1), (2, .int x2), (3, .int x3), (4, .int x4), (5, .int x5), (6, .int x6)] [] := by
  unfold m_X10_bestMorning_h18 at h
  refine k_iload (pc := 18) C dX10_bestMorning_18 6 rfl ?_
  refine k_iconst (pc := 20) (v := (3 : Int32)) C dX10_bestMorning_20 ciconst_3 ?_
  refine k_icmp_ge (pc := 21) C 61 dX10_bestMorning_21 (by decide) h (fun c6 h => ?_) (fun c6 h => ?_)
  · refine k_iincN (pc := 61) (x := x5) (c := (1 : Int32)) C (fun y2 => [(5, .int y2), (0, .ref (B.1 4 0)), (1, .int x1), (2, .int x2), (3, .int x3), (4, .int x4), (6, .int x6)]) dX10_bestMorning_61 5 rfl ciconst_1 (by decide) (fun _ => rfl) h (fun y2 h => ?_)
    refine k_goto (pc := 64) C 9 dX10_bestMorning_64 (by decide) ?_
    refine k_sub [1, 2, 3, 4, 5, 0] rfl ?_
    exact hrec9 T x1 x2 x3 x4 y2 h
  · refine k_aload_n (pc := 24) C dX10_bestMorning_24 0 rfl ?_
    refine k_iload_n (pc := 25) C dX10_bestMorning_25 1 rfl ?_
    refine k_iload (pc := 26) C dX10_bestMorning_26 5 rfl ?_
    refine k_iload_n (pc := 28) C dX10_bestMorning_28 2 rfl ?_
    refine k_iload (pc := 29) C dX10_bestMorning_29 6 rfl ?_
    obtain ⟨z3, e3, h⟩ := bnd h
    refine k_callvI (pc := 31) C lk_X10_274 (by decide) ix_X10 wo_X10 rfl rfl (kc_X10_mostAlike e3) dX10_bestMorning_31 rfl rfl (Nat.le_of_ble_eq_true rfl) ?_
    refine k_istore (pc := 34) C [(7, .int z3.1), (0, .ref (B.1 4 0)), (1, .int x1), (2, .int x2), (3, .int x3), (4, .int x4), (5, .int x5), (6, .int x6)] dX10_bestMorning_34 (by decide) rfl ?_
    refine k_iload (pc := 36) C dX10_bestMorning_36 0 rfl ?_
    refine k_iload_n (pc := 38) C dX10_bestMorning_38 4 rfl ?_
    refine k_icmp_ge (pc := 39) C 55 dX10_bestMorning_39 (by decide) h (fun c5 h => ?_) (fun c5 h => ?_)
    · refine k_sub [1, 2, 3, 4, 5, 6, 7] rfl ?_
      exact k_X10_bestMorning_b55 C E hrec9 hrec18 z3.2 x1 x2 x3 x4 x5 x6 h
    · refine k_iload (pc := 42) C dX10_bestMorning_42 0 rfl ?_
      refine k_istore_n (pc := 44) C [(3, .int z3.1), (7, .int z3.1), (0, .ref (B.1 4 0)), (1, .int x1), (2, .int x2), (4, .int x4), (5, .int x5), (6, .int x6)] dX10_bestMorning_44 (by decide) rfl ?_
      refine k_bipush (pc := 45) (v := (10 : Int32)) C dX10_bestMorning_45 cbipush_10 ?_
      refine k_iload (pc := 47) C dX10_bestMorning_47 6 rfl ?_
      refine k_imul (pc := 49) C dX10_bestMorning_49 ?_
      refine k_iload (pc := 50) C dX10_bestMorning_50 7 rfl ?_
      refine k_iadd (pc := 52) C dX10_bestMorning_52 ?_
      refine k_nI h (fun y4 h => ?_)
      refine k_istore (pc := 53) C [(4, .int y4), (3, .int z3.1), (7, .int z3.1), (0, .ref (B.1 4 0)), (1, .int x1), (2, .int x2), (5, .int x5), (6, .int x6)] dX10_bestMorning_53 (by decide) rfl ?_
      refine k_sub [3, 4, 5, 1, 0, 6, 7] rfl ?_
      exact k_X10_bestMorning_b55 C E hrec9 hrec18 z3.2 x1 x2 z3.1 y4 x5 x6 h
set_option maxHeartbeats 4000000 in
set_option maxRecDepth 100000 in
theorem k_X10_bestMorning_l18 {B : KB} {X : KE} {rec9 : TT → Int32 → Int32 → Int32 → Int32 → Int32 → Option (Int32 × TT)} {res : Int32 × TT} (C : Cx B X "GriefEngine" cX10_bestMorning 8 5) (E : Cr B X (some .int) (some (.int res.1)) res.2) (hrec9 : ∀ (T : TT) (x1 : Int32) (x2 : Int32) (x3 : Int32) (x4 : Int32) (x5 : Int32), rec9 T x1 x2 x3 x4 x5 = some res → Wk B X 8 T 9 [(0, .ref (B.1 4 0)), (1, .int x1), (2, .int x2), (3, .int x3), (4, .int x4), (5, .int x5)] []) : ∀ (n : Nat) (T : TT) (x1 : Int32) (x2 : Int32) (x3 : Int32) (x4 : Int32) (x5 : Int32) (x6 : Int32) (h : m_X10_bestMorning_l18 rec9 n T x1 x2 x3 x4 x5 x6 = some res), Wk B X 8 T 18 [(0, .ref (B.1 4 0)), (1, .int x1), (2, .int x2), (3, .int x3), (4, .int x4), (5, .int x5), (6, .int x6)] [] := by
  intro n
  induction n with
  | zero =>
    intro T x1 x2 x3 x4 x5 x6 h
    exact no_some h
  | succ n ih =>
    intro T x1 x2 x3 x4 x5 x6 h
    exact k_X10_bestMorning_h18 C E hrec9 (fun T x1 x2 x3 x4 x5 x6 h => ih T x1 x2 x3 x4 x5 x6 h) T x1 x2 x3 x4 x5 x6 h
set_option maxHeartbeats 4000000 in
set_option maxRecDepth 100000 in
theorem k_X10_bestMorning_h9 {B : KB} {X : KE} {rec9 : TT → Int32 → Int32 → Int32 → Int32 → Int32 → Option (Int32 × TT)} {res : Int32 × TT} (C : Cx B X "GriefEngine" cX10_bestMorning 8 5) (E : Cr B X (some .int) (some (.int res.1)) res.2) (hrec9 : ∀ (T : TT) (x1 : Int32) (x2 : Int32) (x3 : Int32) (x4 : Int32) (x5 : Int32), rec9 T x1 x2 x3 x4 x5 = some res → Wk B X 8 T 9 [(0, .ref (B.1 4 0)), (1, .int x1), (2, .int x2), (3, .int x3), (4, .int x4), (5, .int x5)] []) (T : TT) (x1 : Int32) (x2 : Int32) (x3 : Int32) (x4 : Int32) (x5 : Int32) (h : m_X10_bestMorning_h9 rec9 T x1 x2 x3 x4 x5 = some res) : Wk B X 8 T 9 [(0, .ref (B.1 4 0)), (1, .int x1), (2, .int x2), (3, .int x3), (4, .int x4), (5, .int x5)] [] := by
  unfold m_X10_bestMorning_h9 at h
  refine k_iload (pc := 9) C dX10_bestMorning_9 5 rfl ?_
  refine k_iconst (pc := 11) (v := (4 : Int32)) C dX10_bestMorning_11 ciconst_4 ?_
  refine k_icmp_ge (pc := 12) C 67 dX10_bestMorning_12 (by decide) h (fun c1 h => ?_) (fun c1 h => ?_)
  · refine k_iload (pc := 67) C dX10_bestMorning_67 4 rfl ?_
    exact k_iret (pc := 69) C E (some_1 h) (some_2 h) dX10_bestMorning_69
  · refine k_iconst (pc := 15) (v := (0 : Int32)) C dX10_bestMorning_15 ciconst_0 ?_
    refine k_istore (pc := 16) C [(6, .int (0 : Int32)), (0, .ref (B.1 4 0)), (1, .int x1), (2, .int x2), (3, .int x3), (4, .int x4), (5, .int x5)] dX10_bestMorning_16 (by decide) rfl ?_
    refine k_sub [1, 2, 3, 4, 5, 6, 0] rfl ?_
    exact k_X10_bestMorning_l18 C E hrec9 FU T x1 x2 x3 x4 x5 (0 : Int32) h
set_option maxHeartbeats 4000000 in
set_option maxRecDepth 100000 in
theorem k_X10_bestMorning_l9 {B : KB} {X : KE} {res : Int32 × TT} (C : Cx B X "GriefEngine" cX10_bestMorning 8 5) (E : Cr B X (some .int) (some (.int res.1)) res.2) : ∀ (n : Nat) (T : TT) (x1 : Int32) (x2 : Int32) (x3 : Int32) (x4 : Int32) (x5 : Int32) (h : m_X10_bestMorning_l9 n T x1 x2 x3 x4 x5 = some res), Wk B X 8 T 9 [(0, .ref (B.1 4 0)), (1, .int x1), (2, .int x2), (3, .int x3), (4, .int x4), (5, .int x5)] [] := by
  intro n
  induction n with
  | zero =>
    intro T x1 x2 x3 x4 x5 h
    exact no_some h
  | succ n ih =>
    intro T x1 x2 x3 x4 x5 h
    exact k_X10_bestMorning_h9 C E (fun T x1 x2 x3 x4 x5 h => ih T x1 x2 x3 x4 x5 h) T x1 x2 x3 x4 x5 h
set_option maxHeartbeats 4000000 in
set_option maxRecDepth 100000 in
theorem kc_X10_bestMorning {B : KB} {l : Launch} {T : TT} {x1 : Int32} {x2 : Int32} {res : Int32 × TT} (h : m_X10_bestMorning T x1 x2 = some res) : Kt B l 5 yX10_bestMorning cX10_bestMorning 8 (some .int) T [.ref (B.1 4 0), .int x1, .int x2] (some (.int res.1)) res.2 := by
  refine Kt.of (by decide) (Nat.le_of_ble_eq_true rfl) (fun X hX C E => ?_)
  subst hX
  have C : Cx B X "GriefEngine" cX10_bestMorning 8 5 := C
  show Wk B X 8 T 0 [(0, .ref (B.1 4 0)), (1, .int x1), (2, .int x2)] []
  unfold m_X10_bestMorning at h
  refine k_bipush (pc := 0) (v := (7 : Int32)) C dX10_bestMorning_0 cbipush_7 ?_
  refine k_istore_n (pc := 2) C [(3, .int (7 : Int32)), (0, .ref (B.1 4 0)), (1, .int x1), (2, .int x2)] dX10_bestMorning_2 (by decide) rfl ?_
  refine k_iconst (pc := 3) (v := (-1 : Int32)) C dX10_bestMorning_3 ciconst_m1 ?_
  refine k_istore (pc := 4) C [(4, .int (-1 : Int32)), (3, .int (7 : Int32)), (0, .ref (B.1 4 0)), (1, .int x1), (2, .int x2)] dX10_bestMorning_4 (by decide) rfl ?_
  refine k_iconst (pc := 6) (v := (0 : Int32)) C dX10_bestMorning_6 ciconst_0 ?_
  refine k_istore (pc := 7) C [(5, .int (0 : Int32)), (4, .int (-1 : Int32)), (3, .int (7 : Int32)), (0, .ref (B.1 4 0)), (1, .int x1), (2, .int x2)] dX10_bestMorning_7 (by decide) rfl ?_
  refine k_sub [3, 4, 5, 2, 1, 0] rfl ?_
  exact k_X10_bestMorning_l9 C E FU T x1 x2 (7 : Int32) (-1 : Int32) (0 : Int32) h
def m_X10_look (T : TT) (x1 : Int32) : Option (Int32 × TT) := (m_X4_has T 0 x1).bind (fun z1 => if z1 = 0 then ((m_X10_refuse T (-2 : Int32)).bind (fun z5 => some (z5.1, z5.2))) else ((m_X10_kindsThatFit T x1).bind (fun z2 => if z2 = 0 then (some ((-1 : Int32), T)) else (if inb x1 6 then ((m_X10_bestMorning T z2 (T.1 0 3 (Int32.toNatClampNeg x1))).bind (fun z3 => some (z3.1, z3.2))) else none))))
set_option maxHeartbeats 4000000 in
set_option maxRecDepth 100000 in
theorem kc_X10_look {B : KB} {l : Launch} {T : TT} {x1 : Int32} {res : Int32 × TT} (h : m_X10_look T x1 = some res) : Kt B l 6 yX10_look cX10_look 3 (some .int) T [.ref (B.1 4 0), .int x1] (some (.int res.1)) res.2 := by
  refine Kt.of (by decide) (Nat.le_of_ble_eq_true rfl) (fun X hX C E => ?_)
  subst hX
  have C : Cx B X "GriefEngine" cX10_look 3 6 := C
  show Wk B X 3 T 0 [(0, .ref (B.1 4 0)), (1, .int x1)] []
  unfold m_X10_look at h
  refine k_aload_n (pc := 0) C dX10_look_0 0 rfl ?_
  refine gf_X10_12 (pc := 1) C dX10_look_1 ?_
  refine k_iload_n (pc := 4) C dX10_look_4 1 rfl ?_
  obtain ⟨z1, e1, h⟩ := bnd h
  refine k_callvI (pc := 5) C lk_X10_132 (by decide) (ix_X4 lt4_0) (wo_X4 lt4_0) rfl rfl (kc_X4_has lt4_0 e1) dX10_look_5 rfl rfl (Nat.le_of_ble_eq_true rfl) ?_
  refine k_if_ne (pc := 8) C 18 dX10_look_8 (by decide) h (fun c6 h => ?_) (fun c6 h => ?_)
  · refine k_aload_n (pc := 18) C dX10_look_18 0 rfl ?_
    refine k_iload_n (pc := 19) C dX10_look_19 1 rfl ?_
    obtain ⟨z2, e2, h⟩ := bnd h
    refine k_callvI (pc := 20) C lk_X10_209 (by decide) ix_X10 wo_X10 rfl rfl (kc_X10_kindsThatFit e2) dX10_look_20 rfl rfl (Nat.le_of_ble_eq_true rfl) ?_
    refine k_istore_n (pc := 23) C [(2, .int z2), (0, .ref (B.1 4 0)), (1, .int x1)] dX10_look_23 (by decide) rfl ?_
    refine k_iload_n (pc := 24) C dX10_look_24 0 rfl ?_
    refine k_if_ne (pc := 25) C 32 dX10_look_25 (by decide) h (fun c4 h => ?_) (fun c4 h => ?_)
    · refine k_aload_n (pc := 32) C dX10_look_32 1 rfl ?_
      refine k_iload_n (pc := 33) C dX10_look_33 0 rfl ?_
      refine k_aload_n (pc := 34) C dX10_look_34 1 rfl ?_
      refine gf_X10_12 (pc := 35) C dX10_look_35 ?_
      refine gf_X10_147 (pc := 38) C lt4_0 dX10_look_38 ?_
      refine k_iload_n (pc := 41) C dX10_look_41 2 rfl ?_
      refine k_iald (pc := 42) C (ia_R3 lt4_0) dX10_look_42 h (fun h => ?_)
      obtain ⟨z3, e3, h⟩ := bnd h
      refine k_callvI (pc := 43) C lk_X10_212 (by decide) ix_X10 wo_X10 rfl rfl (kc_X10_bestMorning e3) dX10_look_43 rfl rfl (Nat.le_of_ble_eq_true rfl) ?_
      exact k_iret (pc := 46) C E (some_1 h) (some_2 h) dX10_look_46
    · refine k_iconst (pc := 28) (v := (-1 : Int32)) C dX10_look_28 ciconst_m1 ?_
      refine k_goto (pc := 29) C 46 dX10_look_29 (by decide) ?_
      exact k_iret (pc := 46) C E (some_1 h) (some_2 h) dX10_look_46
  · refine k_aload_n (pc := 11) C dX10_look_11 0 rfl ?_
    refine k_bipush (pc := 12) (v := (-2 : Int32)) C dX10_look_12 cbipush_m2 ?_
    obtain ⟨z5, e5, h⟩ := bnd h
    refine k_callvI (pc := 14) C lk_X10_73 (by decide) ix_X10 wo_X10 rfl rfl (kc_X10_refuse e5) dX10_look_14 rfl rfl (Nat.le_of_ble_eq_true rfl) ?_
    exact k_iret (pc := 17) C E (some_1 h) (some_2 h) dX10_look_17
def m_X10_had_b73 (rec35 : TT → Int32 → Int32 → Int32 → Int32 → Int32 → Option (Int32 × TT)) (T : TT) (x1 : Int32) (x2 : Int32) (x3 : Int32) (x4 : Int32) (x5 : Int32) : Option (Int32 × TT) := bT (x5 + (1 : Int32)) (fun y11 => rec35 T x1 x2 x3 x4 y11)
def m_X10_had_b71 (rec35 : TT → Int32 → Int32 → Int32 → Int32 → Int32 → Option (Int32 × TT)) (T : TT) (x1 : Int32) (x2 : Int32) (x3 : Int32) (x5 : Int32) (s0 : Int32) : Option (Int32 × TT) := m_X10_had_b73 rec35 T x1 x2 x3 s0 x5
def m_X10_had_h35 (rec35 : TT → Int32 → Int32 → Int32 → Int32 → Int32 → Option (Int32 × TT)) (T : TT) (x1 : Int32) (x2 : Int32) (x3 : Int32) (x4 : Int32) (x5 : Int32) : Option (Int32 × TT) := if (100 : Int32) ≤ x5 then (if x2 = 0 then (some (x3, T)) else (some (x4, T))) else ((m_X4_tripsFit T 0 x1 x5).bind (fun z6 => if z6 = 0 then (m_X10_had_b73 rec35 T x1 x2 x3 x4 x5) else (bT (x3 + (1 : Int32)) (fun y7 => if x4 = (-1 : Int32) then (m_X10_had_b71 rec35 T x1 x2 y7 x5 x5) else (m_X10_had_b71 rec35 T x1 x2 y7 x5 x4)))))
def m_X10_had_l35 : Nat → TT → Int32 → Int32 → Int32 → Int32 → Int32 → Option (Int32 × TT)
  | 0 => fun _ _ _ _ _ _ => none
  | n + 1 => fun T x1 x2 x3 x4 x5 => m_X10_had_h35 (m_X10_had_l35 n) T x1 x2 x3 x4 x5
def m_X10_had_b20 (T : TT) : Option (Int32 × TT) := (m_X10_refuse T (-2 : Int32)).bind (fun z12 => some (z12.1, z12.2))
def m_X10_had (T : TT) (x1 : Int32) (x2 : Int32) : Option (Int32 × TT) := (m_X4_has T 0 x1).bind (fun z1 => if z1 = 0 then (m_X10_had_b20 T) else ((m_X10_within x2 (0 : Int32) (1 : Int32)).bind (fun z2 => if z2 = 0 then (m_X10_had_b20 T) else (m_X10_had_l35 FU T x1 x2 (0 : Int32) (-1 : Int32) (0 : Int32)))))
set_option maxHeartbeats 4000000 in
set_option maxRecDepth 100000 in
theorem k_X10_had_b73 {B : KB} {X : KE} {rec35 : TT → Int32 → Int32 → Int32 → Int32 → Int32 → Option (Int32 × TT)} {res : Int32 × TT} (C : Cx B X "GriefEngine" cX10_had 6 6) (E : Cr B X (some .int) (some (.int res.1)) res.2) (hrec35 : ∀ (T : TT) (x1 : Int32) (x2 : Int32) (x3 : Int32) (x4 : Int32) (x5 : Int32), rec35 T x1 x2 x3 x4 x5 = some res → Wk B X 6 T 35 [(0, .ref (B.1 4 0)), (1, .int x1), (2, .int x2), (3, .int x3), (4, .int x4), (5, .int x5)] []) (T : TT) (x1 : Int32) (x2 : Int32) (x3 : Int32) (x4 : Int32) (x5 : Int32) (h : m_X10_had_b73 rec35 T x1 x2 x3 x4 x5 = some res) : Wk B X 6 T 73 [(0, .ref (B.1 4 0)), (1, .int x1), (2, .int x2), (3, .int x3), (4, .int x4), (5, .int x5)] [] := by
  unfold m_X10_had_b73 at h
  refine k_iincN (pc := 73) (x := x5) (c := (1 : Int32)) C (fun y11 => [(5, .int y11), (0, .ref (B.1 4 0)), (1, .int x1), (2, .int x2), (3, .int x3), (4, .int x4)]) dX10_had_73 5 rfl ciconst_1 (by decide) (fun _ => rfl) h (fun y11 h => ?_)
  refine k_goto (pc := 76) C 35 dX10_had_76 (by decide) ?_
  refine k_sub [1, 2, 3, 4, 5, 0] rfl ?_
  exact hrec35 T x1 x2 x3 x4 y11 h
set_option maxHeartbeats 4000000 in
set_option maxRecDepth 100000 in
theorem k_X10_had_b71 {B : KB} {X : KE} {rec35 : TT → Int32 → Int32 → Int32 → Int32 → Int32 → Option (Int32 × TT)} {res : Int32 × TT} (C : Cx B X "GriefEngine" cX10_had 6 6) (E : Cr B X (some .int) (some (.int res.1)) res.2) (hrec35 : ∀ (T : TT) (x1 : Int32) (x2 : Int32) (x3 : Int32) (x4 : Int32) (x5 : Int32), rec35 T x1 x2 x3 x4 x5 = some res → Wk B X 6 T 35 [(0, .ref (B.1 4 0)), (1, .int x1), (2, .int x2), (3, .int x3), (4, .int x4), (5, .int x5)] []) (T : TT) (x1 : Int32) (x2 : Int32) (x3 : Int32) (x5 : Int32) (s0 : Int32) (h : m_X10_had_b71 rec35 T x1 x2 x3 x5 s0 = some res) : Wk B X 6 T 71 [(0, .ref (B.1 4 0)), (1, .int x1), (2, .int x2), (3, .int x3), (5, .int x5)] [.int s0] := by
  unfold m_X10_had_b71 at h
  refine k_istore (pc := 71) C [(4, .int s0), (0, .ref (B.1 4 0)), (1, .int x1), (2, .int x2), (3, .int x3), (5, .int x5)] dX10_had_71 (by decide) rfl ?_
  refine k_sub [1, 2, 3, 4, 0, 5] rfl ?_
  exact k_X10_had_b73 C E hrec35 T x1 x2 x3 s0 x5 h
set_option maxHeartbeats 4000000 in
set_option maxRecDepth 100000 in
theorem k_X10_had_h35 {B : KB} {X : KE} {rec35 : TT → Int32 → Int32 → Int32 → Int32 → Int32 → Option (Int32 × TT)} {res : Int32 × TT} (C : Cx B X "GriefEngine" cX10_had 6 6) (E : Cr B X (some .int) (some (.int res.1)) res.2) (hrec35 : ∀ (T : TT) (x1 : Int32) (x2 : Int32) (x3 : Int32) (x4 : Int32) (x5 : Int32), rec35 T x1 x2 x3 x4 x5 = some res → Wk B X 6 T 35 [(0, .ref (B.1 4 0)), (1, .int x1), (2, .int x2), (3, .int x3), (4, .int x4), (5, .int x5)] []) (T : TT) (x1 : Int32) (x2 : Int32) (x3 : Int32) (x4 : Int32) (x5 : Int32) (h : m_X10_had_h35 rec35 T x1 x2 x3 x4 x5 = some res) : Wk B X 6 T 35 [(0, .ref (B.1 4 0)), (1, .int x1), (2, .int x2), (3, .int x3), (4, .int x4), (5, .int x5)] [] := by
  unfold m_X10_had_h35 at h
  refine k_iload (pc := 35) C dX10_had_35 5 rfl ?_
  refine k_bipush (pc := 37) (v := (100 : Int32)) C dX10_had_37 cbipush_100 ?_
  refine k_icmp_ge (pc := 39) C 79 dX10_had_39 (by decide) h (fun c10 h => ?_) (fun c10 h => ?_)
  · refine k_iload_n (pc := 79) C dX10_had_79 2 rfl ?_
    refine k_if_ne (pc := 80) C 87 dX10_had_80 (by decide) h (fun c5 h => ?_) (fun c5 h => ?_)
    · refine k_iload (pc := 87) C dX10_had_87 4 rfl ?_
      exact k_iret (pc := 89) C E (some_1 h) (some_2 h) dX10_had_89
    · refine k_iload_n (pc := 83) C dX10_had_83 3 rfl ?_
      refine k_goto (pc := 84) C 89 dX10_had_84 (by decide) ?_
      exact k_iret (pc := 89) C E (some_1 h) (some_2 h) dX10_had_89
  · refine k_aload_n (pc := 42) C dX10_had_42 0 rfl ?_
    refine gf_X10_12 (pc := 43) C dX10_had_43 ?_
    refine k_iload_n (pc := 46) C dX10_had_46 1 rfl ?_
    refine k_iload (pc := 47) C dX10_had_47 5 rfl ?_
    obtain ⟨z6, e6, h⟩ := bnd h
    refine k_callvI (pc := 49) C lk_X10_215 (by decide) (ix_X4 lt4_0) (wo_X4 lt4_0) rfl rfl (kc_X4_tripsFit lt4_0 e6) dX10_had_49 rfl rfl (Nat.le_of_ble_eq_true rfl) ?_
    refine k_if_eq (pc := 52) C 73 dX10_had_52 (by decide) h (fun c9 h => ?_) (fun c9 h => ?_)
    · refine k_sub [0, 1, 2, 3, 4, 5] rfl ?_
      exact k_X10_had_b73 C E hrec35 T x1 x2 x3 x4 x5 h
    · refine k_iincN (pc := 55) (x := x3) (c := (1 : Int32)) C (fun y7 => [(3, .int y7), (0, .ref (B.1 4 0)), (1, .int x1), (2, .int x2), (4, .int x4), (5, .int x5)]) dX10_had_55 3 rfl ciconst_1 (by decide) (fun _ => rfl) h (fun y7 h => ?_)
      refine k_iload (pc := 58) C dX10_had_58 4 rfl ?_
      refine k_iconst (pc := 60) (v := (-1 : Int32)) C dX10_had_60 ciconst_m1 ?_
      refine k_icmp_ne (pc := 61) C 69 dX10_had_61 (by decide) h (fun c8 h => ?_) (fun c8 h => ?_)
      · refine k_iload (pc := 69) C dX10_had_69 4 rfl ?_
        refine k_sub [1, 2, 3, 0, 5] rfl ?_
        exact k_X10_had_b71 C E hrec35 T x1 x2 y7 x5 x4 h
      · refine k_iload (pc := 64) C dX10_had_64 5 rfl ?_
        refine k_goto (pc := 66) C 71 dX10_had_66 (by decide) ?_
        refine k_sub [1, 2, 3, 0, 5] rfl ?_
        exact k_X10_had_b71 C E hrec35 T x1 x2 y7 x5 x5 h
set_option maxHeartbeats 4000000 in
set_option maxRecDepth 100000 in
theorem k_X10_had_l35 {B : KB} {X : KE} {res : Int32 × TT} (C : Cx B X "GriefEngine" cX10_had 6 6) (E : Cr B X (some .int) (some (.int res.1)) res.2) : ∀ (n : Nat) (T : TT) (x1 : Int32) (x2 : Int32) (x3 : Int32) (x4 : Int32) (x5 : Int32) (h : m_X10_had_l35 n T x1 x2 x3 x4 x5 = some res), Wk B X 6 T 35 [(0, .ref (B.1 4 0)), (1, .int x1), (2, .int x2), (3, .int x3), (4, .int x4), (5, .int x5)] [] := by
  intro n
  induction n with
  | zero =>
    intro T x1 x2 x3 x4 x5 h
    exact no_some h
  | succ n ih =>
    intro T x1 x2 x3 x4 x5 h
    exact k_X10_had_h35 C E (fun T x1 x2 x3 x4 x5 h => ih T x1 x2 x3 x4 x5 h) T x1 x2 x3 x4 x5 h
set_option maxHeartbeats 4000000 in
set_option maxRecDepth 100000 in
theorem k_X10_had_b20 {B : KB} {X : KE} {res : Int32 × TT} (C : Cx B X "GriefEngine" cX10_had 6 6) (E : Cr B X (some .int) (some (.int res.1)) res.2) (T : TT) (h : m_X10_had_b20 T = some res) : Wk B X 6 T 20 [(0, .ref (B.1 4 0))] [] := by
  unfold m_X10_had_b20 at h
  refine k_aload_n (pc := 20) C dX10_had_20 0 rfl ?_
  refine k_bipush (pc := 21) (v := (-2 : Int32)) C dX10_had_21 cbipush_m2 ?_
  obtain ⟨z12, e12, h⟩ := bnd h
  refine k_callvI (pc := 23) C lk_X10_73 (by decide) ix_X10 wo_X10 rfl rfl (kc_X10_refuse e12) dX10_had_23 rfl rfl (Nat.le_of_ble_eq_true rfl) ?_
  exact k_iret (pc := 26) C E (some_1 h) (some_2 h) dX10_had_26
set_option maxHeartbeats 4000000 in
set_option maxRecDepth 100000 in
theorem kc_X10_had {B : KB} {l : Launch} {T : TT} {x1 : Int32} {x2 : Int32} {res : Int32 × TT} (h : m_X10_had T x1 x2 = some res) : Kt B l 6 yX10_had cX10_had 6 (some .int) T [.ref (B.1 4 0), .int x1, .int x2] (some (.int res.1)) res.2 := by
  refine Kt.of (by decide) (Nat.le_of_ble_eq_true rfl) (fun X hX C E => ?_)
  subst hX
  have C : Cx B X "GriefEngine" cX10_had 6 6 := C
  show Wk B X 6 T 0 [(0, .ref (B.1 4 0)), (1, .int x1), (2, .int x2)] []
  unfold m_X10_had at h
  refine k_aload_n (pc := 0) C dX10_had_0 0 rfl ?_
  refine gf_X10_12 (pc := 1) C dX10_had_1 ?_
  refine k_iload_n (pc := 4) C dX10_had_4 1 rfl ?_
  obtain ⟨z1, e1, h⟩ := bnd h
  refine k_callvI (pc := 5) C lk_X10_132 (by decide) (ix_X4 lt4_0) (wo_X4 lt4_0) rfl rfl (kc_X4_has lt4_0 e1) dX10_had_5 rfl rfl (Nat.le_of_ble_eq_true rfl) ?_
  refine k_if_eq (pc := 8) C 20 dX10_had_8 (by decide) h (fun c4 h => ?_) (fun c4 h => ?_)
  · refine k_sub [0] rfl ?_
    exact k_X10_had_b20 C E T h
  · refine k_iload_n (pc := 11) C dX10_had_11 2 rfl ?_
    refine k_iconst (pc := 12) (v := (0 : Int32)) C dX10_had_12 ciconst_0 ?_
    refine k_iconst (pc := 13) (v := (1 : Int32)) C dX10_had_13 ciconst_1 ?_
    obtain ⟨z2, e2, h⟩ := bnd h
    refine k_callsI (pc := 14) C lk_X10_69 (by decide) (kc_X10_within e2) dX10_had_14 rfl rfl (Nat.le_of_ble_eq_true rfl) ?_
    refine k_if_ne (pc := 17) C 27 dX10_had_17 (by decide) h (fun c3 h => ?_) (fun c3 h => ?_)
    · refine k_iconst (pc := 27) (v := (0 : Int32)) C dX10_had_27 ciconst_0 ?_
      refine k_istore_n (pc := 28) C [(3, .int (0 : Int32)), (0, .ref (B.1 4 0)), (1, .int x1), (2, .int x2)] dX10_had_28 (by decide) rfl ?_
      refine k_iconst (pc := 29) (v := (-1 : Int32)) C dX10_had_29 ciconst_m1 ?_
      refine k_istore (pc := 30) C [(4, .int (-1 : Int32)), (3, .int (0 : Int32)), (0, .ref (B.1 4 0)), (1, .int x1), (2, .int x2)] dX10_had_30 (by decide) rfl ?_
      refine k_iconst (pc := 32) (v := (0 : Int32)) C dX10_had_32 ciconst_0 ?_
      refine k_istore (pc := 33) C [(5, .int (0 : Int32)), (4, .int (-1 : Int32)), (3, .int (0 : Int32)), (0, .ref (B.1 4 0)), (1, .int x1), (2, .int x2)] dX10_had_33 (by decide) rfl ?_
      refine k_sub [3, 4, 5, 2, 1, 0] rfl ?_
      exact k_X10_had_l35 C E FU T x1 x2 (0 : Int32) (-1 : Int32) (0 : Int32) h
    · refine k_sub [0] rfl ?_
      exact k_X10_had_b20 C E T h
def m_X10_worthToday (T : TT) (x1 : Int32) (x2 : Int32) (x3 : Int32) : Option (Int32) := (m_X4_kindOf T 0 x1).bind (fun z1 => if inb x1 6 then (bT (T.1 0 3 (Int32.toNatClampNeg x1)) (fun y2 => if x2 = 0 then ((m_X10_seasonOf (T.2.1 0 8)).bind (fun z3 => (v_runs z1 z3 y2).bind (fun z4 => if x3 = 0 then (some (z4 / (2 : Int32))) else (some z4)))) else ((v_left z1 (2 : Int32) y2).bind (fun z6 => (v_left z1 (0 : Int32) y2).bind (fun z7 => some (z6 - z7)))))) else none)
set_option maxHeartbeats 4000000 in
set_option maxRecDepth 100000 in
theorem kc_X10_worthToday {B : KB} {l : Launch} {T : TT} {x1 : Int32} {x2 : Int32} {x3 : Int32} {res : Int32} (h : m_X10_worthToday T x1 x2 x3 = some res) : Kt B l 4 yX10_worthToday cX10_worthToday 7 (some .int) T [.ref (B.1 4 0), .int x1, .int x2, .int x3] (some (.int res)) T := by
  refine Kt.of (by decide) (Nat.le_of_ble_eq_true rfl) (fun X hX C E => ?_)
  subst hX
  have C : Cx B X "GriefEngine" cX10_worthToday 7 4 := C
  show Wk B X 7 T 0 [(0, .ref (B.1 4 0)), (1, .int x1), (2, .int x2), (3, .int x3)] []
  unfold m_X10_worthToday at h
  refine k_aload_n (pc := 0) C dX10_worthToday_0 0 rfl ?_
  refine gf_X10_12 (pc := 1) C dX10_worthToday_1 ?_
  refine k_iload_n (pc := 4) C dX10_worthToday_4 1 rfl ?_
  obtain ⟨z1, e1, h⟩ := bnd h
  have hz1 := kr_X4_kindOf lt4_0 e1
  refine k_callvA (pc := 5) C lk_X10_153 (by decide) (ix_X4 lt4_0) (wo_X4 lt4_0) rfl rfl (kc_X4_kindOf lt4_0 e1) dX10_worthToday_5 rfl rfl (Nat.le_of_ble_eq_true rfl) ?_
  refine k_astore (pc := 8) C [(4, .ref (B.1 z1.1 z1.2)), (0, .ref (B.1 4 0)), (1, .int x1), (2, .int x2), (3, .int x3)] dX10_worthToday_8 (by decide) rfl ?_
  refine k_aload_n (pc := 10) C dX10_worthToday_10 1 rfl ?_
  refine gf_X10_12 (pc := 11) C dX10_worthToday_11 ?_
  refine gf_X10_147 (pc := 14) C lt4_0 dX10_worthToday_14 ?_
  refine k_iload_n (pc := 17) C dX10_worthToday_17 2 rfl ?_
  refine k_iald (pc := 18) C (ia_R3 lt4_0) dX10_worthToday_18 h (fun h => ?_)
  refine k_nI h (fun y2 h => ?_)
  refine k_istore (pc := 19) C [(5, .int y2), (4, .ref (B.1 z1.1 z1.2)), (0, .ref (B.1 4 0)), (1, .int x1), (2, .int x2), (3, .int x3)] dX10_worthToday_19 (by decide) rfl ?_
  refine k_iload_n (pc := 21) C dX10_worthToday_21 4 rfl ?_
  refine k_if_eq (pc := 22) C 43 dX10_worthToday_22 (by decide) h (fun c8 h => ?_) (fun c8 h => ?_)
  · refine k_aload (pc := 43) C dX10_worthToday_43 1 rfl ?_
    refine k_aload_n (pc := 45) C dX10_worthToday_45 2 rfl ?_
    refine gf_X10_12 (pc := 46) C dX10_worthToday_46 ?_
    refine gf_X10_141 (pc := 49) C lt4_0 dX10_worthToday_49 ?_
    obtain ⟨z3, e3, h⟩ := bnd h
    refine k_callsI (pc := 52) C lk_X10_157 (by decide) (kc_X10_seasonOf e3) dX10_worthToday_52 rfl rfl (Nat.le_of_ble_eq_true rfl) ?_
    refine k_iload (pc := 55) C dX10_worthToday_55 0 rfl ?_
    obtain ⟨z4, e4, h⟩ := bnd h
    refine kv_runs (pc := 57) C lk_X10_160 (by decide) hz1 e4 dX10_worthToday_57 (Nat.le_of_ble_eq_true rfl) ?_
    refine k_istore (pc := 60) C [(6, .int z4), (5, .int y2), (4, .ref (B.1 z1.1 z1.2)), (0, .ref (B.1 4 0)), (1, .int x1), (2, .int x2), (3, .int x3)] dX10_worthToday_60 (by decide) rfl ?_
    refine k_iload_n (pc := 62) C dX10_worthToday_62 6 rfl ?_
    refine k_if_eq (pc := 63) C 71 dX10_worthToday_63 (by decide) h (fun c5 h => ?_) (fun c5 h => ?_)
    · refine k_iload (pc := 71) C dX10_worthToday_71 0 rfl ?_
      refine k_iconst (pc := 73) (v := (2 : Int32)) C dX10_worthToday_73 ciconst_2 ?_
      refine k_idivc (pc := 74) C dX10_worthToday_74 (by decide) ?_
      exact k_iret (pc := 75) C E (some_i h) rfl dX10_worthToday_75
    · refine k_iload (pc := 66) C dX10_worthToday_66 0 rfl ?_
      refine k_goto (pc := 68) C 75 dX10_worthToday_68 (by decide) ?_
      exact k_iret (pc := 75) C E (some_i h) rfl dX10_worthToday_75
  · refine k_aload (pc := 25) C dX10_worthToday_25 1 rfl ?_
    refine k_iconst (pc := 27) (v := (2 : Int32)) C dX10_worthToday_27 ciconst_2 ?_
    refine k_iload (pc := 28) C dX10_worthToday_28 0 rfl ?_
    obtain ⟨z6, e6, h⟩ := bnd h
    refine kv_left (pc := 30) C lk_X10_165 (by decide) hz1 e6 dX10_worthToday_30 (Nat.le_of_ble_eq_true rfl) ?_
    refine k_aload (pc := 33) C dX10_worthToday_33 1 rfl ?_
    refine k_iconst (pc := 35) (v := (0 : Int32)) C dX10_worthToday_35 ciconst_0 ?_
    refine k_iload (pc := 36) C dX10_worthToday_36 0 rfl ?_
    obtain ⟨z7, e7, h⟩ := bnd h
    refine kv_left (pc := 38) C lk_X10_165 (by decide) hz1 e7 dX10_worthToday_38 (Nat.le_of_ble_eq_true rfl) ?_
    refine k_isub (pc := 41) C dX10_worthToday_41 ?_
    exact k_iret (pc := 42) C E (some_i h) rfl dX10_worthToday_42
def m_X10_isContent_b18 (T : TT) (x3 : Int32) (s0 : Int32) (s2 : Int32) (s3 : Int32) : Option (Int32) := (m_X10_worthToday T s2 s3 x3).bind (fun z3 => if s0 < z3 then (some (0 : Int32)) else (some (1 : Int32)))
def m_X10_isContent (T : TT) (x1 : Int32) (x2 : Int32) (x3 : Int32) : Option (Int32) := (m_X10_worthToday T x1 x2 x3).bind (fun z1 => if x2 = 0 then (m_X10_isContent_b18 T x3 z1 x1 (1 : Int32)) else (m_X10_isContent_b18 T x3 z1 x1 (0 : Int32)))
set_option maxHeartbeats 4000000 in
set_option maxRecDepth 100000 in
theorem k_X10_isContent_b18 {B : KB} {X : KE} {T : TT} {res : Int32} (C : Cx B X "GriefEngine" cX10_isContent 4 5) (E : Cr B X (some .boolean) (some (.int res)) T) (x3 : Int32) (s0 : Int32) (s2 : Int32) (s3 : Int32) (h : m_X10_isContent_b18 T x3 s0 s2 s3 = some res) : Wk B X 4 T 18 [(3, .int x3)] [.int s3, .int s2, .ref (B.1 4 0), .int s0] := by
  unfold m_X10_isContent_b18 at h
  refine k_iload_n (pc := 18) C dX10_isContent_18 0 rfl ?_
  obtain ⟨z3, e3, h⟩ := bnd h
  refine k_callvI (pc := 19) C lk_X10_283 (by decide) ix_X10 wo_X10 rfl rfl (kc_X10_worthToday e3) dX10_isContent_19 rfl rfl (Nat.le_of_ble_eq_true rfl) ?_
  refine k_icmp_lt (pc := 22) C 29 dX10_isContent_22 (by decide) h (fun c4 h => ?_) (fun c4 h => ?_)
  · refine k_iconst (pc := 29) (v := (0 : Int32)) C dX10_isContent_29 ciconst_0 ?_
    exact k_zret (pc := 30) C E rfl (some_i h) rfl dX10_isContent_30
  · refine k_iconst (pc := 25) (v := (1 : Int32)) C dX10_isContent_25 ciconst_1 ?_
    refine k_goto (pc := 26) C 30 dX10_isContent_26 (by decide) ?_
    exact k_zret (pc := 30) C E rfl (some_i h) rfl dX10_isContent_30
set_option maxHeartbeats 4000000 in
set_option maxRecDepth 100000 in
theorem kc_X10_isContent {B : KB} {l : Launch} {T : TT} {x1 : Int32} {x2 : Int32} {x3 : Int32} {res : Int32} (h : m_X10_isContent T x1 x2 x3 = some res) : Kt B l 5 yX10_isContent cX10_isContent 4 (some .boolean) T [.ref (B.1 4 0), .int x1, .int x2, .int x3] (some (.int res)) T := by
  refine Kt.of (by decide) (Nat.le_of_ble_eq_true rfl) (fun X hX C E => ?_)
  subst hX
  have C : Cx B X "GriefEngine" cX10_isContent 4 5 := C
  show Wk B X 4 T 0 [(0, .ref (B.1 4 0)), (1, .int x1), (2, .int x2), (3, .int x3)] []
  unfold m_X10_isContent at h
  refine k_aload_n (pc := 0) C dX10_isContent_0 0 rfl ?_
  refine k_iload_n (pc := 1) C dX10_isContent_1 1 rfl ?_
  refine k_iload_n (pc := 2) C dX10_isContent_2 2 rfl ?_
  refine k_iload_n (pc := 3) C dX10_isContent_3 3 rfl ?_
  obtain ⟨z1, e1, h⟩ := bnd h
  refine k_callvI (pc := 4) C lk_X10_283 (by decide) ix_X10 wo_X10 rfl rfl (kc_X10_worthToday e1) dX10_isContent_4 rfl rfl (Nat.le_of_ble_eq_true rfl) ?_
  refine k_aload_n (pc := 7) C dX10_isContent_7 0 rfl ?_
  refine k_iload_n (pc := 8) C dX10_isContent_8 1 rfl ?_
  refine k_iload_n (pc := 9) C dX10_isContent_9 2 rfl ?_
  refine k_if_ne (pc := 10) C 17 dX10_isContent_10 (by decide) h (fun c2 h => ?_) (fun c2 h => ?_)
  · refine k_iconst (pc := 17) (v := (0 : Int32)) C dX10_isContent_17 ciconst_0 ?_
    refine k_sub [3] rfl ?_
    exact k_X10_isContent_b18 C E x3 z1 x1 (0 : Int32) h
  · refine k_iconst (pc := 13) (v := (1 : Int32)) C dX10_isContent_13 ciconst_1 ?_
    refine k_goto (pc := 14) C 18 dX10_isContent_14 (by decide) ?_
    refine k_sub [3] rfl ?_
    exact k_X10_isContent_b18 C E x3 z1 x1 (1 : Int32) h
