def m_X11_kindsOf_b159 (T : TT) (rec4 : Int32 → Int32 → Int32 → Option (Int32)) (x1 : Int32) (x3 : Int32) (s0 : Int32) (s1 : Int32) : Option (Int32) := bT (s0 ||| s1) (fun y13 => bT (x3 + (1 : Int32)) (fun y14 => rec4 x1 y13 y14))
def m_X11_kindsOf_b138 (T : TT) (rec4 : Int32 → Int32 → Int32 → Option (Int32)) (rec16 : Int32 → Int32 → Int32 → Int32 → Int32 → Option (Int32)) (x1 : Int32) (x2 : Int32) (x3 : Int32) (x5 : Int32) (s0 : Int32) : Option (Int32) := bT (x5 + (1 : Int32)) (fun y12 => rec16 x1 x2 x3 s0 y12)
def m_X11_kindsOf_b137 (T : TT) (rec4 : Int32 → Int32 → Int32 → Option (Int32)) (rec16 : Int32 → Int32 → Int32 → Int32 → Int32 → Option (Int32)) (x1 : Int32) (x2 : Int32) (x3 : Int32) (x5 : Int32) : Option (Int32) := m_X11_kindsOf_b138 T rec4 rec16 x1 x2 x3 x5 (0 : Int32)
def m_X11_kindsOf_b133 (T : TT) (rec4 : Int32 → Int32 → Int32 → Option (Int32)) (rec16 : Int32 → Int32 → Int32 → Int32 → Int32 → Option (Int32)) (x1 : Int32) (x2 : Int32) (x3 : Int32) (x5 : Int32) : Option (Int32) := m_X11_kindsOf_b138 T rec4 rec16 x1 x2 x3 x5 (1 : Int32)
def m_X11_kindsOf_b110 (T : TT) (rec4 : Int32 → Int32 → Int32 → Option (Int32)) (rec16 : Int32 → Int32 → Int32 → Int32 → Int32 → Option (Int32)) (x1 : Int32) (x2 : Int32) (x3 : Int32) (x4 : Int32) (x5 : Int32) (x6 : Int32) (s0 : Int32) : Option (Int32) := if x4 = 0 then (m_X11_kindsOf_b137 T rec4 rec16 x1 x2 x3 x5) else (if inb x6 175 then (if (T.1 10 1 (Int32.toNatClampNeg x6)) = x1 then (if s0 = 0 then (m_X11_kindsOf_b137 T rec4 rec16 x1 x2 x3 x5) else (m_X11_kindsOf_b133 T rec4 rec16 x1 x2 x3 x5)) else (m_X11_kindsOf_b133 T rec4 rec16 x1 x2 x3 x5)) else none)
def m_X11_kindsOf_b109 (T : TT) (rec4 : Int32 → Int32 → Int32 → Option (Int32)) (rec16 : Int32 → Int32 → Int32 → Int32 → Int32 → Option (Int32)) (x1 : Int32) (x2 : Int32) (x3 : Int32) (x4 : Int32) (x5 : Int32) (x6 : Int32) : Option (Int32) := m_X11_kindsOf_b110 T rec4 rec16 x1 x2 x3 x4 x5 x6 (0 : Int32)
def m_X11_kindsOf_h16 (T : TT) (rec4 : Int32 → Int32 → Int32 → Option (Int32)) (rec16 : Int32 → Int32 → Int32 → Int32 → Int32 → Option (Int32)) (x1 : Int32) (x2 : Int32) (x3 : Int32) (x4 : Int32) (x5 : Int32) : Option (Int32) := if (T.1 10 1 1) ≤ x5 then (if x4 = 0 then (m_X11_kindsOf_b159 T rec4 x1 x3 x2 (0 : Int32)) else (m_X11_kindsOf_b159 T rec4 x1 x3 x2 ((1 : Int32) <<< (x3 &&& 31)))) else (bT ((23 : Int32) + ((6 : Int32) * x5)) (fun y3 => if inb (y3 + (1 : Int32)) 175 then (if inb (y3 + (2 : Int32)) 175 then ((m_X11_runsAs x3 (T.1 10 1 (Int32.toNatClampNeg (y3 + (1 : Int32)))) (T.1 10 1 (Int32.toNatClampNeg (y3 + (2 : Int32))))).bind (fun z4 => if inb (y3 + (3 : Int32)) 175 then (if z4 = (T.1 10 1 (Int32.toNatClampNeg (y3 + (3 : Int32)))) then (if inb (y3 + (1 : Int32)) 175 then (if inb (y3 + (4 : Int32)) 175 then ((m_X11_leftAs x3 (T.1 10 1 (Int32.toNatClampNeg (y3 + (1 : Int32)))) (T.1 10 1 (Int32.toNatClampNeg (y3 + (4 : Int32))))).bind (fun z5 => if inb (y3 + (5 : Int32)) 175 then (if z5 = (T.1 10 1 (Int32.toNatClampNeg (y3 + (5 : Int32)))) then (m_X11_kindsOf_b110 T rec4 rec16 x1 x2 x3 x4 x5 y3 (1 : Int32)) else (m_X11_kindsOf_b109 T rec4 rec16 x1 x2 x3 x4 x5 y3)) else none)) else none) else none) else (m_X11_kindsOf_b109 T rec4 rec16 x1 x2 x3 x4 x5 y3)) else none)) else none) else none))
def m_X11_kindsOf_l16 (T : TT) (rec4 : Int32 → Int32 → Int32 → Option (Int32)) : Nat → Int32 → Int32 → Int32 → Int32 → Int32 → Option (Int32)
  | 0 => fun _ _ _ _ _ => none
  | n + 1 => fun x1 x2 x3 x4 x5 => m_X11_kindsOf_h16 T rec4 (m_X11_kindsOf_l16 T rec4 n) x1 x2 x3 x4 x5
def m_X11_kindsOf_h4 (T : TT) (rec4 : Int32 → Int32 → Int32 → Option (Int32)) (x1 : Int32) (x2 : Int32) (x3 : Int32) : Option (Int32) := if (6 : Int32) ≤ x3 then (some x2) else (m_X11_kindsOf_l16 T rec4 FU x1 x2 x3 (1 : Int32) (0 : Int32))
def m_X11_kindsOf_l4 (T : TT) : Nat → Int32 → Int32 → Int32 → Option (Int32)
  | 0 => fun _ _ _ => none
  | n + 1 => fun x1 x2 x3 => m_X11_kindsOf_h4 T (m_X11_kindsOf_l4 T n) x1 x2 x3
def m_X11_kindsOf (T : TT) (x1 : Int32) : Option (Int32) := m_X11_kindsOf_l4 T FU x1 (0 : Int32) (0 : Int32)
set_option maxHeartbeats 4000000 in
set_option maxRecDepth 100000 in
theorem k_X11_kindsOf_b159 {B : KB} {X : KE} {T : TT} {rec4 : Int32 → Int32 → Int32 → Option (Int32)} {res : Int32} (C : Cx B X "GriefEngineModel" cX11_kindsOf 8 3) (E : Cr B X (some .int) (some (.int res)) T) (hrec4 : ∀ (x1 : Int32) (x2 : Int32) (x3 : Int32), rec4 x1 x2 x3 = some res → Wk B X 8 T 4 [(0, .ref (B.1 10 0)), (1, .int x1), (2, .int x2), (3, .int x3)] []) (x1 : Int32) (x3 : Int32) (s0 : Int32) (s1 : Int32) (h : m_X11_kindsOf_b159 T rec4 x1 x3 s0 s1 = some res) : Wk B X 8 T 159 [(0, .ref (B.1 10 0)), (1, .int x1), (3, .int x3)] [.int s1, .int s0] := by
  unfold m_X11_kindsOf_b159 at h
  refine k_ior (pc := 159) C dX11_kindsOf_159 ?_
  refine k_nI h (fun y13 h => ?_)
  refine k_istore_n (pc := 160) C [(2, .int y13), (0, .ref (B.1 10 0)), (1, .int x1), (3, .int x3)] dX11_kindsOf_160 (by decide) rfl ?_
  refine k_iincN (pc := 161) (x := x3) (c := (1 : Int32)) C (fun y14 => [(3, .int y14), (2, .int y13), (0, .ref (B.1 10 0)), (1, .int x1)]) dX11_kindsOf_161 3 rfl ciconst_1 (by decide) (fun _ => rfl) h (fun y14 h => ?_)
  refine k_goto (pc := 164) C 4 dX11_kindsOf_164 (by decide) ?_
  refine k_sub [2, 3, 1, 0] rfl ?_
  exact hrec4 x1 y13 y14 h
set_option maxHeartbeats 4000000 in
set_option maxRecDepth 100000 in
theorem k_X11_kindsOf_b138 {B : KB} {X : KE} {T : TT} {rec4 : Int32 → Int32 → Int32 → Option (Int32)} {rec16 : Int32 → Int32 → Int32 → Int32 → Int32 → Option (Int32)} {res : Int32} (C : Cx B X "GriefEngineModel" cX11_kindsOf 8 3) (E : Cr B X (some .int) (some (.int res)) T) (hrec4 : ∀ (x1 : Int32) (x2 : Int32) (x3 : Int32), rec4 x1 x2 x3 = some res → Wk B X 8 T 4 [(0, .ref (B.1 10 0)), (1, .int x1), (2, .int x2), (3, .int x3)] []) (hrec16 : ∀ (x1 : Int32) (x2 : Int32) (x3 : Int32) (x4 : Int32) (x5 : Int32), rec16 x1 x2 x3 x4 x5 = some res → Wk B X 8 T 16 [(0, .ref (B.1 10 0)), (1, .int x1), (2, .int x2), (3, .int x3), (4, .int x4), (5, .int x5)] []) (x1 : Int32) (x2 : Int32) (x3 : Int32) (x5 : Int32) (s0 : Int32) (h : m_X11_kindsOf_b138 T rec4 rec16 x1 x2 x3 x5 s0 = some res) : Wk B X 8 T 138 [(0, .ref (B.1 10 0)), (1, .int x1), (2, .int x2), (3, .int x3), (5, .int x5)] [.int s0] := by
  unfold m_X11_kindsOf_b138 at h
  refine k_istore (pc := 138) C [(4, .int s0), (0, .ref (B.1 10 0)), (1, .int x1), (2, .int x2), (3, .int x3), (5, .int x5)] dX11_kindsOf_138 (by decide) rfl ?_
  refine k_iincN (pc := 140) (x := x5) (c := (1 : Int32)) C (fun y12 => [(5, .int y12), (4, .int s0), (0, .ref (B.1 10 0)), (1, .int x1), (2, .int x2), (3, .int x3)]) dX11_kindsOf_140 5 rfl ciconst_1 (by decide) (fun _ => rfl) h (fun y12 h => ?_)
  refine k_goto (pc := 143) C 16 dX11_kindsOf_143 (by decide) ?_
  refine k_sub [2, 3, 4, 5, 1, 0] rfl ?_
  exact hrec16 x1 x2 x3 s0 y12 h
set_option maxHeartbeats 4000000 in
set_option maxRecDepth 100000 in
theorem k_X11_kindsOf_b137 {B : KB} {X : KE} {T : TT} {rec4 : Int32 → Int32 → Int32 → Option (Int32)} {rec16 : Int32 → Int32 → Int32 → Int32 → Int32 → Option (Int32)} {res : Int32} (C : Cx B X "GriefEngineModel" cX11_kindsOf 8 3) (E : Cr B X (some .int) (some (.int res)) T) (hrec4 : ∀ (x1 : Int32) (x2 : Int32) (x3 : Int32), rec4 x1 x2 x3 = some res → Wk B X 8 T 4 [(0, .ref (B.1 10 0)), (1, .int x1), (2, .int x2), (3, .int x3)] []) (hrec16 : ∀ (x1 : Int32) (x2 : Int32) (x3 : Int32) (x4 : Int32) (x5 : Int32), rec16 x1 x2 x3 x4 x5 = some res → Wk B X 8 T 16 [(0, .ref (B.1 10 0)), (1, .int x1), (2, .int x2), (3, .int x3), (4, .int x4), (5, .int x5)] []) (x1 : Int32) (x2 : Int32) (x3 : Int32) (x5 : Int32) (h : m_X11_kindsOf_b137 T rec4 rec16 x1 x2 x3 x5 = some res) : Wk B X 8 T 137 [(0, .ref (B.1 10 0)), (1, .int x1), (2, .int x2), (3, .int x3), (5, .int x5)] [] := by
  unfold m_X11_kindsOf_b137 at h
  refine k_iconst (pc := 137) (v := (0 : Int32)) C dX11_kindsOf_137 ciconst_0 ?_
  refine k_sub [0, 1, 2, 3, 4] rfl ?_
  exact k_X11_kindsOf_b138 C E hrec4 hrec16 x1 x2 x3 x5 (0 : Int32) h
set_option maxHeartbeats 4000000 in
set_option maxRecDepth 100000 in
theorem k_X11_kindsOf_b133 {B : KB} {X : KE} {T : TT} {rec4 : Int32 → Int32 → Int32 → Option (Int32)} {rec16 : Int32 → Int32 → Int32 → Int32 → Int32 → Option (Int32)} {res : Int32} (C : Cx B X "GriefEngineModel" cX11_kindsOf 8 3) (E : Cr B X (some .int) (some (.int res)) T) (hrec4 : ∀ (x1 : Int32) (x2 : Int32) (x3 : Int32), rec4 x1 x2 x3 = some res → Wk B X 8 T 4 [(0, .ref (B.1 10 0)), (1, .int x1), (2, .int x2), (3, .int x3)] []) (hrec16 : ∀ (x1 : Int32) (x2 : Int32) (x3 : Int32) (x4 : Int32) (x5 : Int32), rec16 x1 x2 x3 x4 x5 = some res → Wk B X 8 T 16 [(0, .ref (B.1 10 0)), (1, .int x1), (2, .int x2), (3, .int x3), (4, .int x4), (5, .int x5)] []) (x1 : Int32) (x2 : Int32) (x3 : Int32) (x5 : Int32) (h : m_X11_kindsOf_b133 T rec4 rec16 x1 x2 x3 x5 = some res) : Wk B X 8 T 133 [(0, .ref (B.1 10 0)), (1, .int x1), (2, .int x2), (3, .int x3), (5, .int x5)] [] := by
  unfold m_X11_kindsOf_b133 at h
  refine k_iconst (pc := 133) (v := (1 : Int32)) C dX11_kindsOf_133 ciconst_1 ?_
  refine k_goto (pc := 134) C 138 dX11_kindsOf_134 (by decide) ?_
  refine k_sub [0, 1, 2, 3, 4] rfl ?_
  exact k_X11_kindsOf_b138 C E hrec4 hrec16 x1 x2 x3 x5 (1 : Int32) h
set_option maxHeartbeats 4000000 in
set_option maxRecDepth 100000 in
theorem k_X11_kindsOf_b110 {B : KB} {X : KE} {T : TT} {rec4 : Int32 → Int32 → Int32 → Option (Int32)} {rec16 : Int32 → Int32 → Int32 → Int32 → Int32 → Option (Int32)} {res : Int32} (C : Cx B X "GriefEngineModel" cX11_kindsOf 8 3) (E : Cr B X (some .int) (some (.int res)) T) (hrec4 : ∀ (x1 : Int32) (x2 : Int32) (x3 : Int32), rec4 x1 x2 x3 = some res → Wk B X 8 T 4 [(0, .ref (B.1 10 0)), (1, .int x1), (2, .int x2), (3, .int x3)] []) (hrec16 : ∀ (x1 : Int32) (x2 : Int32) (x3 : Int32) (x4 : Int32) (x5 : Int32), rec16 x1 x2 x3 x4 x5 = some res → Wk B X 8 T 16 [(0, .ref (B.1 10 0)), (1, .int x1), (2, .int x2), (3, .int x3), (4, .int x4), (5, .int x5)] []) (x1 : Int32) (x2 : Int32) (x3 : Int32) (x4 : Int32) (x5 : Int32) (x6 : Int32) (s0 : Int32) (h : m_X11_kindsOf_b110 T rec4 rec16 x1 x2 x3 x4 x5 x6 s0 = some res) : Wk B X 8 T 110 [(0, .ref (B.1 10 0)), (1, .int x1), (2, .int x2), (3, .int x3), (4, .int x4), (5, .int x5), (6, .int x6)] [.int s0] := by
  unfold m_X11_kindsOf_b110 at h
  refine k_istore (pc := 110) C [(7, .int s0), (0, .ref (B.1 10 0)), (1, .int x1), (2, .int x2), (3, .int x3), (4, .int x4), (5, .int x5), (6, .int x6)] dX11_kindsOf_110 (by decide) rfl ?_
  refine k_iload (pc := 112) C dX11_kindsOf_112 5 rfl ?_
  refine k_if_eq (pc := 114) C 137 dX11_kindsOf_114 (by decide) h (fun c11 h => ?_) (fun c11 h => ?_)
  · refine k_sub [1, 2, 3, 4, 6] rfl ?_
    exact k_X11_kindsOf_b137 C E hrec4 hrec16 x1 x2 x3 x5 h
  · refine k_aload_n (pc := 117) C dX11_kindsOf_117 1 rfl ?_
    refine gf_X11_7 (pc := 118) C dX11_kindsOf_118 ?_
    refine k_iload (pc := 121) C dX11_kindsOf_121 7 rfl ?_
    refine k_iald (pc := 123) C ia_10_1 dX11_kindsOf_123 h (fun h => ?_)
    refine k_iload_n (pc := 124) C dX11_kindsOf_124 2 rfl ?_
    refine k_icmp_ne (pc := 125) C 133 dX11_kindsOf_125 (by decide) h (fun c10 h => ?_) (fun c10 h => ?_)
    · refine k_sub [1, 2, 3, 4, 6] rfl ?_
      exact k_X11_kindsOf_b133 C E hrec4 hrec16 x1 x2 x3 x5 h
    · refine k_iload (pc := 128) C dX11_kindsOf_128 0 rfl ?_
      refine k_if_eq (pc := 130) C 137 dX11_kindsOf_130 (by decide) h (fun c9 h => ?_) (fun c9 h => ?_)
      · refine k_sub [1, 2, 3, 4, 6] rfl ?_
        exact k_X11_kindsOf_b137 C E hrec4 hrec16 x1 x2 x3 x5 h
      · refine k_sub [1, 2, 3, 4, 6] rfl ?_
        exact k_X11_kindsOf_b133 C E hrec4 hrec16 x1 x2 x3 x5 h
set_option maxHeartbeats 4000000 in
set_option maxRecDepth 100000 in
theorem k_X11_kindsOf_b109 {B : KB} {X : KE} {T : TT} {rec4 : Int32 → Int32 → Int32 → Option (Int32)} {rec16 : Int32 → Int32 → Int32 → Int32 → Int32 → Option (Int32)} {res : Int32} (C : Cx B X "GriefEngineModel" cX11_kindsOf 8 3) (E : Cr B X (some .int) (some (.int res)) T) (hrec4 : ∀ (x1 : Int32) (x2 : Int32) (x3 : Int32), rec4 x1 x2 x3 = some res → Wk B X 8 T 4 [(0, .ref (B.1 10 0)), (1, .int x1), (2, .int x2), (3, .int x3)] []) (hrec16 : ∀ (x1 : Int32) (x2 : Int32) (x3 : Int32) (x4 : Int32) (x5 : Int32), rec16 x1 x2 x3 x4 x5 = some res → Wk B X 8 T 16 [(0, .ref (B.1 10 0)), (1, .int x1), (2, .int x2), (3, .int x3), (4, .int x4), (5, .int x5)] []) (x1 : Int32) (x2 : Int32) (x3 : Int32) (x4 : Int32) (x5 : Int32) (x6 : Int32) (h : m_X11_kindsOf_b109 T rec4 rec16 x1 x2 x3 x4 x5 x6 = some res) : Wk B X 8 T 109 [(0, .ref (B.1 10 0)), (1, .int x1), (2, .int x2), (3, .int x3), (4, .int x4), (5, .int x5), (6, .int x6)] [] := by
  unfold m_X11_kindsOf_b109 at h
  refine k_iconst (pc := 109) (v := (0 : Int32)) C dX11_kindsOf_109 ciconst_0 ?_
  refine k_sub [0, 1, 2, 3, 4, 5, 6] rfl ?_
  exact k_X11_kindsOf_b110 C E hrec4 hrec16 x1 x2 x3 x4 x5 x6 (0 : Int32) h
set_option maxHeartbeats 4000000 in
set_option maxRecDepth 100000 in
theorem k_X11_kindsOf_h16 {B : KB} {X : KE} {T : TT} {rec4 : Int32 → Int32 → Int32 → Option (Int32)} {rec16 : Int32 → Int32 → Int32 → Int32 → Int32 → Option (Int32)} {res : Int32} (C : Cx B X "GriefEngineModel" cX11_kindsOf 8 3) (E : Cr B X (some .int) (some (.int res)) T) (hrec4 : ∀ (x1 : Int32) (x2 : Int32) (x3 : Int32), rec4 x1 x2 x3 = some res → Wk B X 8 T 4 [(0, .ref (B.1 10 0)), (1, .int x1), (2, .int x2), (3, .int x3)] []) (hrec16 : ∀ (x1 : Int32) (x2 : Int32) (x3 : Int32) (x4 : Int32) (x5 : Int32), rec16 x1 x2 x3 x4 x5 = some res → Wk B X 8 T 16 [(0, .ref (B.1 10 0)), (1, .int x1), (2, .int x2), (3, .int x3), (4, .int x4), (5, .int x5)] []) (x1 : Int32) (x2 : Int32) (x3 : Int32) (x4 : Int32) (x5 : Int32) (h : m_X11_kindsOf_h16 T rec4 rec16 x1 x2 x3 x4 x5 = some res) : Wk B X 8 T 16 [(0, .ref (B.1 10 0)), (1, .int x1), (2, .int x2), (3, .int x3), (4, .int x4), (5, .int x5)] [] := by
  unfold m_X11_kindsOf_h16 at h
  refine k_iload (pc := 16) C dX11_kindsOf_16 5 rfl ?_
  refine k_aload_n (pc := 18) C dX11_kindsOf_18 0 rfl ?_
  refine gf_X11_7 (pc := 19) C dX11_kindsOf_19 ?_
  refine k_iconst (pc := 22) (v := (1 : Int32)) C dX11_kindsOf_22 ciconst_1 ?_
  refine k_ialdc (pc := 23) C ia_10_1 1 dX11_kindsOf_23 (by decide) (by decide) ?_
  refine k_icmp_ge (pc := 24) C 146 dX11_kindsOf_24 (by decide) h (fun c8 h => ?_) (fun c8 h => ?_)
  · refine k_iload_n (pc := 146) C dX11_kindsOf_146 2 rfl ?_
    refine k_iload (pc := 147) C dX11_kindsOf_147 4 rfl ?_
    refine k_if_eq (pc := 149) C 158 dX11_kindsOf_149 (by decide) h (fun c2 h => ?_) (fun c2 h => ?_)
    · refine k_iconst (pc := 158) (v := (0 : Int32)) C dX11_kindsOf_158 ciconst_0 ?_
      refine k_sub [0, 1, 3] rfl ?_
      exact k_X11_kindsOf_b159 C E hrec4 x1 x3 x2 (0 : Int32) h
    · refine k_iconst (pc := 152) (v := (1 : Int32)) C dX11_kindsOf_152 ciconst_1 ?_
      refine k_iload_n (pc := 153) C dX11_kindsOf_153 3 rfl ?_
      refine k_ishl (pc := 154) C dX11_kindsOf_154 ?_
      refine k_goto (pc := 155) C 159 dX11_kindsOf_155 (by decide) ?_
      refine k_sub [0, 1, 3] rfl ?_
      exact k_X11_kindsOf_b159 C E hrec4 x1 x3 x2 ((1 : Int32) <<< (x3 &&& 31)) h
  · refine k_bipush (pc := 27) (v := (23 : Int32)) C dX11_kindsOf_27 cbipush_23 ?_
    refine k_bipush (pc := 29) (v := (6 : Int32)) C dX11_kindsOf_29 cbipush_6 ?_
    refine k_iload (pc := 31) C dX11_kindsOf_31 5 rfl ?_
    refine k_imul (pc := 33) C dX11_kindsOf_33 ?_
    refine k_iadd (pc := 34) C dX11_kindsOf_34 ?_
    refine k_nI h (fun y3 h => ?_)
    refine k_istore (pc := 35) C [(6, .int y3), (0, .ref (B.1 10 0)), (1, .int x1), (2, .int x2), (3, .int x3), (4, .int x4), (5, .int x5)] dX11_kindsOf_35 (by decide) rfl ?_
    refine k_iload_n (pc := 37) C dX11_kindsOf_37 4 rfl ?_
    refine k_aload_n (pc := 38) C dX11_kindsOf_38 1 rfl ?_
    refine gf_X11_7 (pc := 39) C dX11_kindsOf_39 ?_
    refine k_iload (pc := 42) C dX11_kindsOf_42 0 rfl ?_
    refine k_iconst (pc := 44) (v := (1 : Int32)) C dX11_kindsOf_44 ciconst_1 ?_
    refine k_iadd (pc := 45) C dX11_kindsOf_45 ?_
    refine k_iald (pc := 46) C ia_10_1 dX11_kindsOf_46 h (fun h => ?_)
    refine k_aload_n (pc := 47) C dX11_kindsOf_47 1 rfl ?_
    refine gf_X11_7 (pc := 48) C dX11_kindsOf_48 ?_
    refine k_iload (pc := 51) C dX11_kindsOf_51 0 rfl ?_
    refine k_iconst (pc := 53) (v := (2 : Int32)) C dX11_kindsOf_53 ciconst_2 ?_
    refine k_iadd (pc := 54) C dX11_kindsOf_54 ?_
    refine k_iald (pc := 55) C ia_10_1 dX11_kindsOf_55 h (fun h => ?_)
    obtain ⟨z4, e4, h⟩ := bnd h
    refine k_callsI (pc := 56) C lk_X11_94 (by decide) (kc_X11_runsAs e4) dX11_kindsOf_56 rfl rfl (Nat.le_of_ble_eq_true rfl) ?_
    refine k_aload_n (pc := 59) C dX11_kindsOf_59 1 rfl ?_
    refine gf_X11_7 (pc := 60) C dX11_kindsOf_60 ?_
    refine k_iload (pc := 63) C dX11_kindsOf_63 0 rfl ?_
    refine k_iconst (pc := 65) (v := (3 : Int32)) C dX11_kindsOf_65 ciconst_3 ?_
    refine k_iadd (pc := 66) C dX11_kindsOf_66 ?_
    refine k_iald (pc := 67) C ia_10_1 dX11_kindsOf_67 h (fun h => ?_)
    refine k_icmp_ne (pc := 68) C 109 dX11_kindsOf_68 (by decide) h (fun c7 h => ?_) (fun c7 h => ?_)
    · refine k_sub [1, 2, 3, 4, 5, 6, 0] rfl ?_
      exact k_X11_kindsOf_b109 C E hrec4 hrec16 x1 x2 x3 x4 x5 y3 h
    · refine k_iload_n (pc := 71) C dX11_kindsOf_71 4 rfl ?_
      refine k_aload_n (pc := 72) C dX11_kindsOf_72 1 rfl ?_
      refine gf_X11_7 (pc := 73) C dX11_kindsOf_73 ?_
      refine k_iload (pc := 76) C dX11_kindsOf_76 0 rfl ?_
      refine k_iconst (pc := 78) (v := (1 : Int32)) C dX11_kindsOf_78 ciconst_1 ?_
      refine k_iadd (pc := 79) C dX11_kindsOf_79 ?_
      refine k_iald (pc := 80) C ia_10_1 dX11_kindsOf_80 h (fun h => ?_)
      refine k_aload_n (pc := 81) C dX11_kindsOf_81 1 rfl ?_
      refine gf_X11_7 (pc := 82) C dX11_kindsOf_82 ?_
      refine k_iload (pc := 85) C dX11_kindsOf_85 0 rfl ?_
      refine k_iconst (pc := 87) (v := (4 : Int32)) C dX11_kindsOf_87 ciconst_4 ?_
      refine k_iadd (pc := 88) C dX11_kindsOf_88 ?_
      refine k_iald (pc := 89) C ia_10_1 dX11_kindsOf_89 h (fun h => ?_)
      obtain ⟨z5, e5, h⟩ := bnd h
      refine k_callsI (pc := 90) C lk_X11_98 (by decide) (kc_X11_leftAs e5) dX11_kindsOf_90 rfl rfl (Nat.le_of_ble_eq_true rfl) ?_
      refine k_aload_n (pc := 93) C dX11_kindsOf_93 1 rfl ?_
      refine gf_X11_7 (pc := 94) C dX11_kindsOf_94 ?_
      refine k_iload (pc := 97) C dX11_kindsOf_97 0 rfl ?_
      refine k_iconst (pc := 99) (v := (5 : Int32)) C dX11_kindsOf_99 ciconst_5 ?_
      refine k_iadd (pc := 100) C dX11_kindsOf_100 ?_
      refine k_iald (pc := 101) C ia_10_1 dX11_kindsOf_101 h (fun h => ?_)
      refine k_icmp_ne (pc := 102) C 109 dX11_kindsOf_102 (by decide) h (fun c6 h => ?_) (fun c6 h => ?_)
      · refine k_sub [1, 2, 3, 4, 5, 6, 0] rfl ?_
        exact k_X11_kindsOf_b109 C E hrec4 hrec16 x1 x2 x3 x4 x5 y3 h
      · refine k_iconst (pc := 105) (v := (1 : Int32)) C dX11_kindsOf_105 ciconst_1 ?_
        refine k_goto (pc := 106) C 110 dX11_kindsOf_106 (by decide) ?_
        refine k_sub [1, 2, 3, 4, 5, 6, 0] rfl ?_
        exact k_X11_kindsOf_b110 C E hrec4 hrec16 x1 x2 x3 x4 x5 y3 (1 : Int32) h
set_option maxHeartbeats 4000000 in
set_option maxRecDepth 100000 in
theorem k_X11_kindsOf_l16 {B : KB} {X : KE} {T : TT} {rec4 : Int32 → Int32 → Int32 → Option (Int32)} {res : Int32} (C : Cx B X "GriefEngineModel" cX11_kindsOf 8 3) (E : Cr B X (some .int) (some (.int res)) T) (hrec4 : ∀ (x1 : Int32) (x2 : Int32) (x3 : Int32), rec4 x1 x2 x3 = some res → Wk B X 8 T 4 [(0, .ref (B.1 10 0)), (1, .int x1), (2, .int x2), (3, .int x3)] []) : ∀ (n : Nat) (x1 : Int32) (x2 : Int32) (x3 : Int32) (x4 : Int32) (x5 : Int32) (h : m_X11_kindsOf_l16 T rec4 n x1 x2 x3 x4 x5 = some res), Wk B X 8 T 16 [(0, .ref (B.1 10 0)), (1, .int x1), (2, .int x2), (3, .int x3), (4, .int x4), (5, .int x5)] [] := by
  intro n
  induction n with
  | zero =>
    intro x1 x2 x3 x4 x5 h
    exact no_some h
  | succ n ih =>
    intro x1 x2 x3 x4 x5 h
    exact k_X11_kindsOf_h16 C E hrec4 (fun x1 x2 x3 x4 x5 h => ih x1 x2 x3 x4 x5 h) x1 x2 x3 x4 x5 h
set_option maxHeartbeats 4000000 in
set_option maxRecDepth 100000 in
theorem k_X11_kindsOf_h4 {B : KB} {X : KE} {T : TT} {rec4 : Int32 → Int32 → Int32 → Option (Int32)} {res : Int32} (C : Cx B X "GriefEngineModel" cX11_kindsOf 8 3) (E : Cr B X (some .int) (some (.int res)) T) (hrec4 : ∀ (x1 : Int32) (x2 : Int32) (x3 : Int32), rec4 x1 x2 x3 = some res → Wk B X 8 T 4 [(0, .ref (B.1 10 0)), (1, .int x1), (2, .int x2), (3, .int x3)] []) (x1 : Int32) (x2 : Int32) (x3 : Int32) (h : m_X11_kindsOf_h4 T rec4 x1 x2 x3 = some res) : Wk B X 8 T 4 [(0, .ref (B.1 10 0)), (1, .int x1), (2, .int x2), (3, .int x3)] [] := by
  unfold m_X11_kindsOf_h4 at h
  refine k_iload_n (pc := 4) C dX11_kindsOf_4 3 rfl ?_
  refine k_bipush (pc := 5) (v := (6 : Int32)) C dX11_kindsOf_5 cbipush_6 ?_
  refine k_icmp_ge (pc := 7) C 167 dX11_kindsOf_7 (by decide) h (fun c1 h => ?_) (fun c1 h => ?_)
  · refine k_iload_n (pc := 167) C dX11_kindsOf_167 2 rfl ?_
    exact k_iret (pc := 168) C E (some_i h) rfl dX11_kindsOf_168
  · refine k_iconst (pc := 10) (v := (1 : Int32)) C dX11_kindsOf_10 ciconst_1 ?_
    refine k_istore (pc := 11) C [(4, .int (1 : Int32)), (0, .ref (B.1 10 0)), (1, .int x1), (2, .int x2), (3, .int x3)] dX11_kindsOf_11 (by decide) rfl ?_
    refine k_iconst (pc := 13) (v := (0 : Int32)) C dX11_kindsOf_13 ciconst_0 ?_
    refine k_istore (pc := 14) C [(5, .int (0 : Int32)), (4, .int (1 : Int32)), (0, .ref (B.1 10 0)), (1, .int x1), (2, .int x2), (3, .int x3)] dX11_kindsOf_14 (by decide) rfl ?_
    refine k_sub [2, 3, 4, 5, 1, 0] rfl ?_
    exact k_X11_kindsOf_l16 C E hrec4 FU x1 x2 x3 (1 : Int32) (0 : Int32) h
set_option maxHeartbeats 4000000 in
set_option maxRecDepth 100000 in
theorem k_X11_kindsOf_l4 {B : KB} {X : KE} {T : TT} {res : Int32} (C : Cx B X "GriefEngineModel" cX11_kindsOf 8 3) (E : Cr B X (some .int) (some (.int res)) T) : ∀ (n : Nat) (x1 : Int32) (x2 : Int32) (x3 : Int32) (h : m_X11_kindsOf_l4 T n x1 x2 x3 = some res), Wk B X 8 T 4 [(0, .ref (B.1 10 0)), (1, .int x1), (2, .int x2), (3, .int x3)] [] := by
  intro n
  induction n with
  | zero =>
    intro x1 x2 x3 h
    exact no_some h
  | succ n ih =>
    intro x1 x2 x3 h
    exact k_X11_kindsOf_h4 C E (fun x1 x2 x3 h => ih x1 x2 x3 h) x1 x2 x3 h
set_option maxHeartbeats 4000000 in
set_option maxRecDepth 100000 in
theorem kc_X11_kindsOf {B : KB} {l : Launch} {T : TT} {x1 : Int32} {res : Int32} (h : m_X11_kindsOf T x1 = some res) : Kt B l 3 yX11_kindsOf cX11_kindsOf 8 (some .int) T [.ref (B.1 10 0), .int x1] (some (.int res)) T := by
  refine Kt.of (by decide) (Nat.le_of_ble_eq_true rfl) (fun X hX C E => ?_)
  subst hX
  have C : Cx B X "GriefEngineModel" cX11_kindsOf 8 3 := C
  show Wk B X 8 T 0 [(0, .ref (B.1 10 0)), (1, .int x1)] []
  unfold m_X11_kindsOf at h
  refine k_iconst (pc := 0) (v := (0 : Int32)) C dX11_kindsOf_0 ciconst_0 ?_
  refine k_istore_n (pc := 1) C [(2, .int (0 : Int32)), (0, .ref (B.1 10 0)), (1, .int x1)] dX11_kindsOf_1 (by decide) rfl ?_
  refine k_iconst (pc := 2) (v := (0 : Int32)) C dX11_kindsOf_2 ciconst_0 ?_
  refine k_istore_n (pc := 3) C [(3, .int (0 : Int32)), (2, .int (0 : Int32)), (0, .ref (B.1 10 0)), (1, .int x1)] dX11_kindsOf_3 (by decide) rfl ?_
  refine k_sub [2, 3, 1, 0] rfl ?_
  exact k_X11_kindsOf_l4 C E FU x1 (0 : Int32) (0 : Int32) h
def m_X11_is (T : TT) (x1 : Int32) : Option (Int32 × TT) := (m_X11_isDriver T x1).bind (fun z1 => if z1 = 0 then ((m_X11_bad T (-2 : Int32)).bind (fun z2 => some (z2.1, z2.2))) else ((m_X11_kindsOf T x1).bind (fun z3 => some (z3, T))))
set_option maxHeartbeats 4000000 in
set_option maxRecDepth 100000 in
theorem kc_X11_is {B : KB} {l : Launch} {T : TT} {x1 : Int32} {res : Int32 × TT} (h : m_X11_is T x1 = some res) : Kt B l 4 yX11_is cX11_is 2 (some .int) T [.ref (B.1 10 0), .int x1] (some (.int res.1)) res.2 := by
  refine Kt.of (by decide) (Nat.le_of_ble_eq_true rfl) (fun X hX C E => ?_)
  subst hX
  have C : Cx B X "GriefEngineModel" cX11_is 2 4 := C
  show Wk B X 2 T 0 [(0, .ref (B.1 10 0)), (1, .int x1)] []
  unfold m_X11_is at h
  refine k_aload_n (pc := 0) C dX11_is_0 0 rfl ?_
  refine k_iload_n (pc := 1) C dX11_is_1 1 rfl ?_
  obtain ⟨z1, e1, h⟩ := bnd h
  refine k_callvI (pc := 2) C lk_X11_116 (by decide) ix_X11 wo_X11 rfl rfl (kc_X11_isDriver e1) dX11_is_2 rfl rfl (Nat.le_of_ble_eq_true rfl) ?_
  refine k_if_eq (pc := 5) C 16 dX11_is_5 (by decide) h (fun c4 h => ?_) (fun c4 h => ?_)
  · refine k_aload_n (pc := 16) C dX11_is_16 0 rfl ?_
    refine k_bipush (pc := 17) (v := (-2 : Int32)) C dX11_is_17 cbipush_m2 ?_
    obtain ⟨z2, e2, h⟩ := bnd h
    refine k_callvI (pc := 19) C lk_X11_63 (by decide) ix_X11 wo_X11 rfl rfl (kc_X11_bad e2) dX11_is_19 rfl rfl (Nat.le_of_ble_eq_true rfl) ?_
    exact k_iret (pc := 22) C E (some_1 h) (some_2 h) dX11_is_22
  · refine k_aload_n (pc := 8) C dX11_is_8 0 rfl ?_
    refine k_iload_n (pc := 9) C dX11_is_9 1 rfl ?_
    obtain ⟨z3, e3, h⟩ := bnd h
    refine k_callvI (pc := 10) C lk_X11_162 (by decide) ix_X11 wo_X11 rfl rfl (kc_X11_kindsOf e3) dX11_is_10 rfl rfl (Nat.le_of_ble_eq_true rfl) ?_
    refine k_goto (pc := 13) C 22 dX11_is_13 (by decide) ?_
    exact k_iret (pc := 22) C E (some_1 h) (some_2 h) dX11_is_22
def m_X11_areAlike (x0 : Int32) (x1 : Int32) (x2 : Int32) (x3 : Int32) (x4 : Int32) : Option (Int32) := (m_X11_runsAs x0 x2 x3).bind (fun z1 => (m_X11_runsAs x1 x2 x3).bind (fun z2 => if z1 = z2 then ((m_X11_leftAs x0 x2 x4).bind (fun z3 => (m_X11_leftAs x1 x2 x4).bind (fun z4 => if z3 = z4 then (some (1 : Int32)) else (some (0 : Int32))))) else (some (0 : Int32))))
set_option maxHeartbeats 4000000 in
set_option maxRecDepth 100000 in
theorem kc_X11_areAlike {B : KB} {l : Launch} {T : TT} {x0 : Int32} {x1 : Int32} {x2 : Int32} {x3 : Int32} {x4 : Int32} {res : Int32} (h : m_X11_areAlike x0 x1 x2 x3 x4 = some res) : Kt B l 3 yX11_areAlike cX11_areAlike 5 (some .boolean) T [.int x0, .int x1, .int x2, .int x3, .int x4] (some (.int res)) T := by
  refine Kt.of (by decide) (Nat.le_of_ble_eq_true rfl) (fun X hX C E => ?_)
  subst hX
  have C : Cx B X "GriefEngineModel" cX11_areAlike 5 3 := C
  show Wk B X 5 T 0 [(0, .int x0), (1, .int x1), (2, .int x2), (3, .int x3), (4, .int x4)] []
  unfold m_X11_areAlike at h
  refine k_iload_n (pc := 0) C dX11_areAlike_0 0 rfl ?_
  refine k_iload_n (pc := 1) C dX11_areAlike_1 2 rfl ?_
  refine k_iload_n (pc := 2) C dX11_areAlike_2 3 rfl ?_
  obtain ⟨z1, e1, h⟩ := bnd h
  refine k_callsI (pc := 3) C lk_X11_94 (by decide) (kc_X11_runsAs e1) dX11_areAlike_3 rfl rfl (Nat.le_of_ble_eq_true rfl) ?_
  refine k_iload_n (pc := 6) C dX11_areAlike_6 1 rfl ?_
  refine k_iload_n (pc := 7) C dX11_areAlike_7 2 rfl ?_
  refine k_iload_n (pc := 8) C dX11_areAlike_8 3 rfl ?_
  obtain ⟨z2, e2, h⟩ := bnd h
  refine k_callsI (pc := 9) C lk_X11_94 (by decide) (kc_X11_runsAs e2) dX11_areAlike_9 rfl rfl (Nat.le_of_ble_eq_true rfl) ?_
  refine k_icmp_ne (pc := 12) C 36 dX11_areAlike_12 (by decide) h (fun c6 h => ?_) (fun c6 h => ?_)
  · refine k_iconst (pc := 36) (v := (0 : Int32)) C dX11_areAlike_36 ciconst_0 ?_
    exact k_zret (pc := 37) C E rfl (some_i h) rfl dX11_areAlike_37
  · refine k_iload_n (pc := 15) C dX11_areAlike_15 0 rfl ?_
    refine k_iload_n (pc := 16) C dX11_areAlike_16 2 rfl ?_
    refine k_iload (pc := 17) C dX11_areAlike_17 4 rfl ?_
    obtain ⟨z3, e3, h⟩ := bnd h
    refine k_callsI (pc := 19) C lk_X11_98 (by decide) (kc_X11_leftAs e3) dX11_areAlike_19 rfl rfl (Nat.le_of_ble_eq_true rfl) ?_
    refine k_iload_n (pc := 22) C dX11_areAlike_22 1 rfl ?_
    refine k_iload_n (pc := 23) C dX11_areAlike_23 2 rfl ?_
    refine k_iload (pc := 24) C dX11_areAlike_24 4 rfl ?_
    obtain ⟨z4, e4, h⟩ := bnd h
    refine k_callsI (pc := 26) C lk_X11_98 (by decide) (kc_X11_leftAs e4) dX11_areAlike_26 rfl rfl (Nat.le_of_ble_eq_true rfl) ?_
    refine k_icmp_ne (pc := 29) C 36 dX11_areAlike_29 (by decide) h (fun c5 h => ?_) (fun c5 h => ?_)
    · refine k_iconst (pc := 36) (v := (0 : Int32)) C dX11_areAlike_36 ciconst_0 ?_
      exact k_zret (pc := 37) C E rfl (some_i h) rfl dX11_areAlike_37
    · refine k_iconst (pc := 32) (v := (1 : Int32)) C dX11_areAlike_32 ciconst_1 ?_
      refine k_goto (pc := 33) C 37 dX11_areAlike_33 (by decide) ?_
      exact k_zret (pc := 37) C E rfl (some_i h) rfl dX11_areAlike_37
def m_X11_look_b200 (rec30 : TT → Int32 → Int32 → Int32 → Int32 → Int32 → Option (Int32 × TT)) (T : TT) (x1 : Int32) (x2 : Int32) (x3 : Int32) (x5 : Int32) (s0 : Int32) : Option (Int32 × TT) := bT (x5 + (1 : Int32)) (fun y23 => rec30 T x1 x2 x3 s0 y23)
def m_X11_look_b185 (rec30 : TT → Int32 → Int32 → Int32 → Int32 → Int32 → Option (Int32 × TT)) (T : TT) (x1 : Int32) (x2 : Int32) (x4 : Int32) (x5 : Int32) (x6 : Int32) (s0 : Int32) : Option (Int32 × TT) := if x4 ≤ x6 then (m_X11_look_b200 rec30 T x1 x2 s0 x5 x4) else (m_X11_look_b200 rec30 T x1 x2 s0 x5 x6)
def m_X11_look_b172 (rec30 : TT → Int32 → Int32 → Int32 → Int32 → Int32 → Option (Int32 × TT)) (T : TT) (x1 : Int32) (x2 : Int32) (x3 : Int32) (x4 : Int32) (x5 : Int32) (x6 : Int32) : Option (Int32 × TT) := if x4 ≤ x6 then (m_X11_look_b185 rec30 T x1 x2 x4 x5 x6 x3) else (m_X11_look_b185 rec30 T x1 x2 x4 x5 x6 x5)
def m_X11_look_b164 (rec30 : TT → Int32 → Int32 → Int32 → Int32 → Int32 → Option (Int32 × TT)) (rec61 : TT → Int32 → Int32 → Int32 → Int32 → Int32 → Int32 → Int32 → Option (Int32 × TT)) (T : TT) (x1 : Int32) (x2 : Int32) (x3 : Int32) (x4 : Int32) (x5 : Int32) (x7 : Int32) (s0 : Int32) : Option (Int32 × TT) := bT (x7 + (1 : Int32)) (fun y20 => rec61 T x1 x2 x3 x4 x5 s0 y20)
def m_X11_look_b150 (rec30 : TT → Int32 → Int32 → Int32 → Int32 → Int32 → Option (Int32 × TT)) (rec61 : TT → Int32 → Int32 → Int32 → Int32 → Int32 → Int32 → Int32 → Option (Int32 × TT)) (T : TT) (x1 : Int32) (x2 : Int32) (x3 : Int32) (x4 : Int32) (x5 : Int32) (x6 : Int32) (x7 : Int32) (x8 : Int32) : Option (Int32 × TT) := if x8 ≤ x6 then (m_X11_look_b164 rec30 rec61 T x1 x2 x3 x4 x5 x7 x6) else (m_X11_look_b164 rec30 rec61 T x1 x2 x3 x4 x5 x7 x8)
def m_X11_look_b141 (rec30 : TT → Int32 → Int32 → Int32 → Int32 → Int32 → Option (Int32 × TT)) (rec61 : TT → Int32 → Int32 → Int32 → Int32 → Int32 → Int32 → Int32 → Option (Int32 × TT)) (rec81 : TT → Int32 → Int32 → Int32 → Int32 → Int32 → Int32 → Int32 → Int32 → Int32 → Option (Int32 × TT)) (T : TT) (x1 : Int32) (x2 : Int32) (x3 : Int32) (x4 : Int32) (x5 : Int32) (x6 : Int32) (x7 : Int32) (x9 : Int32) (s0 : Int32) (s1 : Int32) : Option (Int32 × TT) := bT (s0 + s1) (fun y17 => bT (x9 + (1 : Int32)) (fun y18 => rec81 T x1 x2 x3 x4 x5 x6 x7 y17 y18))
def m_X11_look_b140 (rec30 : TT → Int32 → Int32 → Int32 → Int32 → Int32 → Option (Int32 × TT)) (rec61 : TT → Int32 → Int32 → Int32 → Int32 → Int32 → Int32 → Int32 → Option (Int32 × TT)) (rec81 : TT → Int32 → Int32 → Int32 → Int32 → Int32 → Int32 → Int32 → Int32 → Int32 → Option (Int32 × TT)) (T : TT) (x1 : Int32) (x2 : Int32) (x3 : Int32) (x4 : Int32) (x5 : Int32) (x6 : Int32) (x7 : Int32) (x9 : Int32) (s0 : Int32) : Option (Int32 × TT) := m_X11_look_b141 rec30 rec61 rec81 T x1 x2 x3 x4 x5 x6 x7 x9 s0 (0 : Int32)
def m_X11_look_h81 (rec30 : TT → Int32 → Int32 → Int32 → Int32 → Int32 → Option (Int32 × TT)) (rec61 : TT → Int32 → Int32 → Int32 → Int32 → Int32 → Int32 → Int32 → Option (Int32 × TT)) (rec81 : TT → Int32 → Int32 → Int32 → Int32 → Int32 → Int32 → Int32 → Int32 → Int32 → Option (Int32 × TT)) (T : TT) (x1 : Int32) (x2 : Int32) (x3 : Int32) (x4 : Int32) (x5 : Int32) (x6 : Int32) (x7 : Int32) (x8 : Int32) (x9 : Int32) : Option (Int32 × TT) := if (6 : Int32) ≤ x9 then (m_X11_look_b150 rec30 rec61 T x1 x2 x3 x4 x5 x6 x7 x8) else ((m_X11_has x2 x7).bind (fun z10 => if z10 = 0 then (m_X11_look_b150 rec30 rec61 T x1 x2 x3 x4 x5 x6 x7 x8) else ((m_X11_has x2 x9).bind (fun z11 => if z11 = 0 then (m_X11_look_b140 rec30 rec61 rec81 T x1 x2 x3 x4 x5 x6 x7 x9 x8) else (if inb ((4 : Int32) + x1) 175 then ((m_X11_areAlike x7 x9 (T.1 10 1 (Int32.toNatClampNeg ((4 : Int32) + x1))) (x5 / (10 : Int32)) (x5 - x5 / (10 : Int32) * (10 : Int32))).bind (fun z12 => if z12 = 0 then (m_X11_look_b140 rec30 rec61 rec81 T x1 x2 x3 x4 x5 x6 x7 x9 x8) else (m_X11_look_b141 rec30 rec61 rec81 T x1 x2 x3 x4 x5 x6 x7 x9 x8 (1 : Int32)))) else none)))))
def m_X11_look_l81 (rec30 : TT → Int32 → Int32 → Int32 → Int32 → Int32 → Option (Int32 × TT)) (rec61 : TT → Int32 → Int32 → Int32 → Int32 → Int32 → Int32 → Int32 → Option (Int32 × TT)) : Nat → TT → Int32 → Int32 → Int32 → Int32 → Int32 → Int32 → Int32 → Int32 → Int32 → Option (Int32 × TT)
  | 0 => fun _ _ _ _ _ _ _ _ _ _ => none
  | n + 1 => fun T x1 x2 x3 x4 x5 x6 x7 x8 x9 => m_X11_look_h81 rec30 rec61 (m_X11_look_l81 rec30 rec61 n) T x1 x2 x3 x4 x5 x6 x7 x8 x9
def m_X11_look_h61 (rec30 : TT → Int32 → Int32 → Int32 → Int32 → Int32 → Option (Int32 × TT)) (rec61 : TT → Int32 → Int32 → Int32 → Int32 → Int32 → Int32 → Int32 → Option (Int32 × TT)) (T : TT) (x1 : Int32) (x2 : Int32) (x3 : Int32) (x4 : Int32) (x5 : Int32) (x6 : Int32) (x7 : Int32) : Option (Int32 × TT) := if (6 : Int32) ≤ x7 then (m_X11_look_b172 rec30 T x1 x2 x3 x4 x5 x6) else (if (1000000 : Int32) ≤ x6 then (m_X11_look_b172 rec30 T x1 x2 x3 x4 x5 x6) else (m_X11_look_l81 rec30 rec61 FU T x1 x2 x3 x4 x5 x6 x7 (0 : Int32) (0 : Int32)))
def m_X11_look_l61 (rec30 : TT → Int32 → Int32 → Int32 → Int32 → Int32 → Option (Int32 × TT)) : Nat → TT → Int32 → Int32 → Int32 → Int32 → Int32 → Int32 → Int32 → Option (Int32 × TT)
  | 0 => fun _ _ _ _ _ _ _ _ => none
  | n + 1 => fun T x1 x2 x3 x4 x5 x6 x7 => m_X11_look_h61 rec30 (m_X11_look_l61 rec30 n) T x1 x2 x3 x4 x5 x6 x7
def m_X11_look_b56 (rec30 : TT → Int32 → Int32 → Int32 → Int32 → Int32 → Option (Int32 × TT)) (T : TT) (x1 : Int32) (x2 : Int32) (x3 : Int32) (x4 : Int32) (x5 : Int32) (s0 : Int32) : Option (Int32 × TT) := m_X11_look_l61 rec30 FU T x1 x2 x3 x4 x5 s0 (0 : Int32)
def m_X11_look_h30 (rec30 : TT → Int32 → Int32 → Int32 → Int32 → Int32 → Option (Int32 × TT)) (T : TT) (x1 : Int32) (x2 : Int32) (x3 : Int32) (x4 : Int32) (x5 : Int32) : Option (Int32 × TT) := if (33 : Int32) ≤ x5 then (some (x3, T)) else (if x2 ≤ 0 then (some (x3, T)) else (if (3 : Int32) ≤ (x5 - x5 / (10 : Int32) * (10 : Int32)) then (m_X11_look_b56 rec30 T x1 x2 x3 x4 x5 (1000000 : Int32)) else (m_X11_look_b56 rec30 T x1 x2 x3 x4 x5 (0 : Int32))))
def m_X11_look_l30 : Nat → TT → Int32 → Int32 → Int32 → Int32 → Int32 → Option (Int32 × TT)
  | 0 => fun _ _ _ _ _ _ => none
  | n + 1 => fun T x1 x2 x3 x4 x5 => m_X11_look_h30 (m_X11_look_l30 n) T x1 x2 x3 x4 x5
def m_X11_look (T : TT) (x1 : Int32) : Option (Int32 × TT) := (m_X11_isDriver T x1).bind (fun z1 => if z1 = 0 then ((m_X11_bad T (-2 : Int32)).bind (fun z3 => some (z3.1, z3.2))) else ((m_X11_kindsOf T x1).bind (fun z2 => m_X11_look_l30 FU T x1 z2 (-1 : Int32) (1000000 : Int32) (0 : Int32))))
set_option maxHeartbeats 4000000 in
set_option maxRecDepth 100000 in
theorem k_X11_look_b200 {B : KB} {X : KE} {rec30 : TT → Int32 → Int32 → Int32 → Int32 → Int32 → Option (Int32 × TT)} {res : Int32 × TT} (C : Cx B X "GriefEngineModel" cX11_look 10 4) (E : Cr B X (some .int) (some (.int res.1)) res.2) (hrec30 : ∀ (T : TT) (x1 : Int32) (x2 : Int32) (x3 : Int32) (x4 : Int32) (x5 : Int32), rec30 T x1 x2 x3 x4 x5 = some res → Wk B X 10 T 30 [(0, .ref (B.1 10 0)), (1, .int x1), (2, .int x2), (3, .int x3), (4, .int x4), (5, .int x5)] []) (T : TT) (x1 : Int32) (x2 : Int32) (x3 : Int32) (x5 : Int32) (s0 : Int32) (h : m_X11_look_b200 rec30 T x1 x2 x3 x5 s0 = some res) : Wk B X 10 T 200 [(0, .ref (B.1 10 0)), (1, .int x1), (2, .int x2), (3, .int x3), (5, .int x5)] [.int s0] := by
  unfold m_X11_look_b200 at h
  refine k_istore (pc := 200) C [(4, .int s0), (0, .ref (B.1 10 0)), (1, .int x1), (2, .int x2), (3, .int x3), (5, .int x5)] dX11_look_200 (by decide) rfl ?_
  refine k_iincN (pc := 202) (x := x5) (c := (1 : Int32)) C (fun y23 => [(5, .int y23), (4, .int s0), (0, .ref (B.1 10 0)), (1, .int x1), (2, .int x2), (3, .int x3)]) dX11_look_202 5 rfl ciconst_1 (by decide) (fun _ => rfl) h (fun y23 h => ?_)
  refine k_goto (pc := 205) C 30 dX11_look_205 (by decide) ?_
  refine k_sub [2, 3, 4, 5, 1, 0] rfl ?_
  exact hrec30 T x1 x2 x3 s0 y23 h
set_option maxHeartbeats 4000000 in
set_option maxRecDepth 100000 in
theorem k_X11_look_b185 {B : KB} {X : KE} {rec30 : TT → Int32 → Int32 → Int32 → Int32 → Int32 → Option (Int32 × TT)} {res : Int32 × TT} (C : Cx B X "GriefEngineModel" cX11_look 10 4) (E : Cr B X (some .int) (some (.int res.1)) res.2) (hrec30 : ∀ (T : TT) (x1 : Int32) (x2 : Int32) (x3 : Int32) (x4 : Int32) (x5 : Int32), rec30 T x1 x2 x3 x4 x5 = some res → Wk B X 10 T 30 [(0, .ref (B.1 10 0)), (1, .int x1), (2, .int x2), (3, .int x3), (4, .int x4), (5, .int x5)] []) (T : TT) (x1 : Int32) (x2 : Int32) (x4 : Int32) (x5 : Int32) (x6 : Int32) (s0 : Int32) (h : m_X11_look_b185 rec30 T x1 x2 x4 x5 x6 s0 = some res) : Wk B X 10 T 185 [(0, .ref (B.1 10 0)), (1, .int x1), (2, .int x2), (4, .int x4), (5, .int x5), (6, .int x6)] [.int s0] := by
  unfold m_X11_look_b185 at h
  refine k_istore_n (pc := 185) C [(3, .int s0), (0, .ref (B.1 10 0)), (1, .int x1), (2, .int x2), (4, .int x4), (5, .int x5), (6, .int x6)] dX11_look_185 (by decide) rfl ?_
  refine k_iload (pc := 186) C dX11_look_186 6 rfl ?_
  refine k_iload (pc := 188) C dX11_look_188 4 rfl ?_
  refine k_icmp_ge (pc := 190) C 198 dX11_look_190 (by decide) h (fun c22 h => ?_) (fun c22 h => ?_)
  · refine k_iload (pc := 198) C dX11_look_198 4 rfl ?_
    refine k_sub [1, 2, 3, 0, 5] rfl ?_
    exact k_X11_look_b200 C E hrec30 T x1 x2 s0 x5 x4 h
  · refine k_iload (pc := 193) C dX11_look_193 6 rfl ?_
    refine k_goto (pc := 195) C 200 dX11_look_195 (by decide) ?_
    refine k_sub [1, 2, 3, 0, 5] rfl ?_
    exact k_X11_look_b200 C E hrec30 T x1 x2 s0 x5 x6 h
set_option maxHeartbeats 4000000 in
set_option maxRecDepth 100000 in
theorem k_X11_look_b172 {B : KB} {X : KE} {rec30 : TT → Int32 → Int32 → Int32 → Int32 → Int32 → Option (Int32 × TT)} {res : Int32 × TT} (C : Cx B X "GriefEngineModel" cX11_look 10 4) (E : Cr B X (some .int) (some (.int res.1)) res.2) (hrec30 : ∀ (T : TT) (x1 : Int32) (x2 : Int32) (x3 : Int32) (x4 : Int32) (x5 : Int32), rec30 T x1 x2 x3 x4 x5 = some res → Wk B X 10 T 30 [(0, .ref (B.1 10 0)), (1, .int x1), (2, .int x2), (3, .int x3), (4, .int x4), (5, .int x5)] []) (T : TT) (x1 : Int32) (x2 : Int32) (x3 : Int32) (x4 : Int32) (x5 : Int32) (x6 : Int32) (h : m_X11_look_b172 rec30 T x1 x2 x3 x4 x5 x6 = some res) : Wk B X 10 T 172 [(0, .ref (B.1 10 0)), (1, .int x1), (2, .int x2), (3, .int x3), (4, .int x4), (5, .int x5), (6, .int x6)] [] := by
  unfold m_X11_look_b172 at h
  refine k_iload (pc := 172) C dX11_look_172 6 rfl ?_
  refine k_iload (pc := 174) C dX11_look_174 4 rfl ?_
  refine k_icmp_ge (pc := 176) C 184 dX11_look_176 (by decide) h (fun c21 h => ?_) (fun c21 h => ?_)
  · refine k_iload_n (pc := 184) C dX11_look_184 3 rfl ?_
    refine k_sub [0, 1, 2, 4, 5, 6] rfl ?_
    exact k_X11_look_b185 C E hrec30 T x1 x2 x4 x5 x6 x3 h
  · refine k_iload (pc := 179) C dX11_look_179 5 rfl ?_
    refine k_goto (pc := 181) C 185 dX11_look_181 (by decide) ?_
    refine k_sub [0, 1, 2, 4, 5, 6] rfl ?_
    exact k_X11_look_b185 C E hrec30 T x1 x2 x4 x5 x6 x5 h
set_option maxHeartbeats 4000000 in
set_option maxRecDepth 100000 in
theorem k_X11_look_b164 {B : KB} {X : KE} {rec30 : TT → Int32 → Int32 → Int32 → Int32 → Int32 → Option (Int32 × TT)} {rec61 : TT → Int32 → Int32 → Int32 → Int32 → Int32 → Int32 → Int32 → Option (Int32 × TT)} {res : Int32 × TT} (C : Cx B X "GriefEngineModel" cX11_look 10 4) (E : Cr B X (some .int) (some (.int res.1)) res.2) (hrec30 : ∀ (T : TT) (x1 : Int32) (x2 : Int32) (x3 : Int32) (x4 : Int32) (x5 : Int32), rec30 T x1 x2 x3 x4 x5 = some res → Wk B X 10 T 30 [(0, .ref (B.1 10 0)), (1, .int x1), (2, .int x2), (3, .int x3), (4, .int x4), (5, .int x5)] []) (hrec61 : ∀ (T : TT) (x1 : Int32) (x2 : Int32) (x3 : Int32) (x4 : Int32) (x5 : Int32) (x6 : Int32) (x7 : Int32), rec61 T x1 x2 x3 x4 x5 x6 x7 = some res → Wk B X 10 T 61 [(0, .ref (B.1 10 0)), (1, .int x1), (2, .int x2), (3, .int x3), (4, .int x4), (5, .int x5), (6, .int x6), (7, .int x7)] []) (T : TT) (x1 : Int32) (x2 : Int32) (x3 : Int32) (x4 : Int32) (x5 : Int32) (x7 : Int32) (s0 : Int32) (h : m_X11_look_b164 rec30 rec61 T x1 x2 x3 x4 x5 x7 s0 = some res) : Wk B X 10 T 164 [(0, .ref (B.1 10 0)), (1, .int x1), (2, .int x2), (3, .int x3), (4, .int x4), (5, .int x5), (7, .int x7)] [.int s0] := by
  unfold m_X11_look_b164 at h
  refine k_istore (pc := 164) C [(6, .int s0), (0, .ref (B.1 10 0)), (1, .int x1), (2, .int x2), (3, .int x3), (4, .int x4), (5, .int x5), (7, .int x7)] dX11_look_164 (by decide) rfl ?_
  refine k_iincN (pc := 166) (x := x7) (c := (1 : Int32)) C (fun y20 => [(7, .int y20), (6, .int s0), (0, .ref (B.1 10 0)), (1, .int x1), (2, .int x2), (3, .int x3), (4, .int x4), (5, .int x5)]) dX11_look_166 7 rfl ciconst_1 (by decide) (fun _ => rfl) h (fun y20 h => ?_)
  refine k_goto (pc := 169) C 61 dX11_look_169 (by decide) ?_
  refine k_sub [2, 3, 4, 5, 6, 7, 1, 0] rfl ?_
  exact hrec61 T x1 x2 x3 x4 x5 s0 y20 h
set_option maxHeartbeats 4000000 in
set_option maxRecDepth 100000 in
theorem k_X11_look_b150 {B : KB} {X : KE} {rec30 : TT → Int32 → Int32 → Int32 → Int32 → Int32 → Option (Int32 × TT)} {rec61 : TT → Int32 → Int32 → Int32 → Int32 → Int32 → Int32 → Int32 → Option (Int32 × TT)} {res : Int32 × TT} (C : Cx B X "GriefEngineModel" cX11_look 10 4) (E : Cr B X (some .int) (some (.int res.1)) res.2) (hrec30 : ∀ (T : TT) (x1 : Int32) (x2 : Int32) (x3 : Int32) (x4 : Int32) (x5 : Int32), rec30 T x1 x2 x3 x4 x5 = some res → Wk B X 10 T 30 [(0, .ref (B.1 10 0)), (1, .int x1), (2, .int x2), (3, .int x3), (4, .int x4), (5, .int x5)] []) (hrec61 : ∀ (T : TT) (x1 : Int32) (x2 : Int32) (x3 : Int32) (x4 : Int32) (x5 : Int32) (x6 : Int32) (x7 : Int32), rec61 T x1 x2 x3 x4 x5 x6 x7 = some res → Wk B X 10 T 61 [(0, .ref (B.1 10 0)), (1, .int x1), (2, .int x2), (3, .int x3), (4, .int x4), (5, .int x5), (6, .int x6), (7, .int x7)] []) (T : TT) (x1 : Int32) (x2 : Int32) (x3 : Int32) (x4 : Int32) (x5 : Int32) (x6 : Int32) (x7 : Int32) (x8 : Int32) (h : m_X11_look_b150 rec30 rec61 T x1 x2 x3 x4 x5 x6 x7 x8 = some res) : Wk B X 10 T 150 [(0, .ref (B.1 10 0)), (1, .int x1), (2, .int x2), (3, .int x3), (4, .int x4), (5, .int x5), (6, .int x6), (7, .int x7), (8, .int x8)] [] := by
  unfold m_X11_look_b150 at h
  refine k_iload (pc := 150) C dX11_look_150 8 rfl ?_
  refine k_iload (pc := 152) C dX11_look_152 6 rfl ?_
  refine k_icmp_le (pc := 154) C 162 dX11_look_154 (by decide) h (fun c19 h => ?_) (fun c19 h => ?_)
  · refine k_iload (pc := 162) C dX11_look_162 6 rfl ?_
    refine k_sub [0, 1, 2, 3, 4, 5, 7] rfl ?_
    exact k_X11_look_b164 C E hrec30 hrec61 T x1 x2 x3 x4 x5 x7 x6 h
  · refine k_iload (pc := 157) C dX11_look_157 8 rfl ?_
    refine k_goto (pc := 159) C 164 dX11_look_159 (by decide) ?_
    refine k_sub [0, 1, 2, 3, 4, 5, 7] rfl ?_
    exact k_X11_look_b164 C E hrec30 hrec61 T x1 x2 x3 x4 x5 x7 x8 h
set_option maxHeartbeats 4000000 in
set_option maxRecDepth 100000 in
theorem k_X11_look_b141 {B : KB} {X : KE} {rec30 : TT → Int32 → Int32 → Int32 → Int32 → Int32 → Option (Int32 × TT)} {rec61 : TT → Int32 → Int32 → Int32 → Int32 → Int32 → Int32 → Int32 → Option (Int32 × TT)} {rec81 : TT → Int32 → Int32 → Int32 → Int32 → Int32 → Int32 → Int32 → Int32 → Int32 → Option (Int32 × TT)} {res : Int32 × TT} (C : Cx B X "GriefEngineModel" cX11_look 10 4) (E : Cr B X (some .int) (some (.int res.1)) res.2) (hrec30 : ∀ (T : TT) (x1 : Int32) (x2 : Int32) (x3 : Int32) (x4 : Int32) (x5 : Int32), rec30 T x1 x2 x3 x4 x5 = some res → Wk B X 10 T 30 [(0, .ref (B.1 10 0)), (1, .int x1), (2, .int x2), (3, .int x3), (4, .int x4), (5, .int x5)] []) (hrec61 : ∀ (T : TT) (x1 : Int32) (x2 : Int32) (x3 : Int32) (x4 : Int32) (x5 : Int32) (x6 : Int32) (x7 : Int32), rec61 T x1 x2 x3 x4 x5 x6 x7 = some res → Wk B X 10 T 61 [(0, .ref (B.1 10 0)), (1, .int x1), (2, .int x2), (3, .int x3), (4, .int x4), (5, .int x5), (6, .int x6), (7, .int x7)] []) (hrec81 : ∀ (T : TT) (x1 : Int32) (x2 : Int32) (x3 : Int32) (x4 : Int32) (x5 : Int32) (x6 : Int32) (x7 : Int32) (x8 : Int32) (x9 : Int32), rec81 T x1 x2 x3 x4 x5 x6 x7 x8 x9 = some res → Wk B X 10 T 81 [(0, .ref (B.1 10 0)), (1, .int x1), (2, .int x2), (3, .int x3), (4, .int x4), (5, .int x5), (6, .int x6), (7, .int x7), (8, .int x8), (9, .int x9)] []) (T : TT) (x1 : Int32) (x2 : Int32) (x3 : Int32) (x4 : Int32) (x5 : Int32) (x6 : Int32) (x7 : Int32) (x9 : Int32) (s0 : Int32) (s1 : Int32) (h : m_X11_look_b141 rec30 rec61 rec81 T x1 x2 x3 x4 x5 x6 x7 x9 s0 s1 = some res) : Wk B X 10 T 141 [(0, .ref (B.1 10 0)), (1, .int x1), (2, .int x2), (3, .int x3), (4, .int x4), (5, .int x5), (6, .int x6), (7, .int x7), (9, .int x9)] [.int s1, .int s0] := by
  unfold m_X11_look_b141 at h
  refine k_iadd (pc := 141) C dX11_look_141 ?_
  refine k_nI h (fun y17 h => ?_)
  refine k_istore (pc := 142) C [(8, .int y17), (0, .ref (B.1 10 0)), (1, .int x1), (2, .int x2), (3, .int x3), (4, .int x4), (5, .int x5), (6, .int x6), (7, .int x7), (9, .int x9)] dX11_look_142 (by decide) rfl ?_
  refine k_iincN (pc := 144) (x := x9) (c := (1 : Int32)) C (fun y18 => [(9, .int y18), (8, .int y17), (0, .ref (B.1 10 0)), (1, .int x1), (2, .int x2), (3, .int x3), (4, .int x4), (5, .int x5), (6, .int x6), (7, .int x7)]) dX11_look_144 9 rfl ciconst_1 (by decide) (fun _ => rfl) h (fun y18 h => ?_)
  refine k_goto (pc := 147) C 81 dX11_look_147 (by decide) ?_
  refine k_sub [2, 3, 4, 5, 6, 7, 8, 9, 1, 0] rfl ?_
  exact hrec81 T x1 x2 x3 x4 x5 x6 x7 y17 y18 h
set_option maxHeartbeats 4000000 in
set_option maxRecDepth 100000 in
theorem k_X11_look_b140 {B : KB} {X : KE} {rec30 : TT → Int32 → Int32 → Int32 → Int32 → Int32 → Option (Int32 × TT)} {rec61 : TT → Int32 → Int32 → Int32 → Int32 → Int32 → Int32 → Int32 → Option (Int32 × TT)} {rec81 : TT → Int32 → Int32 → Int32 → Int32 → Int32 → Int32 → Int32 → Int32 → Int32 → Option (Int32 × TT)} {res : Int32 × TT} (C : Cx B X "GriefEngineModel" cX11_look 10 4) (E : Cr B X (some .int) (some (.int res.1)) res.2) (hrec30 : ∀ (T : TT) (x1 : Int32) (x2 : Int32) (x3 : Int32) (x4 : Int32) (x5 : Int32), rec30 T x1 x2 x3 x4 x5 = some res → Wk B X 10 T 30 [(0, .ref (B.1 10 0)), (1, .int x1), (2, .int x2), (3, .int x3), (4, .int x4), (5, .int x5)] []) (hrec61 : ∀ (T : TT) (x1 : Int32) (x2 : Int32) (x3 : Int32) (x4 : Int32) (x5 : Int32) (x6 : Int32) (x7 : Int32), rec61 T x1 x2 x3 x4 x5 x6 x7 = some res → Wk B X 10 T 61 [(0, .ref (B.1 10 0)), (1, .int x1), (2, .int x2), (3, .int x3), (4, .int x4), (5, .int x5), (6, .int x6), (7, .int x7)] []) (hrec81 : ∀ (T : TT) (x1 : Int32) (x2 : Int32) (x3 : Int32) (x4 : Int32) (x5 : Int32) (x6 : Int32) (x7 : Int32) (x8 : Int32) (x9 : Int32), rec81 T x1 x2 x3 x4 x5 x6 x7 x8 x9 = some res → Wk B X 10 T 81 [(0, .ref (B.1 10 0)), (1, .int x1), (2, .int x2), (3, .int x3), (4, .int x4), (5, .int x5), (6, .int x6), (7, .int x7), (8, .int x8), (9, .int x9)] []) (T : TT) (x1 : Int32) (x2 : Int32) (x3 : Int32) (x4 : Int32) (x5 : Int32) (x6 : Int32) (x7 : Int32) (x9 : Int32) (s0 : Int32) (h : m_X11_look_b140 rec30 rec61 rec81 T x1 x2 x3 x4 x5 x6 x7 x9 s0 = some res) : Wk B X 10 T 140 [(0, .ref (B.1 10 0)), (1, .int x1), (2, .int x2), (3, .int x3), (4, .int x4), (5, .int x5), (6, .int x6), (7, .int x7), (9, .int x9)] [.int s0] := by
  unfold m_X11_look_b140 at h
  refine k_iconst (pc := 140) (v := (0 : Int32)) C dX11_look_140 ciconst_0 ?_
  refine k_sub [0, 1, 2, 3, 4, 5, 6, 7, 8] rfl ?_
  exact k_X11_look_b141 C E hrec30 hrec61 hrec81 T x1 x2 x3 x4 x5 x6 x7 x9 s0 (0 : Int32) h
set_option maxHeartbeats 4000000 in
set_option maxRecDepth 100000 in
theorem k_X11_look_h81 {B : KB} {X : KE} {rec30 : TT → Int32 → Int32 → Int32 → Int32 → Int32 → Option (Int32 × TT)} {rec61 : TT → Int32 → Int32 → Int32 → Int32 → Int32 → Int32 → Int32 → Option (Int32 × TT)} {rec81 : TT → Int32 → Int32 → Int32 → Int32 → Int32 → Int32 → Int32 → Int32 → Int32 → Option (Int32 × TT)} {res : Int32 × TT} (C : Cx B X "GriefEngineModel" cX11_look 10 4) (E : Cr B X (some .int) (some (.int res.1)) res.2) (hrec30 : ∀ (T : TT) (x1 : Int32) (x2 : Int32) (x3 : Int32) (x4 : Int32) (x5 : Int32), rec30 T x1 x2 x3 x4 x5 = some res → Wk B X 10 T 30 [(0, .ref (B.1 10 0)), (1, .int x1), (2, .int x2), (3, .int x3), (4, .int x4), (5, .int x5)] []) (hrec61 : ∀ (T : TT) (x1 : Int32) (x2 : Int32) (x3 : Int32) (x4 : Int32) (x5 : Int32) (x6 : Int32) (x7 : Int32), rec61 T x1 x2 x3 x4 x5 x6 x7 = some res → Wk B X 10 T 61 [(0, .ref (B.1 10 0)), (1, .int x1), (2, .int x2), (3, .int x3), (4, .int x4), (5, .int x5), (6, .int x6), (7, .int x7)] []) (hrec81 : ∀ (T : TT) (x1 : Int32) (x2 : Int32) (x3 : Int32) (x4 : Int32) (x5 : Int32) (x6 : Int32) (x7 : Int32) (x8 : Int32) (x9 : Int32), rec81 T x1 x2 x3 x4 x5 x6 x7 x8 x9 = some res → Wk B X 10 T 81 [(0, .ref (B.1 10 0)), (1, .int x1), (2, .int x2), (3, .int x3), (4, .int x4), (5, .int x5), (6, .int x6), (7, .int x7), (8, .int x8), (9, .int x9)] []) (T : TT) (x1 : Int32) (x2 : Int32) (x3 : Int32) (x4 : Int32) (x5 : Int32) (x6 : Int32) (x7 : Int32) (x8 : Int32) (x9 : Int32) (h : m_X11_look_h81 rec30 rec61 rec81 T x1 x2 x3 x4 x5 x6 x7 x8 x9 = some res) : Wk B X 10 T 81 [(0, .ref (B.1 10 0)), (1, .int x1), (2, .int x2), (3, .int x3), (4, .int x4), (5, .int x5), (6, .int x6), (7, .int x7), (8, .int x8), (9, .int x9)] [] := by
  unfold m_X11_look_h81 at h
  refine k_iload (pc := 81) C dX11_look_81 9 rfl ?_
  refine k_bipush (pc := 83) (v := (6 : Int32)) C dX11_look_83 cbipush_6 ?_
  refine k_icmp_ge (pc := 85) C 150 dX11_look_85 (by decide) h (fun c16 h => ?_) (fun c16 h => ?_)
  · refine k_sub [0, 1, 2, 3, 4, 5, 6, 7, 8] rfl ?_
    exact k_X11_look_b150 C E hrec30 hrec61 T x1 x2 x3 x4 x5 x6 x7 x8 h
  · refine k_iload_n (pc := 88) C dX11_look_88 2 rfl ?_
    refine k_iload (pc := 89) C dX11_look_89 7 rfl ?_
    obtain ⟨z10, e10, h⟩ := bnd h
    refine k_callsI (pc := 91) C lk_X11_166 (by decide) (kc_X11_has e10) dX11_look_91 rfl rfl (Nat.le_of_ble_eq_true rfl) ?_
    refine k_if_eq (pc := 94) C 150 dX11_look_94 (by decide) h (fun c15 h => ?_) (fun c15 h => ?_)
    · refine k_sub [0, 1, 2, 3, 4, 5, 6, 7, 8] rfl ?_
      exact k_X11_look_b150 C E hrec30 hrec61 T x1 x2 x3 x4 x5 x6 x7 x8 h
    · refine k_iload (pc := 97) C dX11_look_97 8 rfl ?_
      refine k_iload_n (pc := 99) C dX11_look_99 2 rfl ?_
      refine k_iload (pc := 100) C dX11_look_100 9 rfl ?_
      obtain ⟨z11, e11, h⟩ := bnd h
      refine k_callsI (pc := 102) C lk_X11_166 (by decide) (kc_X11_has e11) dX11_look_102 rfl rfl (Nat.le_of_ble_eq_true rfl) ?_
      refine k_if_eq (pc := 105) C 140 dX11_look_105 (by decide) h (fun c14 h => ?_) (fun c14 h => ?_)
      · refine k_sub [0, 1, 2, 3, 4, 5, 6, 7, 9] rfl ?_
        exact k_X11_look_b140 C E hrec30 hrec61 hrec81 T x1 x2 x3 x4 x5 x6 x7 x9 x8 h
      · refine k_iload (pc := 108) C dX11_look_108 7 rfl ?_
        refine k_iload (pc := 110) C dX11_look_110 9 rfl ?_
        refine k_aload_n (pc := 112) C dX11_look_112 0 rfl ?_
        refine gf_X11_7 (pc := 113) C dX11_look_113 ?_
        refine k_iconst (pc := 116) (v := (4 : Int32)) C dX11_look_116 ciconst_4 ?_
        refine k_iload_n (pc := 117) C dX11_look_117 1 rfl ?_
        refine k_iadd (pc := 118) C dX11_look_118 ?_
        refine k_iald (pc := 119) C ia_10_1 dX11_look_119 h (fun h => ?_)
        refine k_iload (pc := 120) C dX11_look_120 5 rfl ?_
        refine k_bipush (pc := 122) (v := (10 : Int32)) C dX11_look_122 cbipush_10 ?_
        refine k_idivc (pc := 124) C dX11_look_124 (by decide) ?_
        refine k_iload (pc := 125) C dX11_look_125 5 rfl ?_
        refine k_bipush (pc := 127) (v := (10 : Int32)) C dX11_look_127 cbipush_10 ?_
        refine k_iremc (pc := 129) C dX11_look_129 (by decide) ?_
        obtain ⟨z12, e12, h⟩ := bnd h
        refine k_callsI (pc := 130) C lk_X11_170 (by decide) (kc_X11_areAlike e12) dX11_look_130 rfl rfl (Nat.le_of_ble_eq_true rfl) ?_
        refine k_if_eq (pc := 133) C 140 dX11_look_133 (by decide) h (fun c13 h => ?_) (fun c13 h => ?_)
        · refine k_sub [0, 1, 2, 3, 4, 5, 6, 7, 9] rfl ?_
          exact k_X11_look_b140 C E hrec30 hrec61 hrec81 T x1 x2 x3 x4 x5 x6 x7 x9 x8 h
        · refine k_iconst (pc := 136) (v := (1 : Int32)) C dX11_look_136 ciconst_1 ?_
          refine k_goto (pc := 137) C 141 dX11_look_137 (by decide) ?_
          refine k_sub [0, 1, 2, 3, 4, 5, 6, 7, 9] rfl ?_
          exact k_X11_look_b141 C E hrec30 hrec61 hrec81 T x1 x2 x3 x4 x5 x6 x7 x9 x8 (1 : Int32) h
set_option maxHeartbeats 4000000 in
set_option maxRecDepth 100000 in
theorem k_X11_look_l81 {B : KB} {X : KE} {rec30 : TT → Int32 → Int32 → Int32 → Int32 → Int32 → Option (Int32 × TT)} {rec61 : TT → Int32 → Int32 → Int32 → Int32 → Int32 → Int32 → Int32 → Option (Int32 × TT)} {res : Int32 × TT} (C : Cx B X "GriefEngineModel" cX11_look 10 4) (E : Cr B X (some .int) (some (.int res.1)) res.2) (hrec30 : ∀ (T : TT) (x1 : Int32) (x2 : Int32) (x3 : Int32) (x4 : Int32) (x5 : Int32), rec30 T x1 x2 x3 x4 x5 = some res → Wk B X 10 T 30 [(0, .ref (B.1 10 0)), (1, .int x1), (2, .int x2), (3, .int x3), (4, .int x4), (5, .int x5)] []) (hrec61 : ∀ (T : TT) (x1 : Int32) (x2 : Int32) (x3 : Int32) (x4 : Int32) (x5 : Int32) (x6 : Int32) (x7 : Int32), rec61 T x1 x2 x3 x4 x5 x6 x7 = some res → Wk B X 10 T 61 [(0, .ref (B.1 10 0)), (1, .int x1), (2, .int x2), (3, .int x3), (4, .int x4), (5, .int x5), (6, .int x6), (7, .int x7)] []) : ∀ (n : Nat) (T : TT) (x1 : Int32) (x2 : Int32) (x3 : Int32) (x4 : Int32) (x5 : Int32) (x6 : Int32) (x7 : Int32) (x8 : Int32) (x9 : Int32) (h : m_X11_look_l81 rec30 rec61 n T x1 x2 x3 x4 x5 x6 x7 x8 x9 = some res), Wk B X 10 T 81 [(0, .ref (B.1 10 0)), (1, .int x1), (2, .int x2), (3, .int x3), (4, .int x4), (5, .int x5), (6, .int x6), (7, .int x7), (8, .int x8), (9, .int x9)] [] := by
  intro n
  induction n with
  | zero =>
    intro T x1 x2 x3 x4 x5 x6 x7 x8 x9 h
    exact no_some h
  | succ n ih =>
    intro T x1 x2 x3 x4 x5 x6 x7 x8 x9 h
    exact k_X11_look_h81 C E hrec30 hrec61 (fun T x1 x2 x3 x4 x5 x6 x7 x8 x9 h => ih T x1 x2 x3 x4 x5 x6 x7 x8 x9 h) T x1 x2 x3 x4 x5 x6 x7 x8 x9 h
set_option maxHeartbeats 4000000 in
set_option maxRecDepth 100000 in
theorem k_X11_look_h61 {B : KB} {X : KE} {rec30 : TT → Int32 → Int32 → Int32 → Int32 → Int32 → Option (Int32 × TT)} {rec61 : TT → Int32 → Int32 → Int32 → Int32 → Int32 → Int32 → Int32 → Option (Int32 × TT)} {res : Int32 × TT} (C : Cx B X "GriefEngineModel" cX11_look 10 4) (E : Cr B X (some .int) (some (.int res.1)) res.2) (hrec30 : ∀ (T : TT) (x1 : Int32) (x2 : Int32) (x3 : Int32) (x4 : Int32) (x5 : Int32), rec30 T x1 x2 x3 x4 x5 = some res → Wk B X 10 T 30 [(0, .ref (B.1 10 0)), (1, .int x1), (2, .int x2), (3, .int x3), (4, .int x4), (5, .int x5)] []) (hrec61 : ∀ (T : TT) (x1 : Int32) (x2 : Int32) (x3 : Int32) (x4 : Int32) (x5 : Int32) (x6 : Int32) (x7 : Int32), rec61 T x1 x2 x3 x4 x5 x6 x7 = some res → Wk B X 10 T 61 [(0, .ref (B.1 10 0)), (1, .int x1), (2, .int x2), (3, .int x3), (4, .int x4), (5, .int x5), (6, .int x6), (7, .int x7)] []) (T : TT) (x1 : Int32) (x2 : Int32) (x3 : Int32) (x4 : Int32) (x5 : Int32) (x6 : Int32) (x7 : Int32) (h : m_X11_look_h61 rec30 rec61 T x1 x2 x3 x4 x5 x6 x7 = some res) : Wk B X 10 T 61 [(0, .ref (B.1 10 0)), (1, .int x1), (2, .int x2), (3, .int x3), (4, .int x4), (5, .int x5), (6, .int x6), (7, .int x7)] [] := by
  unfold m_X11_look_h61 at h
  refine k_iload (pc := 61) C dX11_look_61 7 rfl ?_
  refine k_bipush (pc := 63) (v := (6 : Int32)) C dX11_look_63 cbipush_6 ?_
  refine k_icmp_ge (pc := 65) C 172 dX11_look_65 (by decide) h (fun c9 h => ?_) (fun c9 h => ?_)
  · refine k_sub [0, 1, 2, 3, 4, 5, 6] rfl ?_
    exact k_X11_look_b172 C E hrec30 T x1 x2 x3 x4 x5 x6 h
  · refine k_iload (pc := 68) C dX11_look_68 6 rfl ?_
    refine k_ldc (pc := 70) (v := (1000000 : Int32)) C dX11_look_70 tw5_54 ?_
    refine k_icmp_ge (pc := 72) C 172 dX11_look_72 (by decide) h (fun c8 h => ?_) (fun c8 h => ?_)
    · refine k_sub [0, 1, 2, 3, 4, 5, 6] rfl ?_
      exact k_X11_look_b172 C E hrec30 T x1 x2 x3 x4 x5 x6 h
    · refine k_iconst (pc := 75) (v := (0 : Int32)) C dX11_look_75 ciconst_0 ?_
      refine k_istore (pc := 76) C [(8, .int (0 : Int32)), (0, .ref (B.1 10 0)), (1, .int x1), (2, .int x2), (3, .int x3), (4, .int x4), (5, .int x5), (6, .int x6), (7, .int x7)] dX11_look_76 (by decide) rfl ?_
      refine k_iconst (pc := 78) (v := (0 : Int32)) C dX11_look_78 ciconst_0 ?_
      refine k_istore (pc := 79) C [(9, .int (0 : Int32)), (8, .int (0 : Int32)), (0, .ref (B.1 10 0)), (1, .int x1), (2, .int x2), (3, .int x3), (4, .int x4), (5, .int x5), (6, .int x6), (7, .int x7)] dX11_look_79 (by decide) rfl ?_
      refine k_sub [2, 3, 4, 5, 6, 7, 8, 9, 1, 0] rfl ?_
      exact k_X11_look_l81 C E hrec30 hrec61 FU T x1 x2 x3 x4 x5 x6 x7 (0 : Int32) (0 : Int32) h
set_option maxHeartbeats 4000000 in
set_option maxRecDepth 100000 in
theorem k_X11_look_l61 {B : KB} {X : KE} {rec30 : TT → Int32 → Int32 → Int32 → Int32 → Int32 → Option (Int32 × TT)} {res : Int32 × TT} (C : Cx B X "GriefEngineModel" cX11_look 10 4) (E : Cr B X (some .int) (some (.int res.1)) res.2) (hrec30 : ∀ (T : TT) (x1 : Int32) (x2 : Int32) (x3 : Int32) (x4 : Int32) (x5 : Int32), rec30 T x1 x2 x3 x4 x5 = some res → Wk B X 10 T 30 [(0, .ref (B.1 10 0)), (1, .int x1), (2, .int x2), (3, .int x3), (4, .int x4), (5, .int x5)] []) : ∀ (n : Nat) (T : TT) (x1 : Int32) (x2 : Int32) (x3 : Int32) (x4 : Int32) (x5 : Int32) (x6 : Int32) (x7 : Int32) (h : m_X11_look_l61 rec30 n T x1 x2 x3 x4 x5 x6 x7 = some res), Wk B X 10 T 61 [(0, .ref (B.1 10 0)), (1, .int x1), (2, .int x2), (3, .int x3), (4, .int x4), (5, .int x5), (6, .int x6), (7, .int x7)] [] := by
  intro n
  induction n with
  | zero =>
    intro T x1 x2 x3 x4 x5 x6 x7 h
    exact no_some h
  | succ n ih =>
    intro T x1 x2 x3 x4 x5 x6 x7 h
    exact k_X11_look_h61 C E hrec30 (fun T x1 x2 x3 x4 x5 x6 x7 h => ih T x1 x2 x3 x4 x5 x6 x7 h) T x1 x2 x3 x4 x5 x6 x7 h
set_option maxHeartbeats 4000000 in
set_option maxRecDepth 100000 in
theorem k_X11_look_b56 {B : KB} {X : KE} {rec30 : TT → Int32 → Int32 → Int32 → Int32 → Int32 → Option (Int32 × TT)} {res : Int32 × TT} (C : Cx B X "GriefEngineModel" cX11_look 10 4) (E : Cr B X (some .int) (some (.int res.1)) res.2) (hrec30 : ∀ (T : TT) (x1 : Int32) (x2 : Int32) (x3 : Int32) (x4 : Int32) (x5 : Int32), rec30 T x1 x2 x3 x4 x5 = some res → Wk B X 10 T 30 [(0, .ref (B.1 10 0)), (1, .int x1), (2, .int x2), (3, .int x3), (4, .int x4), (5, .int x5)] []) (T : TT) (x1 : Int32) (x2 : Int32) (x3 : Int32) (x4 : Int32) (x5 : Int32) (s0 : Int32) (h : m_X11_look_b56 rec30 T x1 x2 x3 x4 x5 s0 = some res) : Wk B X 10 T 56 [(0, .ref (B.1 10 0)), (1, .int x1), (2, .int x2), (3, .int x3), (4, .int x4), (5, .int x5)] [.int s0] := by
  unfold m_X11_look_b56 at h
  refine k_istore (pc := 56) C [(6, .int s0), (0, .ref (B.1 10 0)), (1, .int x1), (2, .int x2), (3, .int x3), (4, .int x4), (5, .int x5)] dX11_look_56 (by decide) rfl ?_
  refine k_iconst (pc := 58) (v := (0 : Int32)) C dX11_look_58 ciconst_0 ?_
  refine k_istore (pc := 59) C [(7, .int (0 : Int32)), (6, .int s0), (0, .ref (B.1 10 0)), (1, .int x1), (2, .int x2), (3, .int x3), (4, .int x4), (5, .int x5)] dX11_look_59 (by decide) rfl ?_
  refine k_sub [2, 3, 4, 5, 6, 7, 1, 0] rfl ?_
  exact k_X11_look_l61 C E hrec30 FU T x1 x2 x3 x4 x5 s0 (0 : Int32) h
set_option maxHeartbeats 4000000 in
set_option maxRecDepth 100000 in
theorem k_X11_look_h30 {B : KB} {X : KE} {rec30 : TT → Int32 → Int32 → Int32 → Int32 → Int32 → Option (Int32 × TT)} {res : Int32 × TT} (C : Cx B X "GriefEngineModel" cX11_look 10 4) (E : Cr B X (some .int) (some (.int res.1)) res.2) (hrec30 : ∀ (T : TT) (x1 : Int32) (x2 : Int32) (x3 : Int32) (x4 : Int32) (x5 : Int32), rec30 T x1 x2 x3 x4 x5 = some res → Wk B X 10 T 30 [(0, .ref (B.1 10 0)), (1, .int x1), (2, .int x2), (3, .int x3), (4, .int x4), (5, .int x5)] []) (T : TT) (x1 : Int32) (x2 : Int32) (x3 : Int32) (x4 : Int32) (x5 : Int32) (h : m_X11_look_h30 rec30 T x1 x2 x3 x4 x5 = some res) : Wk B X 10 T 30 [(0, .ref (B.1 10 0)), (1, .int x1), (2, .int x2), (3, .int x3), (4, .int x4), (5, .int x5)] [] := by
  unfold m_X11_look_h30 at h
  refine k_iload (pc := 30) C dX11_look_30 5 rfl ?_
  refine k_bipush (pc := 32) (v := (33 : Int32)) C dX11_look_32 cbipush_33 ?_
  refine k_icmp_ge (pc := 34) C 208 dX11_look_34 (by decide) h (fun c7 h => ?_) (fun c7 h => ?_)
  · refine k_iload_n (pc := 208) C dX11_look_208 3 rfl ?_
    exact k_iret (pc := 209) C E (some_1 h) (some_2 h) dX11_look_209
  · refine k_iload_n (pc := 37) C dX11_look_37 2 rfl ?_
    refine k_if_le (pc := 38) C 208 dX11_look_38 (by decide) h (fun c6 h => ?_) (fun c6 h => ?_)
    · refine k_iload_n (pc := 208) C dX11_look_208 3 rfl ?_
      exact k_iret (pc := 209) C E (some_1 h) (some_2 h) dX11_look_209
    · refine k_iload (pc := 41) C dX11_look_41 5 rfl ?_
      refine k_bipush (pc := 43) (v := (10 : Int32)) C dX11_look_43 cbipush_10 ?_
      refine k_iremc (pc := 45) C dX11_look_45 (by decide) ?_
      refine k_iconst (pc := 46) (v := (3 : Int32)) C dX11_look_46 ciconst_3 ?_
      refine k_icmp_ge (pc := 47) C 54 dX11_look_47 (by decide) h (fun c5 h => ?_) (fun c5 h => ?_)
      · refine k_ldc (pc := 54) (v := (1000000 : Int32)) C dX11_look_54 tw5_54 ?_
        refine k_sub [0, 1, 2, 3, 4, 5] rfl ?_
        exact k_X11_look_b56 C E hrec30 T x1 x2 x3 x4 x5 (1000000 : Int32) h
      · refine k_iconst (pc := 50) (v := (0 : Int32)) C dX11_look_50 ciconst_0 ?_
        refine k_goto (pc := 51) C 56 dX11_look_51 (by decide) ?_
        refine k_sub [0, 1, 2, 3, 4, 5] rfl ?_
        exact k_X11_look_b56 C E hrec30 T x1 x2 x3 x4 x5 (0 : Int32) h
set_option maxHeartbeats 4000000 in
set_option maxRecDepth 100000 in
theorem k_X11_look_l30 {B : KB} {X : KE} {res : Int32 × TT} (C : Cx B X "GriefEngineModel" cX11_look 10 4) (E : Cr B X (some .int) (some (.int res.1)) res.2) : ∀ (n : Nat) (T : TT) (x1 : Int32) (x2 : Int32) (x3 : Int32) (x4 : Int32) (x5 : Int32) (h : m_X11_look_l30 n T x1 x2 x3 x4 x5 = some res), Wk B X 10 T 30 [(0, .ref (B.1 10 0)), (1, .int x1), (2, .int x2), (3, .int x3), (4, .int x4), (5, .int x5)] [] := by
  intro n
  induction n with
  | zero =>
    intro T x1 x2 x3 x4 x5 h
    exact no_some h
  | succ n ih =>
    intro T x1 x2 x3 x4 x5 h
    exact k_X11_look_h30 C E (fun T x1 x2 x3 x4 x5 h => ih T x1 x2 x3 x4 x5 h) T x1 x2 x3 x4 x5 h
set_option maxHeartbeats 4000000 in
set_option maxRecDepth 100000 in
theorem kc_X11_look {B : KB} {l : Launch} {T : TT} {x1 : Int32} {res : Int32 × TT} (h : m_X11_look T x1 = some res) : Kt B l 4 yX11_look cX11_look 10 (some .int) T [.ref (B.1 10 0), .int x1] (some (.int res.1)) res.2 := by
  refine Kt.of (by decide) (Nat.le_of_ble_eq_true rfl) (fun X hX C E => ?_)
  subst hX
  have C : Cx B X "GriefEngineModel" cX11_look 10 4 := C
  show Wk B X 10 T 0 [(0, .ref (B.1 10 0)), (1, .int x1)] []
  unfold m_X11_look at h
  refine k_aload_n (pc := 0) C dX11_look_0 0 rfl ?_
  refine k_iload_n (pc := 1) C dX11_look_1 1 rfl ?_
  obtain ⟨z1, e1, h⟩ := bnd h
  refine k_callvI (pc := 2) C lk_X11_116 (by decide) ix_X11 wo_X11 rfl rfl (kc_X11_isDriver e1) dX11_look_2 rfl rfl (Nat.le_of_ble_eq_true rfl) ?_
  refine k_if_ne (pc := 5) C 15 dX11_look_5 (by decide) h (fun c4 h => ?_) (fun c4 h => ?_)
  · refine k_aload_n (pc := 15) C dX11_look_15 0 rfl ?_
    refine k_iload_n (pc := 16) C dX11_look_16 1 rfl ?_
    obtain ⟨z2, e2, h⟩ := bnd h
    refine k_callvI (pc := 17) C lk_X11_162 (by decide) ix_X11 wo_X11 rfl rfl (kc_X11_kindsOf e2) dX11_look_17 rfl rfl (Nat.le_of_ble_eq_true rfl) ?_
    refine k_istore_n (pc := 20) C [(2, .int z2), (0, .ref (B.1 10 0)), (1, .int x1)] dX11_look_20 (by decide) rfl ?_
    refine k_iconst (pc := 21) (v := (-1 : Int32)) C dX11_look_21 ciconst_m1 ?_
    refine k_istore_n (pc := 22) C [(3, .int (-1 : Int32)), (2, .int z2), (0, .ref (B.1 10 0)), (1, .int x1)] dX11_look_22 (by decide) rfl ?_
    refine k_ldc (pc := 23) (v := (1000000 : Int32)) C dX11_look_23 tw5_54 ?_
    refine k_istore (pc := 25) C [(4, .int (1000000 : Int32)), (3, .int (-1 : Int32)), (2, .int z2), (0, .ref (B.1 10 0)), (1, .int x1)] dX11_look_25 (by decide) rfl ?_
    refine k_iconst (pc := 27) (v := (0 : Int32)) C dX11_look_27 ciconst_0 ?_
    refine k_istore (pc := 28) C [(5, .int (0 : Int32)), (4, .int (1000000 : Int32)), (3, .int (-1 : Int32)), (2, .int z2), (0, .ref (B.1 10 0)), (1, .int x1)] dX11_look_28 (by decide) rfl ?_
    refine k_sub [4, 5, 3, 2, 1, 0] rfl ?_
    exact k_X11_look_l30 C E FU T x1 z2 (-1 : Int32) (1000000 : Int32) (0 : Int32) h
  · refine k_aload_n (pc := 8) C dX11_look_8 0 rfl ?_
    refine k_bipush (pc := 9) (v := (-2 : Int32)) C dX11_look_9 cbipush_m2 ?_
    obtain ⟨z3, e3, h⟩ := bnd h
    refine k_callvI (pc := 11) C lk_X11_63 (by decide) ix_X11 wo_X11 rfl rfl (kc_X11_bad e3) dX11_look_11 rfl rfl (Nat.le_of_ble_eq_true rfl) ?_
    exact k_iret (pc := 14) C E (some_1 h) (some_2 h) dX11_look_14
