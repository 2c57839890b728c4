def m_X11_look_b200 (rec30 : TT → Int32 → Int32 → Int32 → Int32 → Int32 → Option (Int32 × TT)) (T : TT) (x1 : Int32) (x2 : Int32) (x3 : Int32) (x5 : Int32) (s0 : Int32) : Option (Int32 × TT) := bT (x5 + (1 : Int32)) (fun y23 => rec30 T x1 x2 x3 s0 y23)
def m_X11_look_b185 (rec30 : TT → Int32 → Int32 → Int32 → Int32 → Int32 → Option (Int32 × TT)) (T : TT) (x1 : Int32) (x2 : Int32) (x4 : Int32) (x5 : Int32) (x6 : Int32) (s0 : Int32) : Option (Int32 × TT) := if x4 ≤ x6 then (m_X11_look_b200 rec30 T x1 x2 s0 x5 x4) else (m_X11_look_b200 rec30 T x1 x2 s0 x5 x6)
def m_X11_look_b172 (rec30 : TT → Int32 → Int32 → Int32 → Int32 → Int32 → Option (Int32 × TT)) (T : TT) (x1 : Int32) (x2 : Int32) (x3 : Int32) (x4 : Int32) (x5 : Int32) (x6 : Int32) : Option (Int32 × TT) := if x4 ≤ x6 then (m_X11_look_b185 rec30 T x1 x2 x4 x5 x6 x3) else (m_X11_look_b185 rec30 T x1 x2 x4 x5 x6 x5)
def m_X11_look_b164 (rec30 : TT → Int32 → Int32 → Int32 → Int32 → Int32 → Option (Int32 × TT)) (rec61 : TT → Int32 → Int32 → Int32 → Int32 → Int32 → Int32 → Int32 → Option (Int32 × TT)) (T : TT) (x1 : Int32) (x2 : Int32) (x3 : Int32) (x4 : Int32) (x5 : Int32) (x7 : Int32) (s0 : Int32) : Option (Int32 × TT) := bT (x7 + (1 : Int32)) (fun y20 => rec61 T x1 x2 x3 x4 x5 s0 y20)
def m_X11_look_b150 (rec30 : TT → Int32 → Int32 → Int32 → Int32 → Int32 → Option (Int32 × TT)) (rec61 : TT → Int32 → Int32 → Int32 → Int32 → Int32 → Int32 → Int32 → Option (Int32 × TT)) (T : TT) (x1 : Int32) (x2 : Int32) (x3 : Int32) (x4 : Int32) (x5 : Int32) (x6 : Int32) (x7 : Int32) (x8 : Int32) : Option (Int32 × TT) := if x8 ≤ x6 then (m_X11_look_b164 rec30 rec61 T x1 x2 x3 x4 x5 x7 x6) else (m_X11_look_b164 rec30 rec61 T x1 x2 x3 x4 x5 x7 x8)
def m_X11_look_b141 (rec30 : TT → Int32 → Int32 → Int32 → Int32 → Int32 → Option (Int32 × TT)) (rec61 : TT → Int32 → Int32 → Int32 → Int32 → Int32 → Int32 → Int32 → Option (Int32 × TT)) (rec81 : TT → Int32 → Int32 → Int32 → Int32 → Int32 → Int32 → Int32 → Int32 → Int32 → Option (Int32 × TT)) (T : TT) (x1 : Int32) (x2 : Int32) (x3 : Int32) (x4 : Int32) (x5 : Int32) (x6 : Int32) (x7 : Int32) (x9 : Int32) (s0 : Int32) (s1 : Int32) : Option (Int32 × TT) := bT (s0 + s1) (fun y17 => bT (x9 + (1 : Int32)) (fun y18 => rec81 T x1 x2 x3 x4 x5 x6 x7 y17 y18))
def m_X11_look_b140 (rec30 : TT → Int32 → Int32 → Int32 → Int32 → Int32 → Option (Int32 × TT)) (rec61 : TT → Int32 → Int32 → Int32 → Int32 → Int32 → Int32 → Int32 → Option (Int32 × TT)) (rec81 : TT → Int32 → Int32 → Int32 → Int32 → Int32 → Int32 → Int32 → Int32 → Int32 → Option (Int32 × TT)) (T : TT) (x1 : Int32) (x2 : Int32) (x3 : Int32) (x4 : Int32) (x5 : Int32) (x6 : Int32) (x7 : Int32) (x9 : Int32) (s0 : Int32) : Option (Int32 × TT) := m_X11_look_b141 rec30 rec61 rec81 T x1 x2 x3 x4 x5 x6 x7 x9 s0 (0 : Int32)
def m_X11_look_h81 (rec30 : TT → Int32 → Int32 → Int32 → Int32 → Int32 → Option (Int32 × TT)) (rec61 : TT → Int32 → Int32 → Int32 → Int32 → Int32 → Int32 → Int32 → Option (Int32 × TT)) (rec81 : TT → Int32 → Int32 → Int32 → Int32 → Int32 → Int32 → Int32 → Int32 → Int32 → Option (Int32 × TT)) (T : TT) (x1 : Int32) (x2 : Int32) (x3 : Int32) (x4 : Int32) (x5 : Int32) (x6 : Int32) (x7 : Int32) (x8 : Int32) (x9 : Int32) : Option (Int32 × TT) := if (6 : Int32) ≤ x9 then (m_X11_look_b150 rec30 rec61 T x1 x2 x3 x4 x5 x6 x7 x8) else ((m_X11_has x2 x7).bind (fun z10 => if z10 = 0 then (m_X11_look_b150 rec30 rec61 T x1 x2 x3 x4 x5 x6 x7 x8) else ((m_X11_has x2 x9).bind (fun z11 => if z11 = 0 then (m_X11_look_b140 rec30 rec61 rec81 T x1 x2 x3 x4 x5 x6 x7 x9 x8) else (if inb ((4 : Int32) + x1) 175 then ((m_X11_areAlike x7 x9 (T.1 10 1 (Int32.toNatClampNeg ((4 : Int32) + x1))) (x5 / (10 : Int32)) (x5 - x5 / (10 : Int32) * (10 : Int32))).bind (fun z12 => if z12 = 0 then (m_X11_look_b140 rec30 rec61 rec81 T x1 x2 x3 x4 x5 x6 x7 x9 x8) else (m_X11_look_b141 rec30 rec61 rec81 T x1 x2 x3 x4 x5 x6 x7 x9 x8 (1 : Int32)))) else none)))))
def m_X11_look_l81 (rec30 : TT → Int32 → Int32 → Int32 → Int32 → Int32 → Option (Int32 × TT)) (rec61 : TT → Int32 → Int32 → Int32 → Int32 → Int32 → Int32 → Int32 → Option (Int32 × TT)) : Nat → TT → Int32 → Int32 → Int32 → Int32 → Int32 → Int32 → Int32 → Int32 → Int32 → Option (Int32 × TT)
  | 0 => fun _ _ _ _ _ _ _ _ _ _ => none
  | n + 1 => fun T x1 x2 x3 x4 x5 x6 x7 x8 x9 => m_X11_look_h81 rec30 rec61 (m_X11_look_l81 rec30 rec61 n) T x1 x2 x3 x4 x5 x6 x7 x8 x9
def m_X11_look_h61 (rec30 : TT → Int32 → Int32 → Int32 → Int32 → Int32 → Option (Int32 × TT)) (rec61 : TT → Int32 → Int32 → Int32 → Int32 → Int32 → Int32 → Int32 → Option (Int32 × TT)) (T : TT) (x1 : Int32) (x2 : Int32) (x3 : Int32) (x4 : Int32) (x5 : Int32) (x6 : Int32) (x7 : Int32) : Option (Int32 × TT) := if (6 : Int32) ≤ x7 then (m_X11_look_b172 rec30 T x1 x2 x3 x4 x5 x6) else (if (1000000 : Int32) ≤ x6 then (m_X11_look_b172 rec30 T x1 x2 x3 x4 x5 x6) else (m_X11_look_l81 rec30 rec61 FU T x1 x2 x3 x4 x5 x6 x7 (0 : Int32) (0 : Int32)))
def m_X11_look_l61 (rec30 : TT → Int32 → Int32 → Int32 → Int32 → Int32 → Option (Int32 × TT)) : Nat → TT → Int32 → Int32 → Int32 → Int32 → Int32 → Int32 → Int32 → Option (Int32 × TT)
  | 0 => fun _ _ _ _ _ _ _ _ => none
  | n + 1 => fun T x1 x2 x3 x4 x5 x6 x7 => m_X11_look_h61 rec30 (m_X11_look_l61 rec30 n) T x1 x2 x3 x4 x5 x6 x7
def m_X11_look_b56 (rec30 : TT → Int32 → Int32 → Int32 → Int32 → Int32 → Option (Int32 × TT)) (T : TT) (x1 : Int32) (x2 : Int32) (x3 : Int32) (x4 : Int32) (x5 : Int32) (s0 : Int32) : Option (Int32 × TT) := m_X11_look_l61 rec30 FU T x1 x2 x3 x4 x5 s0 (0 : Int32)
def m_X11_look_h30 (rec30 : TT → Int32 → Int32 → Int32 → Int32 → Int32 → Option (Int32 × TT)) (T : TT) (x1 : Int32) (x2 : Int32) (x3 : Int32) (x4 : Int32) (x5 : Int32) : Option (Int32 × TT) := if (33 : Int32) ≤ x5 then (some (x3, T)) else (if x2 ≤ 0 then (some (x3, T)) else (if (3 : Int32) ≤ (x5 - x5 / (10 : Int32) * (10 : Int32)) then (m_X11_look_b56 rec30 T x1 x2 x3 x4 x5 (1000000 : Int32)) else (m_X11_look_b56 rec30 T x1 x2 x3 x4 x5 (0 : Int32))))
def m_X11_look_l30 : Nat → TT → Int32 → Int32 → Int32 → Int32 → Int32 → Option (Int32 × TT)
  | 0 => fun _ _ _ _ _ _ => none
  | n + 1 => fun T x1 x2 x3 x4 x5 => m_X11_look_h30 (m_X11_look_l30 n) T x1 x2 x3 x4 x5
def m_X11_look (T : TT) (x1 : Int32) : Option (Int32 × TT) := (m_X11_isDriver T x1).bind (fun z1 => if z1 = 0 then ((m_X11_bad T (-2 : Int32)).bind (fun z3 => some (z3.1, z3.2))) else ((m_X11_kindsOf T x1).bind (fun z2 => m_X11_look_l30 FU T x1 z2 (-1 : Int32) (1000000 : Int32) (0 : Int32))))
set_option maxHeartbeats 4000000 in
set_option maxRecDepth 100000 in
theorem k_X11_look_b200 {B : KB} {X : KE} {rec30 : TT → Int32 → Int32 → Int32 → Int32 → Int32 → Option (Int32 × TT)} {res : Int32 × TT} (C : Cx B X "GriefEngineModel" cX11_look 10 4) (E : Cr B X (some .int) (some (.int res.1)) res.2) (hrec30 : ∀ (T : TT) (x1 : Int32) (x2 : Int32) (x3 : Int32) (x4 : Int32) (x5 : Int32), rec30 T x1 x2 x3 x4 x5 = some res → Wk B X 10 T 30 [(0, .ref (B.1 10 0)), (1, .int x1), (2, .int x2), (3, .int x3), (4, .int x4), (5, .int x5)] []) (T : TT) (x1 : Int32) (x2 : Int32) (x3 : Int32) (x5 : Int32) (s0 : Int32) (h : m_X11_look_b200 rec30 T x1 x2 x3 x5 s0 = some res) : Wk B X 10 T 200 [(0, .ref (B.1 10 0)), (1, .int x1), (2, .int x2), (3, .int x3), (5, .int x5)] [.int s0] := by
  unfold m_X11_look_b200 at h
  refine k_istore (pc := 200) C [(4, .int s0), (0, .ref (B.1 10 0)), (1, .int x1), (2, .int x2), (3, .int x3), (5, .int x5)] dX11_look_200 (by decide) rfl ?_
  refine k_iincN (pc := 202) (x := x5) (c := (1 : Int32)) C (fun y23 => [(5, .int y23), (4, .int s0), (0, .ref (B.1 10 0)), (1, .int x1), (2, .int x2), (3, .int x3)]) dX11_look_202 5 rfl ciconst_1 (by decide) (fun _ => rfl) h (fun y23 h => ?_)
  refine k_goto (pc := 205) C 30 dX11_look_205 (by decide) ?_
  refine k_sub [2, 3, 4, 5, 1, 0] rfl ?_
  exact hrec30 T x1 x2 x3 s0 y23 h
set_option maxHeartbeats 4000000 in
set_option maxRecDepth 100000 in
theorem k_X11_look_b185 {B : KB} {X : KE} {rec30 : TT → Int32 → Int32 → Int32 → Int32 → Int32 → Option (Int32 × TT)} {res : Int32 × TT} (C : Cx B X "GriefEngineModel" cX11_look 10 4) (E : Cr B X (some .int) (some (.int res.1)) res.2) (hrec30 : ∀ (T : TT) (x1 : Int32) (x2 : Int32) (x3 : Int32) (x4 : Int32) (x5 : Int32), rec30 T x1 x2 x3 x4 x5 = some res → Wk B X 10 T 30 [(0, .ref (B.1 10 0)), (1, .int x1), (2, .int x2), (3, .int x3), (4, .int x4), (5, .int x5)] []) (T : TT) (x1 : Int32) (x2 : Int32) (x4 : Int32) (x5 : Int32) (x6 : Int32) (s0 : Int32) (h : m_X11_look_b185 rec30 T x1 x2 x4 x5 x6 s0 = some res) : Wk B X 10 T 185 [(0, .ref (B.1 10 0)), (1, .int x1), (2, .int x2), (4, .int x4), (5, .int x5), (6, .int x6)] [.int s0] := by
  unfold m_X11_look_b185 at h
  refine k_istore_n (pc := 185) C [(3, .int s0), (0, .ref (B.1 10 0)), (1, .int x1), (2, .int x2), (4, .int x4), (5, .int x5), (6, .int x6)] dX11_look_185 (by decide) rfl ?_
  refine k_iload (pc := 186) C dX11_look_186 6 rfl ?_
  refine k_iload (pc := 188) C dX11_look_188 4 rfl ?_
  refine k_icmp_ge (pc := 190) C 198 dX11_look_190 (by decide) h (fun c22 h => ?_) (fun c22 h => ?_)
  · refine k_iload (pc := 198) C dX11_look_198 4 rfl ?_
    refine k_sub [1, 2, 3, 0, 5] rfl ?_
    exact k_X11_look_b200 C E hrec30 T x1 x2 s0 x5 x4 h
  · refine k_iload (pc := 193) C dX11_look_193 6 rfl ?_
    refine k_goto (pc := 195) C 200 dX11_look_195 (by decide) ?_
    refine k_sub [1, 2, 3, 0, 5] rfl ?_
    exact k_X11_look_b200 C E hrec30 T x1 x2 s0 x5 x6 h
set_option maxHeartbeats 4000000 in
set_option maxRecDepth 100000 in
theorem k_X11_look_b172 {B : KB} {X : KE} {rec30 : TT → Int32 → Int32 → Int32 → Int32 → Int32 → Option (Int32 × TT)} {res : Int32 × TT} (C : Cx B X "GriefEngineModel" cX11_look 10 4) (E : Cr B X (some .int) (some (.int res.1)) res.2) (hrec30 : ∀ (T : TT) (x1 : Int32) (x2 : Int32) (x3 : Int32) (x4 : Int32) (x5 : Int32), rec30 T x1 x2 x3 x4 x5 = some res → Wk B X 10 T 30 [(0, .ref (B.1 10 0)), (1, .int x1), (2, .int x2), (3, .int x3), (4, .int x4), (5, .int x5)] []) (T : TT) (x1 : Int32) (x2 : Int32) (x3 : Int32) (x4 : Int32) (x5 : Int32) (x6 : Int32) (h : m_X11_look_b172 rec30 T x1 x2 x3 x4 x5 x6 = some res) : Wk B X 10 T 172 [(0, .ref (B.1 10 0)), (1, .int x1), (2, .int x2), (3, .int x3), (4, .int x4), (5, .int x5), (6, .int x6)] [] := by
  unfold m_X11_look_b172 at h
  refine k_iload (pc := 172) C dX11_look_172 6 rfl ?_
  refine k_iload (pc := 174) C dX11_look_174 4 rfl ?_
  refine k_icmp_ge (pc := 176) C 184 dX11_look_176 (by decide) h (fun c21 h => ?_) (fun c21 h => ?_)
  · refine k_iload_n (pc := 184) C dX11_look_184 3 rfl ?_
    refine k_sub [0, 1, 2, 4, 5, 6] rfl ?_
    exact k_X11_look_b185 C E hrec30 T x1 x2 x4 x5 x6 x3 h
  · refine k_iload (pc := 179) C dX11_look_179 5 rfl ?_
    refine k_goto (pc := 181) C 185 dX11_look_181 (by decide) ?_
    refine k_sub [0, 1, 2, 4, 5, 6] rfl ?_
    exact k_X11_look_b185 C E hrec30 T x1 x2 x4 x5 x6 x5 h
set_option maxHeartbeats 4000000 in
set_option maxRecDepth 100000 in
theorem k_X11_look_b164 {B : KB} {X : KE} {rec30 : TT → Int32 → Int32 → Int32 → Int32 → Int32 → Option (Int32 × TT)} {rec61 : TT → Int32 → Int32 → Int32 → Int32 → Int32 → Int32 → Int32 → Option (Int32 × TT)} {res : Int32 × TT} (C : Cx B X "GriefEngineModel" cX11_look 10 4) (E : Cr B X (some .int) (some (.int res.1)) res.2) (hrec30 : ∀ (T : TT) (x1 : Int32) (x2 : Int32) (x3 : Int32) (x4 : Int32) (x5 : Int32), rec30 T x1 x2 x3 x4 x5 = some res → Wk B X 10 T 30 [(0, .ref (B.1 10 0)), (1, .int x1), (2, .int x2), (3, .int x3), (4, .int x4), (5, .int x5)] []) (hrec61 : ∀ (T : TT) (x1 : Int32) (x2 : Int32) (x3 : Int32) (x4 : Int32) (x5 : Int32) (x6 : Int32) (x7 : Int32), rec61 T x1 x2 x3 x4 x5 x6 x7 = some res → Wk B X 10 T 61 [(0, .ref (B.1 10 0)), (1, .int x1), (2, .int x2), (3, .int x3), (4, .int x4), (5, .int x5), (6, .int x6), (7, .int x7)] []) (T : TT) (x1 : Int32) (x2 : Int32) (x3 : Int32) (x4 : Int32) (x5 : Int32) (x7 : Int32) (s0 : Int32) (h : m_X11_look_b164 rec30 rec61 T x1 x2 x3 x4 x5 x7 s0 = some res) : Wk B X 10 T 164 [(0, .ref (B.1 10 0)), (1, .int x1), (2, .int x2), (3, .int x3), (4, .int x4), (5, .int x5), (7, .int x7)] [.int s0] := by
  unfold m_X11_look_b164 at h
  refine k_istore (pc := 164) C [(6, .int s0), (0, .ref (B.1 10 0)), (1, .int x1), (2, .int x2), (3, .int x3), (4, .int x4), (5, .int x5), (7, .int x7)] dX11_look_164 (by decide) rfl ?_
  refine k_iincN (pc := 166) (x := x7) (c := (1 : Int32)) C (fun y20 => [(7, .int y20), (6, .int s0), (0, .ref (B.1 10 0)), (1, .int x1), (2, .int x2), (3, .int x3), (4, .int x4), (5, .int x5)]) dX11_look_166 7 rfl ciconst_1 (by decide) (fun _ => rfl) h (fun y20 h => ?_)
  refine k_goto (pc := 169) C 61 dX11_look_169 (by decide) ?_
  refine k_sub [2, 3, 4, 5, 6, 7, 1, 0] rfl ?_
  exact hrec61 T x1 x2 x3 x4 x5 s0 y20 h
set_option maxHeartbeats 4000000 in
set_option maxRecDepth 100000 in
theorem k_X11_look_b150 {B : KB} {X : KE} {rec30 : TT → Int32 → Int32 → Int32 → Int32 → Int32 → Option (Int32 × TT)} {rec61 : TT → Int32 → Int32 → Int32 → Int32 → Int32 → Int32 → Int32 → Option (Int32 × TT)} {res : Int32 × TT} (C : Cx B X "GriefEngineModel" cX11_look 10 4) (E : Cr B X (some .int) (some (.int res.1)) res.2) (hrec30 : ∀ (T : TT) (x1 : Int32) (x2 : Int32) (x3 : Int32) (x4 : Int32) (x5 : Int32), rec30 T x1 x2 x3 x4 x5 = some res → Wk B X 10 T 30 [(0, .ref (B.1 10 0)), (1, .int x1), (2, .int x2), (3, .int x3), (4, .int x4), (5, .int x5)] []) (hrec61 : ∀ (T : TT) (x1 : Int32) (x2 : Int32) (x3 : Int32) (x4 : Int32) (x5 : Int32) (x6 : Int32) (x7 : Int32), rec61 T x1 x2 x3 x4 x5 x6 x7 = some res → Wk B X 10 T 61 [(0, .ref (B.1 10 0)), (1, .int x1), (2, .int x2), (3, .int x3), (4, .int x4), (5, .int x5), (6, .int x6), (7, .int x7)] []) (T : TT) (x1 : Int32) (x2 : Int32) (x3 : Int32) (x4 : Int32) (x5 : Int32) (x6 : Int32) (x7 : Int32) (x8 : Int32) (h : m_X11_look_b150 rec30 rec61 T x1 x2 x3 x4 x5 x6 x7 x8 = some res) : Wk B X 10 T 150 [(0, .ref (B.1 10 0)), (1, .int x1), (2, .int x2), (3, .int x3), (4, .int x4), (5, .int x5), (6, .int x6), (7, .int x7), (8, .int x8)] [] := by
  unfold m_X11_look_b150 at h
  refine k_iload (pc := 150) C dX11_look_150 8 rfl ?_
  refine k_iload (pc := 152) C dX11_look_152 6 rfl ?_
  refine k_icmp_le (pc := 154) C 162 dX11_look_154 (by decide) h (fun c19 h => ?_) (fun c19 h => ?_)
  · refine k_iload (pc := 162) C dX11_look_162 6 rfl ?_
    refine k_sub [0, 1, 2, 3, 4, 5, 7] rfl ?_
    exact k_X11_look_b164 C E hrec30 hrec61 T x1 x2 x3 x4 x5 x7 x6 h
  · refine k_iload (pc := 157) C dX11_look_157 8 rfl ?_
    refine k_goto (pc := 159) C 164 dX11_look_159 (by decide) ?_
    refine k_sub [0, 1, 2, 3, 4, 5, 7] rfl ?_
    exact k_X11_look_b164 C E hrec30 hrec61 T x1 x2 x3 x4 x5 x7 x8 h
set_option maxHeartbeats 4000000 in
set_option maxRecDepth 100000 in
theorem k_X11_look_b141 {B : KB} {X : KE} {rec30 : TT → Int32 → Int32 → Int32 → Int32 → Int32 → Option (Int32 × TT)} {rec61 : TT → Int32 → Int32 → Int32 → Int32 → Int32 → Int32 → Int32 → Option (Int32 × TT)} {rec81 : TT → Int32 → Int32 → Int32 → Int32 → Int32 → Int32 → Int32 → Int32 → Int32 → Option (Int32 × TT)} {res : Int32 × TT} (C : Cx B X "GriefEngineModel" cX11_look 10 4) (E : Cr B X (some .int) (some (.int res.1)) res.2) (hrec30 : ∀ (T : TT) (x1 : Int32) (x2 : Int32) (x3 : Int32) (x4 : Int32) (x5 : Int32), rec30 T x1 x2 x3 x4 x5 = some res → Wk B X 10 T 30 [(0, .ref (B.1 10 0)), (1, .int x1), (2, .int x2), (3, .int x3), (4, .int x4), (5, .int x5)] []) (hrec61 : ∀ (T : TT) (x1 : Int32) (x2 : Int32) (x3 : Int32) (x4 : Int32) (x5 : Int32) (x6 : Int32) (x7 : Int32), rec61 T x1 x2 x3 x4 x5 x6 x7 = some res → Wk B X 10 T 61 [(0, .ref (B.1 10 0)), (1, .int x1), (2, .int x2), (3, .int x3), (4, .int x4), (5, .int x5), (6, .int x6), (7, .int x7)] []) (hrec81 : ∀ (T : TT) (x1 : Int32) (x2 : Int32) (x3 : Int32) (x4 : Int32) (x5 : Int32) (x6 : Int32) (x7 : Int32) (x8 : Int32) (x9 : Int32), rec81 T x1 x2 x3 x4 x5 x6 x7 x8 x9 = some res → Wk B X 10 T 81 [(0, .ref (B.1 10 0)), (1, .int x1), (2, .int x2), (3, .int x3), (4, .int x4), (5, .int x5), (6, .int x6), (7, .int x7), (8, .int x8), (9, .int x9)] []) (T : TT) (x1 : Int32) (x2 : Int32) (x3 : Int32) (x4 : Int32) (x5 : Int32) (x6 : Int32) (x7 : Int32) (x9 : Int32) (s0 : Int32) (s1 : Int32) (h : m_X11_look_b141 rec30 rec61 rec81 T x1 x2 x3 x4 x5 x6 x7 x9 s0 s1 = some res) : Wk B X 10 T 141 [(0, .ref (B.1 10 0)), (1, .int x1), (2, .int x2), (3, .int x3), (4, .int x4), (5, .int x5), (6, .int x6), (7, .int x7), (9, .int x9)] [.int s1, .int s0] := by
  unfold m_X11_look_b141 at h
  refine k_iadd (pc := 141) C dX11_look_141 ?_
  refine k_nI h (fun y17 h => ?_)
  refine k_istore (pc := 142) C [(8, .int y17), (0, .ref (B.1 10 0)), (1, .int x1), (2, .int x2), (3, .int x3), (4, .int x4), (5, .int x5), (6, .int x6), (7, .int x7), (9, .int x9)] dX11_look_142 (by decide) rfl ?_
  refine k_iincN (pc := 144) (x := x9) (c := (1 : Int32)) C (fun y18 => [(9, .int y18), (8, .int y17), (0, .ref (B.1 10 0)), (1, .int x1), (2, .int x2), (3, .int x3), (4, .int x4), (5, .int x5), (6, .int x6), (7, .int x7)]) dX11_look_144 9 rfl ciconst_1 (by decide) (fun _ => rfl) h (fun y18 h => ?_)
  refine k_goto (pc := 147) C 81 dX11_look_147 (by decide) ?_
  refine k_sub [2, 3, 4, 5, 6, 7, 8, 9, 1, 0] rfl ?_
  exact hrec81 T x1 x2 x3 x4 x5 x6 x7 y17 y18 h
set_option maxHeartbeats 4000000 in
set_option maxRecDepth 100000 in
theorem k_X11_look_b140 {B : KB} {X : KE} {rec30 : TT → Int32 → Int32 → Int32 → Int32 → Int32 → Option (Int32 × TT)} {rec61 : TT → Int32 → Int32 → Int32 → Int32 → Int32 → Int32 → Int32 → Option (Int32 × TT)} {rec81 : TT → Int32 → Int32 → Int32 → Int32 → Int32 → Int32 → Int32 → Int32 → Int32 → Option (Int32 × TT)} {res : Int32 × TT} (C : Cx B X "GriefEngineModel" cX11_look 10 4) (E : Cr B X (some .int) (some (.int res.1)) res.2) (hrec30 : ∀ (T : TT) (x1 : Int32) (x2 : Int32) (x3 : Int32) (x4 : Int32) (x5 : Int32), rec30 T x1 x2 x3 x4 x5 = some res → Wk B X 10 T 30 [(0, .ref (B.1 10 0)), (1, .int x1), (2, .int x2), (3, .int x3), (4, .int x4), (5, .int x5)] []) (hrec61 : ∀ (T : TT) (x1 : Int32) (x2 : Int32) (x3 : Int32) (x4 : Int32) (x5 : Int32) (x6 : Int32) (x7 : Int32), rec61 T x1 x2 x3 x4 x5 x6 x7 = some res → Wk B X 10 T 61 [(0, .ref (B.1 10 0)), (1, .int x1), (2, .int x2), (3, .int x3), (4, .int x4), (5, .int x5), (6, .int x6), (7, .int x7)] []) (hrec81 : ∀ (T : TT) (x1 : Int32) (x2 : Int32) (x3 : Int32) (x4 : Int32) (x5 : Int32) (x6 : Int32) (x7 : Int32) (x8 : Int32) (x9 : Int32), rec81 T x1 x2 x3 x4 x5 x6 x7 x8 x9 = some res → Wk B X 10 T 81 [(0, .ref (B.1 10 0)), (1, .int x1), (2, .int x2), (3, .int x3), (4, .int x4), (5, .int x5), (6, .int x6), (7, .int x7), (8, .int x8), (9, .int x9)] []) (T : TT) (x1 : Int32) (x2 : Int32) (x3 : Int32) (x4 : Int32) (x5 : Int32) (x6 : Int32) (x7 : Int32) (x9 : Int32) (s0 : Int32) (h : m_X11_look_b140 rec30 rec61 rec81 T x1 x2 x3 x4 x5 x6 x7 x9 s0 = some res) : Wk B X 10 T 140 [(0, .ref (B.1 10 0)), (1, .int x1), (2, .int x2), (3, .int x3), (4, .int x4), (5, .int x5), (6, .int x6), (7, .int x7), (9, .int x9)] [.int s0] := by
  unfold m_X11_look_b140 at h
  refine k_iconst (pc := 140) (v := (0 : Int32)) C dX11_look_140 ciconst_0 ?_
  refine k_sub [0, 1, 2, 3, 4, 5, 6, 7, 8] rfl ?_
  exact k_X11_look_b141 C E hrec30 hrec61 hrec81 T x1 x2 x3 x4 x5 x6 x7 x9 s0 (0 : Int32) h
set_option maxHeartbeats 4000000 in
set_option maxRecDepth 100000 in
theorem k_X11_look_h81 {B : KB} {X : KE} {rec30 : TT → Int32 → Int32 → Int32 → Int32 → Int32 → Option (Int32 × TT)} {rec61 : TT → Int32 → Int32 → Int32 → Int32 → Int32 → Int32 → Int32 → Option (Int32 × TT)} {rec81 : TT → Int32 → Int32 → Int32 → Int32 → Int32 → Int32 → Int32 → Int32 → Int32 → Option (Int32 × TT)} {res : Int32 × TT} (C : Cx B X "GriefEngineModel" cX11_look 10 4) (E : Cr B X (some .int) (some (.int res.1)) res.2) (hrec30 : ∀ (T : TT) (x1 : Int32) (x2 : Int32) (x3 : Int32) (x4 : Int32) (x5 : Int32), rec30 T x1 x2 x3 x4 x5 = some res → Wk B X 10 T 30 [(0, .ref (B.1 10 0)), (1, .int x1), (2, .int x2), (3, .int x3), (4, .int x4), (5, .int x5)] []) (hrec61 : ∀ (T : TT) (x1 : Int32) (x2 : Int32) (x3 : Int32) (x4 : Int32) (x5 : Int32) (x6 : Int32) (x7 : Int32), rec61 T x1 x2 x3 x4 x5 x6 x7 = some res → Wk B X 10 T 61 [(0, .ref (B.1 10 0)), (1, .int x1), (2, .int x2), (3, .int x3), (4, .int x4), (5, .int x5), (6, .int x6), (7, .int x7)] []) (hrec81 : ∀ (T : TT) (x1 : Int32) (x2 : Int32) (x3 : Int32) (x4 : Int32) (x5 : Int32) (x6 : Int32) (x7 : Int32) (x8 : Int32) (x9 : Int32), rec81 T x1 x2 x3 x4 x5 x6 x7 x8 x9 = some res → Wk B X 10 T 81 [(0, .ref (B.1 10 0)), (1, .int x1), (2, .int x2), (3, .int x3), (4, .int x4), (5, .int x5), (6, .int x6), (7, .int x7), (8, .int x8), (9, .int x9)] []) (T : TT) (x1 : Int32) (x2 : Int32) (x3 : Int32) (x4 : Int32) (x5 : Int32) (x6 : Int32) (x7 : Int32) (x8 : Int32) (x9 : Int32) (h : m_X11_look_h81 rec30 rec61 rec81 T x1 x2 x3 x4 x5 x6 x7 x8 x9 = some res) : Wk B X 10 T 81 [(0, .ref (B.1 10 0)), (1, .int x1), (2, .int x2), (3, .int x3), (4, .int x4), (5, .int x5), (6, .int x6), (7, .int x7), (8, .int x8), (9, .int x9)] [] := by
  unfold m_X11_look_h81 at h
  refine k_iload (pc := 81) C dX11_look_81 9 rfl ?_
  refine k_bipush (pc := 83) (v := (6 : Int32)) C dX11_look_83 cbipush_6 ?_
  refine k_icmp_ge (pc := 85) C 150 dX11_look_85 (by decide) h (fun c16 h => ?_) (fun c16 h => ?_)
  · refine k_sub [0, 1, 2, 3, 4, 5, 6, 7, 8] rfl ?_
    exact k_X11_look_b150 C E hrec30 hrec61 T x1 x2 x3 x4 x5 x6 x7 x8 h
  · refine k_iload_n (pc := 88) C dX11_look_88 2 rfl ?_
    refine k_iload (pc := 89) C dX11_look_89 7 rfl ?_
    obtain ⟨z10, e10, h⟩ := bnd h
    refine k_callsI (pc := 91) C lk_X11_166 (by decide) (kc_X11_has e10) dX11_look_91 rfl rfl (Nat.le_of_ble_eq_true rfl) ?_
    refine k_if_eq (pc := 94) C 150 dX11_look_94 (by decide) h (fun c15 h => ?_) (fun c15 h => ?_)
    · refine k_sub [0, 1, 2, 3, 4, 5, 6, 7, 8] rfl ?_
      exact k_X11_look_b150 C E hrec30 hrec61 T x1 x2 x3 x4 x5 x6 x7 x8 h
    · refine k_iload (pc := 97) C dX11_look_97 8 rfl ?_
      refine k_iload_n (pc := 99) C dX11_look_99 2 rfl ?_
      refine k_iload (pc := 100) C dX11_look_100 9 rfl ?_
      obtain ⟨z11, e11, h⟩ := bnd h
      refine k_callsI (pc := 102) C lk_X11_166 (by decide) (kc_X11_has e11) dX11_look_102 rfl rfl (Nat.le_of_ble_eq_true rfl) ?_
      refine k_if_eq (pc := 105) C 140 dX11_look_105 (by decide) h (fun c14 h => ?_) (fun c14 h => ?_)
      · refine k_sub [0, 1, 2, 3, 4, 5, 6, 7, 9] rfl ?_
        exact k_X11_look_b140 C E hrec30 hrec61 hrec81 T x1 x2 x3 x4 x5 x6 x7 x9 x8 h
      · refine k_iload (pc := 108) C dX11_look_108 7 rfl ?_
        refine k_iload (pc := 110) C dX11_look_110 9 rfl ?_
        refine k_aload_n (pc := 112) C dX11_look_112 0 rfl ?_
        refine gf_X11_7 (pc := 113) C dX11_look_113 ?_
        refine k_iconst (pc := 116) (v := (4 : Int32)) C dX11_look_116 ciconst_4 ?_
        refine k_iload_n (pc := 117) C dX11_look_117 1 rfl ?_
        refine k_iadd (pc := 118) C dX11_look_118 ?_
        refine k_iald (pc := 119) C ia_10_1 dX11_look_119 h (fun h => ?_)
        refine k_iload (pc := 120) C dX11_look_120 5 rfl ?_
        refine k_bipush (pc := 122) (v := (10 : Int32)) C dX11_look_122 cbipush_10 ?_
        refine k_idivc (pc := 124) C dX11_look_124 (by decide) ?_
        refine k_iload (pc := 125) C dX11_look_125 5 rfl ?_
        refine k_bipush (pc := 127) (v := (10 : Int32)) C dX11_look_127 cbipush_10 ?_
        refine k_iremc (pc := 129) C dX11_look_129 (by decide) ?_
        obtain ⟨z12, e12, h⟩ := bnd h
        refine k_callsI (pc := 130) C lk_X11_170 (by decide) (kc_X11_areAlike e12) dX11_look_130 rfl rfl (Nat.le_of_ble_eq_true rfl) ?_
        refine k_if_eq (pc := 133) C 140 dX11_look_133 (by decide) h (fun c13 h => ?_) (fun c13 h => ?_)
        · refine k_sub [0, 1, 2, 3, 4, 5, 6, 7, 9] rfl ?_
          exact k_X11_look_b140 C E hrec30 hrec61 hrec81 T x1 x2 x3 x4 x5 x6 x7 x9 x8 h
        · refine k_iconst (pc := 136) (v := (1 : Int32)) C dX11_look_136 ciconst_1 ?_
          refine k_goto (pc := 137) C 141 dX11_look_137 (by decide) ?_
          refine k_sub [0, 1, 2, 3, 4, 5, 6, 7, 9] rfl ?_
          exact k_X11_look_b141 C E hrec30 hrec61 hrec81 T x1 x2 x3 x4 x5 x6 x7 x9 x8 (1 : Int32) h
set_option maxHeartbeats 4000000 in
set_option maxRecDepth 100000 in
theorem k_X11_look_l81 {B : KB} {X : KE} {rec30 : TT → Int32 → Int32 → Int32 → Int32 → Int32 → Option (Int32 × TT)} {rec61 : TT → Int32 → Int32 → Int32 → Int32 → Int32 → Int32 → Int32 → Option (Int32 × TT)} {res : Int32 × TT} (C : Cx B X "GriefEngineModel" cX11_look 10 4) (E : Cr B X (some .int) (some (.int res.1)) res.2) (hrec30 : ∀ (T : TT) (x1 : Int32) (x2 : Int32) (x3 : Int32) (x4 : Int32) (x5 : Int32), rec30 T x1 x2 x3 x4 x5 = some res → Wk B X 10 T 30 [(0, .ref (B.1 10 0)), (1, .int x1), (2, .int x2), (3, .int x3), (4, .int x4), (5, .int x5)] []) (hrec61 : ∀ (T : TT) (x1 : Int32) (x2 : Int32) (x3 : Int32) (x4 : Int32) (x5 : Int32) (x6 : Int32) (x7 : Int32), rec61 T x1 x2 x3 x4 x5 x6 x7 = some res → Wk B X 10 T 61 [(0, .ref (B.1 10 0)), (1, .int x1), (2, .int x2), (3, .int x3), (4, .int x4), (5, .int x5), (6, .int x6), (7, .int x7)] []) : ∀ (n : Nat) (T : TT) (x1 : Int32) (x2 : Int32) (x3 : Int32) (x4 : Int32) (x5 : Int32) (x6 : Int32) (x7 : Int32) (x8 : Int32) (x9 : Int32) (h : m_X11_look_l81 rec30 rec61 n T x1 x2 x3 x4 x5 x6 x7 x8 x9 = some res), Wk B X 10 T 81 [(0, .ref (B.1 10 0)), (1, .int x1), (2, .int x2), (3, .int x3), (4, .int x4), (5, .int x5), (6, .int x6), (7, .int x7), (8, .int x8), (9, .int x9)] [] := by
  intro n
  induction n with
  | zero =>
    intro T x1 x2 x3 x4 x5 x6 x7 x8 x9 h
    exact no_some h
  | succ n ih =>
    intro T x1 x2 x3 x4 x5 x6 x7 x8 x9 h
    exact k_X11_look_h81 C E hrec30 hrec61 (fun T x1 x2 x3 x4 x5 x6 x7 x8 x9 h => ih T x1 x2 x3 x4 x5 x6 x7 x8 x9 h) T x1 x2 x3 x4 x5 x6 x7 x8 x9 h
set_option maxHeartbeats 4000000 in
set_option maxRecDepth 100000 in
theorem k_X11_look_h61 {B : KB} {X : KE} {rec30 : TT → Int32 → Int32 → Int32 → Int32 → Int32 → Option (Int32 × TT)} {rec61 : TT → Int32 → Int32 → Int32 → Int32 → Int32 → Int32 → Int32 → Option (Int32 × TT)} {res : Int32 × TT} (C : Cx B X "GriefEngineModel" cX11_look 10 4) (E : Cr B X (some .int) (some (.int res.1)) res.2) (hrec30 : ∀ (T : TT) (x1 : Int32) (x2 : Int32) (x3 : Int32) (x4 : Int32) (x5 : Int32), rec30 T x1 x2 x3 x4 x5 = some res → Wk B X 10 T 30 [(0, .ref (B.1 10 0)), (1, .int x1), (2, .int x2), (3, .int x3), (4, .int x4), (5, .int x5)] []) (hrec61 : ∀ (T : TT) (x1 : Int32) (x2 : Int32) (x3 : Int32) (x4 : Int32) (x5 : Int32) (x6 : Int32) (x7 : Int32), rec61 T x1 x2 x3 x4 x5 x6 x7 = some res → Wk B X 10 T 61 [(0, .ref (B.1 10 0)), (1, .int x1), (2, .int x2), (3, .int x3), (4, .int x4), (5, .int x5), (6, .int x6), (7, .int x7)] []) (T : TT) (x1 : Int32) (x2 : Int32) (x3 : Int32) (x4 : Int32) (x5 : Int32) (x6 : Int32) (x7 : Int32) (h : m_X11_look_h61 rec30 rec61 T x1 x2 x3 x4 x5 x6 x7 = some res) : Wk B X 10 T 61 [(0, .ref (B.1 10 0)), (1, .int x1), (2, .int x2), (3, .int x3), (4, .int x4), (5, .int x5), (6, .int x6), (7, .int x7)] [] := by
  unfold m_X11_look_h61 at h
  refine k_iload (pc := 61) C dX11_look_61 7 rfl ?_
  refine k_bipush (pc := 63) (v := (6 : Int32)) C dX11_look_63 cbipush_6 ?_
  refine k_icmp_ge (pc := 65) C 172 dX11_look_65 (by decide) h (fun c9 h => ?_) (fun c9 h => ?_)
  · refine k_sub [0, 1, 2, 3, 4, 5, 6] rfl ?_
    exact k_X11_look_b172 C E hrec30 T x1 x2 x3 x4 x5 x6 h
  · refine k_iload (pc := 68) C dX11_look_68 6 rfl ?_
    refine k_ldc (pc := 70) (v := (1000000 : Int32)) C dX11_look_70 tw5_54 ?_
    refine k_icmp_ge (pc := 72) C 172 dX11_look_72 (by decide) h (fun c8 h => ?_) (fun c8 h => ?_)
    · refine k_sub [0, 1, 2, 3, 4, 5, 6] rfl ?_
      exact k_X11_look_b172 C E hrec30 T x1 x2 x3 x4 x5 x6 h
    · refine k_iconst (pc := 75) (v := (0 : Int32)) C dX11_look_75 ciconst_0 ?_
      refine k_istore (pc := 76) C [(8, .int (0 : Int32)), (0, .ref (B.1 10 0)), (1, .int x1), (2, .int x2), (3, .int x3), (4, .int x4), (5, .int x5), (6, .int x6), (7, .int x7)] dX11_look_76 (by decide) rfl ?_
      refine k_iconst (pc := 78) (v := (0 : Int32)) C dX11_look_78 ciconst_0 ?_
      refine k_istore (pc := 79) C [(9, .int (0 : Int32)), (8, .int (0 : Int32)), (0, .ref (B.1 10 0)), (1, .int x1), (2, .int x2), (3, .int x3), (4, .int x4), (5, .int x5), (6, .int x6), (7, .int x7)] dX11_look_79 (by decide) rfl ?_
      refine k_sub [2, 3, 4, 5, 6, 7, 8, 9, 1, 0] rfl ?_
      exact k_X11_look_l81 C E hrec30 hrec61 FU T x1 x2 x3 x4 x5 x6 x7 (0 : Int32) (0 : Int32) h
set_option maxHeartbeats 4000000 in
set_option maxRecDepth 100000 in
theorem k_X11_look_l61 {B : KB} {X : KE} {rec30 : TT → Int32 → Int32 → Int32 → Int32 → Int32 → Option (Int32 × TT)} {res : Int32 × TT} (C : Cx B X "GriefEngineModel" cX11_look 10 4) (E : Cr B X (some .int) (some (.int res.1)) res.2) (hrec30 : ∀ (T : TT) (x1 : Int32) (x2 : Int32) (x3 : Int32) (x4 : Int32) (x5 : Int32), rec30 T x1 x2 x3 x4 x5 = some res → Wk B X 10 T 30 [(0, .ref (B.1 10 0)), (1, .int x1), (2, .int x2), (3, .int x3), (4, .int x4), (5, .int x5)] []) : ∀ (n : Nat) (T : TT) (x1 : Int32) (x2 : Int32) (x3 : Int32) (x4 : Int32) (x5 : Int32) (x6 : Int32) (x7 : Int32) (h : m_X11_look_l61 rec30 n T x1 x2 x3 x4 x5 x6 x7 = some res), Wk B X 10 T 61 [(0, .ref (B.1 10 0)), (1, .int x1), (2, .int x2), (3, .int x3), (4, .int x4), (5, .int x5), (6, .int x6), (7, .int x7)] [] := by
  intro n
  induction n with
  | zero =>
    intro T x1 x2 x3 x4 x5 x6 x7 h
    exact no_some h
  | succ n ih =>
    intro T x1 x2 x3 x4 x5 x6 x7 h
    exact k_X11_look_h61 C E hrec30 (fun T x1 x2 x3 x4 x5 x6 x7 h => ih T x1 x2 x3 x4 x5 x6 x7 h) T x1 x2 x3 x4 x5 x6 x7 h
set_option maxHeartbeats 4000000 in
set_option maxRecDepth 100000 in
theorem k_X11_look_b56 {B : KB} {X : KE} {rec30 : TT → Int32 → Int32 → Int32 → Int32 → Int32 → Option (Int32 × TT)} {res : Int32 × TT} (C : Cx B X "GriefEngineModel" cX11_look 10 4) (E : Cr B X (some .int) (some (.int res.1)) res.2) (hrec30 : ∀ (T : TT) (x1 : Int32) (x2 : Int32) (x3 : Int32) (x4 : Int32) (x5 : Int32), rec30 T x1 x2 x3 x4 x5 = some res → Wk B X 10 T 30 [(0, .ref (B.1 10 0)), (1, .int x1), (2, .int x2), (3, .int x3), (4, .int x4), (5, .int x5)] []) (T : TT) (x1 : Int32) (x2 : Int32) (x3 : Int32) (x4 : Int32) (x5 : Int32) (s0 : Int32) (h : m_X11_look_b56 rec30 T x1 x2 x3 x4 x5 s0 = some res) : Wk B X 10 T 56 [(0, .ref (B.1 10 0)), (1, .int x1), (2, .int x2), (3, .int x3), (4, .int x4), (5, .int x5)] [.int s0] := by
  unfold m_X11_look_b56 at h
  refine k_istore (pc := 56) C [(6, .int s0), (0, .ref (B.1 10 0)), (1, .int x1), (2, .int x2), (3, .int x3), (4, .int x4), (5, .int x5)] dX11_look_56 (by decide) rfl ?_
  refine k_iconst (pc := 58) (v := (0 : Int32)) C dX11_look_58 ciconst_0 ?_
  refine k_istore (pc := 59) C [(7, .int (0 : Int32)), (6, .int s0), (0, .ref (B.1 10 0)), (1, .int x1), (2, .int x2), (3, .int x3), (4, .int x4), (5, .int x5)] dX11_look_59 (by decide) rfl ?_
  refine k_sub [2, 3, 4, 5, 6, 7, 1, 0] rfl ?_
  exact k_X11_look_l61 C E hrec30 FU T x1 x2 x3 x4 x5 s0 (0 : Int32) h
set_option maxHeartbeats 4000000 in
set_option maxRecDepth 100000 in
theorem k_X11_look_h30 {B : KB} {X : KE} {rec30 : TT → Int32 → Int32 → Int32 → Int32 → Int32 → Option (Int32 × TT)} {res : Int32 × TT} (C : Cx B X "GriefEngineModel" cX11_look 10 4) (E : Cr B X (some .int) (some (.int res.1)) res.2) (hrec30 : ∀ (T : TT) (x1 : Int32) (x2 : Int32) (x3 : Int32) (x4 : Int32) (x5 : Int32), rec30 T x1 x2 x3 x4 x5 = some res → Wk B X 10 T 30 [(0, .ref (B.1 10 0)), (1, .int x1), (2, .int x2), (3, .int x3), (4, .int x4), (5, .int x5)] []) (T : TT) (x1 : Int32) (x2 : Int32) (x3 : Int32) (x4 : Int32) (x5 : Int32) (h : m_X11_look_h30 rec30 T x1 x2 x3 x4 x5 = some res) : Wk B X 10 T 30 [(0, .ref (B.1 10 0)), (1, .int x1), (2, .int x2), (3, .int x3), (4, .int x4), (5, .int x5)] [] := by
  unfold m_X11_look_h30 at h
  refine k_iload (pc := 30) C dX11_look_30 5 rfl ?_
  refine k_bipush (pc := 32) (v := (33 : Int32)) C dX11_look_32 cbipush_33 ?_
  refine k_icmp_ge (pc := 34) C 208 dX11_look_34 (by decide) h (fun c7 h => ?_) (fun c7 h => ?_)
  · refine k_iload_n (pc := 208) C dX11_look_208 3 rfl ?_
    exact k_iret (pc := 209) C E (some_1 h) (some_2 h) dX11_look_209
  · refine k_iload_n (pc := 37) C dX11_look_37 2 rfl ?_
    refine k_if_le (pc := 38) C 208 dX11_look_38 (by decide) h (fun c6 h => ?_) (fun c6 h => ?_)
    · refine k_iload_n (pc := 208) C dX11_look_208 3 rfl ?_
      exact k_iret (pc := 209) C E (some_1 h) (some_2 h) dX11_look_209
    · refine k_iload (pc := 41) C dX11_look_41 5 rfl ?_
      refine k_bipush (pc := 43) (v := (10 : Int32)) C dX11_look_43 cbipush_10 ?_
      refine k_iremc (pc := 45) C dX11_look_45 (by decide) ?_
      refine k_iconst (pc := 46) (v := (3 : Int32)) C dX11_look_46 ciconst_3 ?_
      refine k_icmp_ge (pc := 47) C 54 dX11_look_47 (by decide) h (fun c5 h => ?_) (fun c5 h => ?_)
      · refine k_ldc (pc := 54) (v := (1000000 : Int32)) C dX11_look_54 tw5_54 ?_
        refine k_sub [0, 1, 2, 3, 4, 5] rfl ?_
        exact k_X11_look_b56 C E hrec30 T x1 x2 x3 x4 x5 (1000000 : Int32) h
      · refine k_iconst (pc := 50) (v := (0 : Int32)) C dX11_look_50 ciconst_0 ?_
        refine k_goto (pc := 51) C 56 dX11_look_51 (by decide) ?_
        refine k_sub [0, 1, 2, 3, 4, 5] rfl ?_
        exact k_X11_look_b56 C E hrec30 T x1 x2 x3 x4 x5 (0 : Int32) h
set_option maxHeartbeats 4000000 in
set_option maxRecDepth 100000 in
theorem k_X11_look_l30 {B : KB} {X : KE} {res : Int32 × TT} (C : Cx B X "GriefEngineModel" cX11_look 10 4) (E : Cr B X (some .int) (some (.int res.1)) res.2) : ∀ (n : Nat) (T : TT) (x1 : Int32) (x2 : Int32) (x3 : Int32) (x4 : Int32) (x5 : Int32) (h : m_X11_look_l30 n T x1 x2 x3 x4 x5 = some res), Wk B X 10 T 30 [(0, .ref (B.1 10 0)), (1, .int x1), (2, .int x2), (3, .int x3), (4, .int x4), (5, .int x5)] [] := by
  intro n
  induction n with
  | zero =>
    intro T x1 x2 x3 x4 x5 h
    exact no_some h
  | succ n ih =>
    intro T x1 x2 x3 x4 x5 h
    exact k_X11_look_h30 C E (fun T x1 x2 x3 x4 x5 h => ih T x1 x2 x3 x4 x5 h) T x1 x2 x3 x4 x5 h
set_option maxHeartbeats 4000000 in
set_option maxRecDepth 100000 in
theorem kc_X11_look {B : KB} {l : Launch} {T : TT} {x1 : Int32} {res : Int32 × TT} (h : m_X11_look T x1 = some res) : Kt B l 4 yX11_look cX11_look 10 (some .int) T [.ref (B.1 10 0), .int x1] (some (.int res.1)) res.2 := by
  refine Kt.of (by decide) (Nat.le_of_ble_eq_true rfl) (fun X hX C E => ?_)
  subst hX
  have C : Cx B X "GriefEngineModel" cX11_look 10 4 := C
  show Wk B X 10 T 0 [(0, .ref (B.1 10 0)), (1, .int x1)] []
  unfold m_X11_look at h
  refine k_aload_n (pc := 0) C dX11_look_0 0 rfl ?_
  refine k_iload_n (pc := 1) C dX11_look_1 1 rfl ?_
  obtain ⟨z1, e1, h⟩ := bnd h
  refine k_callvI (pc := 2) C lk_X11_116 (by decide) ix_X11 wo_X11 rfl rfl (kc_X11_isDriver e1) dX11_look_2 rfl rfl (Nat.le_of_ble_eq_true rfl) ?_
  refine k_if_ne (pc := 5) C 15 dX11_look_5 (by decide) h (fun c4 h => ?_) (fun c4 h => ?_)
  · refine k_aload_n (pc := 15) C dX11_look_15 0 rfl ?_
    refine k_iload_n (pc := 16) C dX11_look_16 1 rfl ?_
    obtain ⟨z2, e2, h⟩ := bnd h
    refine k_callvI (pc := 17) C lk_X11_162 (by decide) ix_X11 wo_X11 rfl rfl (kc_X11_kindsOf e2) dX11_look_17 rfl rfl (Nat.le_of_ble_eq_true rfl) ?_
    refine k_istore_n (pc := 20) C [(2, .int z2), (0, .ref (B.1 10 0)), (1, .int x1)] dX11_look_20 (by decide) rfl ?_
    refine k_iconst (pc := 21) (v := (-1 : Int32)) C dX11_look_21 ciconst_m1 ?_
    refine k_istore_n (pc := 22) C [(3, .int (-1 : Int32)), (2, .int z2), (0, .ref (B.1 10 0)), (1, .int x1)] dX11_look_22 (by decide) rfl ?_
    refine k_ldc (pc := 23) (v := (1000000 : Int32)) C dX11_look_23 tw5_54 ?_
    refine k_istore (pc := 25) C [(4, .int (1000000 : Int32)), (3, .int (-1 : Int32)), (2, .int z2), (0, .ref (B.1 10 0)), (1, .int x1)] dX11_look_25 (by decide) rfl ?_
    refine k_iconst (pc := 27) (v := (0 : Int32)) C dX11_look_27 ciconst_0 ?_
    refine k_istore (pc := 28) C [(5, .int (0 : Int32)), (4, .int (1000000 : Int32)), (3, .int (-1 : Int32)), (2, .int z2), (0, .ref (B.1 10 0)), (1, .int x1)] dX11_look_28 (by decide) rfl ?_
    refine k_sub [4, 5, 3, 2, 1, 0] rfl ?_
    exact k_X11_look_l30 C E FU T x1 z2 (-1 : Int32) (1000000 : Int32) (0 : Int32) h
  · refine k_aload_n (pc := 8) C dX11_look_8 0 rfl ?_
    refine k_bipush (pc := 9) (v := (-2 : Int32)) C dX11_look_9 cbipush_m2 ?_
    obtain ⟨z3, e3, h⟩ := bnd h
    refine k_callvI (pc := 11) C lk_X11_63 (by decide) ix_X11 wo_X11 rfl rfl (kc_X11_bad e3) dX11_look_11 rfl rfl (Nat.le_of_ble_eq_true rfl) ?_
    exact k_iret (pc := 14) C E (some_1 h) (some_2 h) dX11_look_14
def m_X11_fits_b106 (rec5 : TT → Int32 → Int32 → Int32 → Int32 → Option (Int32 × TT)) (T : TT) (x1 : Int32) (x2 : Int32) (x4 : Int32) (s0 : Int32) : Option (Int32 × TT) := bT (x4 + (1 : Int32)) (fun y12 => rec5 T x1 x2 s0 y12)
def m_X11_fits_b105 (rec5 : TT → Int32 → Int32 → Int32 → Int32 → Option (Int32 × TT)) (T : TT) (x1 : Int32) (x2 : Int32) (x4 : Int32) : Option (Int32 × TT) := m_X11_fits_b106 rec5 T x1 x2 x4 (0 : Int32)
def m_X11_fits_b101 (rec5 : TT → Int32 → Int32 → Int32 → Int32 → Option (Int32 × TT)) (T : TT) (x1 : Int32) (x2 : Int32) (x4 : Int32) : Option (Int32 × TT) := m_X11_fits_b106 rec5 T x1 x2 x4 (1 : Int32)
def m_X11_fits_h38 (rec5 : TT → Int32 → Int32 → Int32 → Int32 → Option (Int32 × TT)) (rec38 : TT → Int32 → Int32 → Int32 → Int32 → Int32 → Int32 → Option (Int32 × TT)) (T : TT) (x1 : Int32) (x2 : Int32) (x3 : Int32) (x4 : Int32) (x5 : Int32) (x6 : Int32) : Option (Int32 × TT) := if inb (x5 + (1 : Int32)) 175 then (if (T.1 10 1 (Int32.toNatClampNeg (x5 + (1 : Int32)))) ≤ x6 then (if x3 = 0 then (m_X11_fits_b105 rec5 T x1 x2 x4) else (if inb x5 175 then (if (T.1 10 1 (Int32.toNatClampNeg x5)) = x1 then (if inb (x5 + (2 : Int32)) 175 then (if (T.2.1 10 7) = (T.1 10 1 (Int32.toNatClampNeg (x5 + (2 : Int32)))) then (m_X11_fits_b101 rec5 T x1 x2 x4) else (m_X11_fits_b105 rec5 T x1 x2 x4)) else none) else (m_X11_fits_b101 rec5 T x1 x2 x4)) else none)) else ((m_X11_kindOf T x1).bind (fun z8 => (m_X11_goDay T z8 x6 (0 : Int32)).bind (fun z9 => bT (x6 + (1 : Int32)) (fun y10 => rec38 z9 x1 x2 x3 x4 x5 y10))))) else none
def m_X11_fits_l38 (rec5 : TT → Int32 → Int32 → Int32 → Int32 → Option (Int32 × TT)) : Nat → TT → Int32 → Int32 → Int32 → Int32 → Int32 → Int32 → Option (Int32 × TT)
  | 0 => fun _ _ _ _ _ _ _ => none
  | n + 1 => fun T x1 x2 x3 x4 x5 x6 => m_X11_fits_h38 rec5 (m_X11_fits_l38 rec5 n) T x1 x2 x3 x4 x5 x6
def m_X11_fits_h5 (rec5 : TT → Int32 → Int32 → Int32 → Int32 → Option (Int32 × TT)) (T : TT) (x1 : Int32) (x2 : Int32) (x3 : Int32) (x4 : Int32) : Option (Int32 × TT) := if (T.1 10 1 2) ≤ x4 then (if x3 = 0 ∨ x3 = 1 then some (x3, T) else none) else (bT ((59 : Int32) + ((3 : Int32) * x4)) (fun y1 => bT (sI T 10 6 x2) (fun T2 => bT (sI T2 10 7 (0 : Int32)) (fun T3 => m_X11_fits_l38 rec5 FU T3 x1 x2 x3 x4 y1 (0 : Int32)))))
def m_X11_fits_l5 : Nat → TT → Int32 → Int32 → Int32 → Int32 → Option (Int32 × TT)
  | 0 => fun _ _ _ _ _ => none
  | n + 1 => fun T x1 x2 x3 x4 => m_X11_fits_h5 (m_X11_fits_l5 n) T x1 x2 x3 x4
def m_X11_fits (T : TT) (x1 : Int32) (x2 : Int32) : Option (Int32 × TT) := m_X11_fits_l5 FU T x1 x2 (1 : Int32) (0 : Int32)
set_option maxHeartbeats 4000000 in
set_option maxRecDepth 100000 in
theorem k_X11_fits_b106 {B : KB} {X : KE} {rec5 : TT → Int32 → Int32 → Int32 → Int32 → Option (Int32 × TT)} {res : Int32 × TT} (C : Cx B X "GriefEngineModel" cX11_fits 7 4) (E : Cr B X (some .boolean) (some (.int res.1)) res.2) (hrec5 : ∀ (T : TT) (x1 : Int32) (x2 : Int32) (x3 : Int32) (x4 : Int32), rec5 T x1 x2 x3 x4 = some res → Wk B X 7 T 5 [(0, .ref (B.1 10 0)), (1, .int x1), (2, .int x2), (3, .int x3), (4, .int x4)] []) (T : TT) (x1 : Int32) (x2 : Int32) (x4 : Int32) (s0 : Int32) (h : m_X11_fits_b106 rec5 T x1 x2 x4 s0 = some res) : Wk B X 7 T 106 [(0, .ref (B.1 10 0)), (1, .int x1), (2, .int x2), (4, .int x4)] [.int s0] := by
  unfold m_X11_fits_b106 at h
  refine k_istore_n (pc := 106) C [(3, .int s0), (0, .ref (B.1 10 0)), (1, .int x1), (2, .int x2), (4, .int x4)] dX11_fits_106 (by decide) rfl ?_
  refine k_iincN (pc := 107) (x := x4) (c := (1 : Int32)) C (fun y12 => [(4, .int y12), (3, .int s0), (0, .ref (B.1 10 0)), (1, .int x1), (2, .int x2)]) dX11_fits_107 4 rfl ciconst_1 (by decide) (fun _ => rfl) h (fun y12 h => ?_)
  refine k_goto (pc := 110) C 5 dX11_fits_110 (by decide) ?_
  refine k_sub [2, 3, 4, 1, 0] rfl ?_
  exact hrec5 T x1 x2 s0 y12 h
set_option maxHeartbeats 4000000 in
set_option maxRecDepth 100000 in
theorem k_X11_fits_b105 {B : KB} {X : KE} {rec5 : TT → Int32 → Int32 → Int32 → Int32 → Option (Int32 × TT)} {res : Int32 × TT} (C : Cx B X "GriefEngineModel" cX11_fits 7 4) (E : Cr B X (some .boolean) (some (.int res.1)) res.2) (hrec5 : ∀ (T : TT) (x1 : Int32) (x2 : Int32) (x3 : Int32) (x4 : Int32), rec5 T x1 x2 x3 x4 = some res → Wk B X 7 T 5 [(0, .ref (B.1 10 0)), (1, .int x1), (2, .int x2), (3, .int x3), (4, .int x4)] []) (T : TT) (x1 : Int32) (x2 : Int32) (x4 : Int32) (h : m_X11_fits_b105 rec5 T x1 x2 x4 = some res) : Wk B X 7 T 105 [(0, .ref (B.1 10 0)), (1, .int x1), (2, .int x2), (4, .int x4)] [] := by
  unfold m_X11_fits_b105 at h
  refine k_iconst (pc := 105) (v := (0 : Int32)) C dX11_fits_105 ciconst_0 ?_
  refine k_sub [0, 1, 2, 3] rfl ?_
  exact k_X11_fits_b106 C E hrec5 T x1 x2 x4 (0 : Int32) h
set_option maxHeartbeats 4000000 in
set_option maxRecDepth 100000 in
theorem k_X11_fits_b101 {B : KB} {X : KE} {rec5 : TT → Int32 → Int32 → Int32 → Int32 → Option (Int32 × TT)} {res : Int32 × TT} (C : Cx B X "GriefEngineModel" cX11_fits 7 4) (E : Cr B X (some .boolean) (some (.int res.1)) res.2) (hrec5 : ∀ (T : TT) (x1 : Int32) (x2 : Int32) (x3 : Int32) (x4 : Int32), rec5 T x1 x2 x3 x4 = some res → Wk B X 7 T 5 [(0, .ref (B.1 10 0)), (1, .int x1), (2, .int x2), (3, .int x3), (4, .int x4)] []) (T : TT) (x1 : Int32) (x2 : Int32) (x4 : Int32) (h : m_X11_fits_b101 rec5 T x1 x2 x4 = some res) : Wk B X 7 T 101 [(0, .ref (B.1 10 0)), (1, .int x1), (2, .int x2), (4, .int x4)] [] := by
  unfold m_X11_fits_b101 at h
  refine k_iconst (pc := 101) (v := (1 : Int32)) C dX11_fits_101 ciconst_1 ?_
  refine k_goto (pc := 102) C 106 dX11_fits_102 (by decide) ?_
  refine k_sub [0, 1, 2, 3] rfl ?_
  exact k_X11_fits_b106 C E hrec5 T x1 x2 x4 (1 : Int32) h
set_option maxHeartbeats 4000000 in
set_option maxRecDepth 100000 in
theorem k_X11_fits_h38 {B : KB} {X : KE} {rec5 : TT → Int32 → Int32 → Int32 → Int32 → Option (Int32 × TT)} {rec38 : TT → Int32 → Int32 → Int32 → Int32 → Int32 → Int32 → Option (Int32 × TT)} {res : Int32 × TT} (C : Cx B X "GriefEngineModel" cX11_fits 7 4) (E : Cr B X (some .boolean) (some (.int res.1)) res.2) (hrec5 : ∀ (T : TT) (x1 : Int32) (x2 : Int32) (x3 : Int32) (x4 : Int32), rec5 T x1 x2 x3 x4 = some res → Wk B X 7 T 5 [(0, .ref (B.1 10 0)), (1, .int x1), (2, .int x2), (3, .int x3), (4, .int x4)] []) (hrec38 : ∀ (T : TT) (x1 : Int32) (x2 : Int32) (x3 : Int32) (x4 : Int32) (x5 : Int32) (x6 : Int32), rec38 T x1 x2 x3 x4 x5 x6 = some res → Wk B X 7 T 38 [(0, .ref (B.1 10 0)), (1, .int x1), (2, .int x2), (3, .int x3), (4, .int x4), (5, .int x5), (6, .int x6)] []) (T : TT) (x1 : Int32) (x2 : Int32) (x3 : Int32) (x4 : Int32) (x5 : Int32) (x6 : Int32) (h : m_X11_fits_h38 rec5 rec38 T x1 x2 x3 x4 x5 x6 = some res) : Wk B X 7 T 38 [(0, .ref (B.1 10 0)), (1, .int x1), (2, .int x2), (3, .int x3), (4, .int x4), (5, .int x5), (6, .int x6)] [] := by
  unfold m_X11_fits_h38 at h
  refine k_iload (pc := 38) C dX11_fits_38 6 rfl ?_
  refine k_aload_n (pc := 40) C dX11_fits_40 0 rfl ?_
  refine gf_X11_7 (pc := 41) C dX11_fits_41 ?_
  refine k_iload (pc := 44) C dX11_fits_44 5 rfl ?_
  refine k_iconst (pc := 46) (v := (1 : Int32)) C dX11_fits_46 ciconst_1 ?_
  refine k_iadd (pc := 47) C dX11_fits_47 ?_
  refine k_iald (pc := 48) C ia_10_1 dX11_fits_48 h (fun h => ?_)
  refine k_icmp_ge (pc := 49) C 70 dX11_fits_49 (by decide) h (fun c11 h => ?_) (fun c11 h => ?_)
  · refine k_iload_n (pc := 70) C dX11_fits_70 3 rfl ?_
    refine k_if_eq (pc := 71) C 105 dX11_fits_71 (by decide) h (fun c7 h => ?_) (fun c7 h => ?_)
    · refine k_sub [0, 1, 2, 4] rfl ?_
      exact k_X11_fits_b105 C E hrec5 T x1 x2 x4 h
    · refine k_aload_n (pc := 74) C dX11_fits_74 0 rfl ?_
      refine gf_X11_7 (pc := 75) C dX11_fits_75 ?_
      refine k_iload (pc := 78) C dX11_fits_78 5 rfl ?_
      refine k_iald (pc := 80) C ia_10_1 dX11_fits_80 h (fun h => ?_)
      refine k_iload_n (pc := 81) C dX11_fits_81 1 rfl ?_
      refine k_icmp_ne (pc := 82) C 101 dX11_fits_82 (by decide) h (fun c6 h => ?_) (fun c6 h => ?_)
      · refine k_sub [0, 1, 2, 4] rfl ?_
        exact k_X11_fits_b101 C E hrec5 T x1 x2 x4 h
      · refine k_aload_n (pc := 85) C dX11_fits_85 0 rfl ?_
        refine gf_X11_84 (pc := 86) C dX11_fits_86 ?_
        refine k_aload_n (pc := 89) C dX11_fits_89 0 rfl ?_
        refine gf_X11_7 (pc := 90) C dX11_fits_90 ?_
        refine k_iload (pc := 93) C dX11_fits_93 5 rfl ?_
        refine k_iconst (pc := 95) (v := (2 : Int32)) C dX11_fits_95 ciconst_2 ?_
        refine k_iadd (pc := 96) C dX11_fits_96 ?_
        refine k_iald (pc := 97) C ia_10_1 dX11_fits_97 h (fun h => ?_)
        refine k_icmp_ne (pc := 98) C 105 dX11_fits_98 (by decide) h (fun c5 h => ?_) (fun c5 h => ?_)
        · refine k_sub [0, 1, 2, 4] rfl ?_
          exact k_X11_fits_b105 C E hrec5 T x1 x2 x4 h
        · refine k_sub [0, 1, 2, 4] rfl ?_
          exact k_X11_fits_b101 C E hrec5 T x1 x2 x4 h
  · refine k_aload_n (pc := 52) C dX11_fits_52 0 rfl ?_
    refine k_aload_n (pc := 53) C dX11_fits_53 0 rfl ?_
    refine k_iload_n (pc := 54) C dX11_fits_54 1 rfl ?_
    obtain ⟨z8, e8, h⟩ := bnd h
    refine k_callvI (pc := 55) C lk_X11_124 (by decide) ix_X11 wo_X11 rfl rfl (kc_X11_kindOf e8) dX11_fits_55 rfl rfl (Nat.le_of_ble_eq_true rfl) ?_
    refine k_iload (pc := 58) C dX11_fits_58 6 rfl ?_
    refine k_iconst (pc := 60) (v := (0 : Int32)) C dX11_fits_60 ciconst_0 ?_
    obtain ⟨z9, e9, h⟩ := bnd h
    refine k_callvV (pc := 61) C lk_X11_101 (by decide) ix_X11 wo_X11 rfl rfl (kc_X11_goDay e9) dX11_fits_61 rfl rfl (Nat.le_of_ble_eq_true rfl) ?_
    refine k_iincN (pc := 64) (x := x6) (c := (1 : Int32)) C (fun y10 => [(6, .int y10), (0, .ref (B.1 10 0)), (1, .int x1), (2, .int x2), (3, .int x3), (4, .int x4), (5, .int x5)]) dX11_fits_64 6 rfl ciconst_1 (by decide) (fun _ => rfl) h (fun y10 h => ?_)
    refine k_goto (pc := 67) C 38 dX11_fits_67 (by decide) ?_
    refine k_sub [1, 2, 3, 4, 5, 6, 0] rfl ?_
    exact hrec38 z9 x1 x2 x3 x4 x5 y10 h
set_option maxHeartbeats 4000000 in
set_option maxRecDepth 100000 in
theorem k_X11_fits_l38 {B : KB} {X : KE} {rec5 : TT → Int32 → Int32 → Int32 → Int32 → Option (Int32 × TT)} {res : Int32 × TT} (C : Cx B X "GriefEngineModel" cX11_fits 7 4) (E : Cr B X (some .boolean) (some (.int res.1)) res.2) (hrec5 : ∀ (T : TT) (x1 : Int32) (x2 : Int32) (x3 : Int32) (x4 : Int32), rec5 T x1 x2 x3 x4 = some res → Wk B X 7 T 5 [(0, .ref (B.1 10 0)), (1, .int x1), (2, .int x2), (3, .int x3), (4, .int x4)] []) : ∀ (n : Nat) (T : TT) (x1 : Int32) (x2 : Int32) (x3 : Int32) (x4 : Int32) (x5 : Int32) (x6 : Int32) (h : m_X11_fits_l38 rec5 n T x1 x2 x3 x4 x5 x6 = some res), Wk B X 7 T 38 [(0, .ref (B.1 10 0)), (1, .int x1), (2, .int x2), (3, .int x3), (4, .int x4), (5, .int x5), (6, .int x6)] [] := by
  intro n
  induction n with
  | zero =>
    intro T x1 x2 x3 x4 x5 x6 h
    exact no_some h
  | succ n ih =>
    intro T x1 x2 x3 x4 x5 x6 h
    exact k_X11_fits_h38 C E hrec5 (fun T x1 x2 x3 x4 x5 x6 h => ih T x1 x2 x3 x4 x5 x6 h) T x1 x2 x3 x4 x5 x6 h
set_option maxHeartbeats 4000000 in
set_option maxRecDepth 100000 in
theorem k_X11_fits_h5 {B : KB} {X : KE} {rec5 : TT → Int32 → Int32 → Int32 → Int32 → Option (Int32 × TT)} {res : Int32 × TT} (C : Cx B X "GriefEngineModel" cX11_fits 7 4) (E : Cr B X (some .boolean) (some (.int res.1)) res.2) (hrec5 : ∀ (T : TT) (x1 : Int32) (x2 : Int32) (x3 : Int32) (x4 : Int32), rec5 T x1 x2 x3 x4 = some res → Wk B X 7 T 5 [(0, .ref (B.1 10 0)), (1, .int x1), (2, .int x2), (3, .int x3), (4, .int x4)] []) (T : TT) (x1 : Int32) (x2 : Int32) (x3 : Int32) (x4 : Int32) (h : m_X11_fits_h5 rec5 T x1 x2 x3 x4 = some res) : Wk B X 7 T 5 [(0, .ref (B.1 10 0)), (1, .int x1), (2, .int x2), (3, .int x3), (4, .int x4)] [] := by
  unfold m_X11_fits_h5 at h
  refine k_iload (pc := 5) C dX11_fits_5 4 rfl ?_
  refine k_aload_n (pc := 7) C dX11_fits_7 0 rfl ?_
  refine gf_X11_7 (pc := 8) C dX11_fits_8 ?_
  refine k_iconst (pc := 11) (v := (2 : Int32)) C dX11_fits_11 ciconst_2 ?_
  refine k_ialdc (pc := 12) C ia_10_1 2 dX11_fits_12 (by decide) (by decide) ?_
  refine k_icmp_ge (pc := 13) C 113 dX11_fits_13 (by decide) h (fun c4 h => ?_) (fun c4 h => ?_)
  · refine k_iload_n (pc := 113) C dX11_fits_113 3 rfl ?_
    by_cases cz : x3 = 0 ∨ x3 = 1
    · rw [if_pos cz] at h
      exact k_zret (pc := 114) C E (bool01 cz) (some_1 h) (some_2 h) dX11_fits_114
    · rw [if_neg cz] at h
      exact no_some h
  · refine k_bipush (pc := 16) (v := (59 : Int32)) C dX11_fits_16 cbipush_59 ?_
    refine k_iconst (pc := 18) (v := (3 : Int32)) C dX11_fits_18 ciconst_3 ?_
    refine k_iload (pc := 19) C dX11_fits_19 4 rfl ?_
    refine k_imul (pc := 21) C dX11_fits_21 ?_
    refine k_iadd (pc := 22) C dX11_fits_22 ?_
    refine k_nI h (fun y1 h => ?_)
    refine k_istore (pc := 23) C [(5, .int y1), (0, .ref (B.1 10 0)), (1, .int x1), (2, .int x2), (3, .int x3), (4, .int x4)] dX11_fits_23 (by decide) rfl ?_
    refine k_aload_n (pc := 25) C dX11_fits_25 1 rfl ?_
    refine k_iload_n (pc := 26) C dX11_fits_26 3 rfl ?_
    refine pf_X11_88 (pc := 27) C dX11_fits_27 ?_
    refine k_nT h (fun T2 h => ?_)
    refine k_aload_n (pc := 30) C dX11_fits_30 1 rfl ?_
    refine k_iconst (pc := 31) (v := (0 : Int32)) C dX11_fits_31 ciconst_0 ?_
    refine pf_X11_84 (pc := 32) C dX11_fits_32 ?_
    refine k_nT h (fun T3 h => ?_)
    refine k_iconst (pc := 35) (v := (0 : Int32)) C dX11_fits_35 ciconst_0 ?_
    refine k_istore (pc := 36) C [(6, .int (0 : Int32)), (5, .int y1), (0, .ref (B.1 10 0)), (1, .int x1), (2, .int x2), (3, .int x3), (4, .int x4)] dX11_fits_36 (by decide) rfl ?_
    refine k_sub [2, 3, 4, 5, 6, 1, 0] rfl ?_
    exact k_X11_fits_l38 C E hrec5 FU T3 x1 x2 x3 x4 y1 (0 : Int32) h
set_option maxHeartbeats 4000000 in
set_option maxRecDepth 100000 in
theorem k_X11_fits_l5 {B : KB} {X : KE} {res : Int32 × TT} (C : Cx B X "GriefEngineModel" cX11_fits 7 4) (E : Cr B X (some .boolean) (some (.int res.1)) res.2) : ∀ (n : Nat) (T : TT) (x1 : Int32) (x2 : Int32) (x3 : Int32) (x4 : Int32) (h : m_X11_fits_l5 n T x1 x2 x3 x4 = some res), Wk B X 7 T 5 [(0, .ref (B.1 10 0)), (1, .int x1), (2, .int x2), (3, .int x3), (4, .int x4)] [] := by
  intro n
  induction n with
  | zero =>
    intro T x1 x2 x3 x4 h
    exact no_some h
  | succ n ih =>
    intro T x1 x2 x3 x4 h
    exact k_X11_fits_h5 C E (fun T x1 x2 x3 x4 h => ih T x1 x2 x3 x4 h) T x1 x2 x3 x4 h
set_option maxHeartbeats 4000000 in
set_option maxRecDepth 100000 in
theorem kc_X11_fits {B : KB} {l : Launch} {T : TT} {x1 : Int32} {x2 : Int32} {res : Int32 × TT} (h : m_X11_fits T x1 x2 = some res) : Kt B l 4 yX11_fits cX11_fits 7 (some .boolean) T [.ref (B.1 10 0), .int x1, .int x2] (some (.int res.1)) res.2 := by
  refine Kt.of (by decide) (Nat.le_of_ble_eq_true rfl) (fun X hX C E => ?_)
  subst hX
  have C : Cx B X "GriefEngineModel" cX11_fits 7 4 := C
  show Wk B X 7 T 0 [(0, .ref (B.1 10 0)), (1, .int x1), (2, .int x2)] []
  unfold m_X11_fits at h
  refine k_iconst (pc := 0) (v := (1 : Int32)) C dX11_fits_0 ciconst_1 ?_
  refine k_istore_n (pc := 1) C [(3, .int (1 : Int32)), (0, .ref (B.1 10 0)), (1, .int x1), (2, .int x2)] dX11_fits_1 (by decide) rfl ?_
  refine k_iconst (pc := 2) (v := (0 : Int32)) C dX11_fits_2 ciconst_0 ?_
  refine k_istore (pc := 3) C [(4, .int (0 : Int32)), (3, .int (1 : Int32)), (0, .ref (B.1 10 0)), (1, .int x1), (2, .int x2)] dX11_fits_3 (by decide) rfl ?_
  refine k_sub [2, 3, 4, 1, 0] rfl ?_
  exact k_X11_fits_l5 C E FU T x1 x2 (1 : Int32) (0 : Int32) h
def m_X11_had_b66 (rec33 : TT → Int32 → Int32 → Int32 → Int32 → Int32 → Option (Int32 × TT)) (T : TT) (x1 : Int32) (x2 : Int32) (x3 : Int32) (x4 : Int32) (x5 : Int32) : Option (Int32 × TT) := bT (x5 + (1 : Int32)) (fun y11 => rec33 T x1 x2 x3 x4 y11)
def m_X11_had_b61 (rec33 : TT → Int32 → Int32 → Int32 → Int32 → Int32 → Option (Int32 × TT)) (T : TT) (x1 : Int32) (x2 : Int32) (x3 : Int32) (x5 : Int32) (s0 : Int32) : Option (Int32 × TT) := bT (x3 + (1 : Int32)) (fun y10 => m_X11_had_b66 rec33 T x1 x2 y10 s0 x5)
def m_X11_had_h33 (rec33 : TT → Int32 → Int32 → Int32 → Int32 → Int32 → Option (Int32 × TT)) (T : TT) (x1 : Int32) (x2 : Int32) (x3 : Int32) (x4 : Int32) (x5 : Int32) : Option (Int32 × TT) := if (99 : Int32) < x5 then (if x2 = 0 then (some (x3, T)) else (some (x4, T))) else ((m_X11_fits T x1 x5).bind (fun z6 => if z6.1 = 0 then (m_X11_had_b66 rec33 z6.2 x1 x2 x3 x4 x5) else (if x3 = 0 then (m_X11_had_b61 rec33 z6.2 x1 x2 x3 x5 x5) else (m_X11_had_b61 rec33 z6.2 x1 x2 x3 x5 x4))))
def m_X11_had_l33 : Nat → TT → Int32 → Int32 → Int32 → Int32 → Int32 → Option (Int32 × TT)
  | 0 => fun _ _ _ _ _ _ => none
  | n + 1 => fun T x1 x2 x3 x4 x5 => m_X11_had_h33 (m_X11_had_l33 n) T x1 x2 x3 x4 x5
def m_X11_had_b18 (T : TT) : Option (Int32 × TT) := (m_X11_bad T (-2 : Int32)).bind (fun z12 => some (z12.1, z12.2))
def m_X11_had (T : TT) (x1 : Int32) (x2 : Int32) : Option (Int32 × TT) := (m_X11_isDriver T x1).bind (fun z1 => if z1 = 0 then (m_X11_had_b18 T) else ((m_X11_in (x2.toInt64) (0 : Int64) (1 : Int64)).bind (fun z2 => if z2 = 0 then (m_X11_had_b18 T) else (m_X11_had_l33 FU T x1 x2 (0 : Int32) (-1 : Int32) (0 : Int32)))))
set_option maxHeartbeats 4000000 in
set_option maxRecDepth 100000 in
theorem k_X11_had_b66 {B : KB} {X : KE} {rec33 : TT → Int32 → Int32 → Int32 → Int32 → Int32 → Option (Int32 × TT)} {res : Int32 × TT} (C : Cx B X "GriefEngineModel" cX11_had 6 5) (E : Cr B X (some .int) (some (.int res.1)) res.2) (hrec33 : ∀ (T : TT) (x1 : Int32) (x2 : Int32) (x3 : Int32) (x4 : Int32) (x5 : Int32), rec33 T x1 x2 x3 x4 x5 = some res → Wk B X 6 T 33 [(0, .ref (B.1 10 0)), (1, .int x1), (2, .int x2), (3, .int x3), (4, .int x4), (5, .int x5)] []) (T : TT) (x1 : Int32) (x2 : Int32) (x3 : Int32) (x4 : Int32) (x5 : Int32) (h : m_X11_had_b66 rec33 T x1 x2 x3 x4 x5 = some res) : Wk B X 6 T 66 [(0, .ref (B.1 10 0)), (1, .int x1), (2, .int x2), (3, .int x3), (4, .int x4), (5, .int x5)] [] := by
  unfold m_X11_had_b66 at h
  refine k_iincN (pc := 66) (x := x5) (c := (1 : Int32)) C (fun y11 => [(5, .int y11), (0, .ref (B.1 10 0)), (1, .int x1), (2, .int x2), (3, .int x3), (4, .int x4)]) dX11_had_66 5 rfl ciconst_1 (by decide) (fun _ => rfl) h (fun y11 h => ?_)
  refine k_goto (pc := 69) C 33 dX11_had_69 (by decide) ?_
  refine k_sub [1, 2, 3, 4, 5, 0] rfl ?_
  exact hrec33 T x1 x2 x3 x4 y11 h
set_option maxHeartbeats 4000000 in
set_option maxRecDepth 100000 in
theorem k_X11_had_b61 {B : KB} {X : KE} {rec33 : TT → Int32 → Int32 → Int32 → Int32 → Int32 → Option (Int32 × TT)} {res : Int32 × TT} (C : Cx B X "GriefEngineModel" cX11_had 6 5) (E : Cr B X (some .int) (some (.int res.1)) res.2) (hrec33 : ∀ (T : TT) (x1 : Int32) (x2 : Int32) (x3 : Int32) (x4 : Int32) (x5 : Int32), rec33 T x1 x2 x3 x4 x5 = some res → Wk B X 6 T 33 [(0, .ref (B.1 10 0)), (1, .int x1), (2, .int x2), (3, .int x3), (4, .int x4), (5, .int x5)] []) (T : TT) (x1 : Int32) (x2 : Int32) (x3 : Int32) (x5 : Int32) (s0 : Int32) (h : m_X11_had_b61 rec33 T x1 x2 x3 x5 s0 = some res) : Wk B X 6 T 61 [(0, .ref (B.1 10 0)), (1, .int x1), (2, .int x2), (3, .int x3), (5, .int x5)] [.int s0] := by
  unfold m_X11_had_b61 at h
  refine k_istore (pc := 61) C [(4, .int s0), (0, .ref (B.1 10 0)), (1, .int x1), (2, .int x2), (3, .int x3), (5, .int x5)] dX11_had_61 (by decide) rfl ?_
  refine k_iincN (pc := 63) (x := x3) (c := (1 : Int32)) C (fun y10 => [(3, .int y10), (4, .int s0), (0, .ref (B.1 10 0)), (1, .int x1), (2, .int x2), (5, .int x5)]) dX11_had_63 4 rfl ciconst_1 (by decide) (fun _ => rfl) h (fun y10 h => ?_)
  refine k_sub [2, 3, 4, 0, 1, 5] rfl ?_
  exact k_X11_had_b66 C E hrec33 T x1 x2 y10 s0 x5 h
set_option maxHeartbeats 4000000 in
set_option maxRecDepth 100000 in
theorem k_X11_had_h33 {B : KB} {X : KE} {rec33 : TT → Int32 → Int32 → Int32 → Int32 → Int32 → Option (Int32 × TT)} {res : Int32 × TT} (C : Cx B X "GriefEngineModel" cX11_had 6 5) (E : Cr B X (some .int) (some (.int res.1)) res.2) (hrec33 : ∀ (T : TT) (x1 : Int32) (x2 : Int32) (x3 : Int32) (x4 : Int32) (x5 : Int32), rec33 T x1 x2 x3 x4 x5 = some res → Wk B X 6 T 33 [(0, .ref (B.1 10 0)), (1, .int x1), (2, .int x2), (3, .int x3), (4, .int x4), (5, .int x5)] []) (T : TT) (x1 : Int32) (x2 : Int32) (x3 : Int32) (x4 : Int32) (x5 : Int32) (h : m_X11_had_h33 rec33 T x1 x2 x3 x4 x5 = some res) : Wk B X 6 T 33 [(0, .ref (B.1 10 0)), (1, .int x1), (2, .int x2), (3, .int x3), (4, .int x4), (5, .int x5)] [] := by
  unfold m_X11_had_h33 at h
  refine k_iload (pc := 33) C dX11_had_33 5 rfl ?_
  refine k_bipush (pc := 35) (v := (99 : Int32)) C dX11_had_35 cbipush_99 ?_
  refine k_icmp_gt (pc := 37) C 72 dX11_had_37 (by decide) h (fun c9 h => ?_) (fun c9 h => ?_)
  · refine k_iload_n (pc := 72) C dX11_had_72 2 rfl ?_
    refine k_if_ne (pc := 73) C 80 dX11_had_73 (by decide) h (fun c5 h => ?_) (fun c5 h => ?_)
    · refine k_iload (pc := 80) C dX11_had_80 4 rfl ?_
      exact k_iret (pc := 82) C E (some_1 h) (some_2 h) dX11_had_82
    · refine k_iload_n (pc := 76) C dX11_had_76 3 rfl ?_
      refine k_goto (pc := 77) C 82 dX11_had_77 (by decide) ?_
      exact k_iret (pc := 82) C E (some_1 h) (some_2 h) dX11_had_82
  · refine k_aload_n (pc := 40) C dX11_had_40 0 rfl ?_
    refine k_iload_n (pc := 41) C dX11_had_41 1 rfl ?_
    refine k_iload (pc := 42) C dX11_had_42 5 rfl ?_
    obtain ⟨z6, e6, h⟩ := bnd h
    refine k_callvI (pc := 44) C lk_X11_174 (by decide) ix_X11 wo_X11 rfl rfl (kc_X11_fits e6) dX11_had_44 rfl rfl (Nat.le_of_ble_eq_true rfl) ?_
    refine k_if_eq (pc := 47) C 66 dX11_had_47 (by decide) h (fun c8 h => ?_) (fun c8 h => ?_)
    · refine k_sub [0, 1, 2, 3, 4, 5] rfl ?_
      exact k_X11_had_b66 C E hrec33 z6.2 x1 x2 x3 x4 x5 h
    · refine k_iload_n (pc := 50) C dX11_had_50 3 rfl ?_
      refine k_if_ne (pc := 51) C 59 dX11_had_51 (by decide) h (fun c7 h => ?_) (fun c7 h => ?_)
      · refine k_iload (pc := 59) C dX11_had_59 4 rfl ?_
        refine k_sub [0, 1, 2, 3, 5] rfl ?_
        exact k_X11_had_b61 C E hrec33 z6.2 x1 x2 x3 x5 x4 h
      · refine k_iload (pc := 54) C dX11_had_54 5 rfl ?_
        refine k_goto (pc := 56) C 61 dX11_had_56 (by decide) ?_
        refine k_sub [0, 1, 2, 3, 5] rfl ?_
        exact k_X11_had_b61 C E hrec33 z6.2 x1 x2 x3 x5 x5 h
set_option maxHeartbeats 4000000 in
set_option maxRecDepth 100000 in
theorem k_X11_had_l33 {B : KB} {X : KE} {res : Int32 × TT} (C : Cx B X "GriefEngineModel" cX11_had 6 5) (E : Cr B X (some .int) (some (.int res.1)) res.2) : ∀ (n : Nat) (T : TT) (x1 : Int32) (x2 : Int32) (x3 : Int32) (x4 : Int32) (x5 : Int32) (h : m_X11_had_l33 n T x1 x2 x3 x4 x5 = some res), Wk B X 6 T 33 [(0, .ref (B.1 10 0)), (1, .int x1), (2, .int x2), (3, .int x3), (4, .int x4), (5, .int x5)] [] := by
  intro n
  induction n with
  | zero =>
    intro T x1 x2 x3 x4 x5 h
    exact no_some h
  | succ n ih =>
    intro T x1 x2 x3 x4 x5 h
    exact k_X11_had_h33 C E (fun T x1 x2 x3 x4 x5 h => ih T x1 x2 x3 x4 x5 h) T x1 x2 x3 x4 x5 h
set_option maxHeartbeats 4000000 in
set_option maxRecDepth 100000 in
theorem k_X11_had_b18 {B : KB} {X : KE} {res : Int32 × TT} (C : Cx B X "GriefEngineModel" cX11_had 6 5) (E : Cr B X (some .int) (some (.int res.1)) res.2) (T : TT) (h : m_X11_had_b18 T = some res) : Wk B X 6 T 18 [(0, .ref (B.1 10 0))] [] := by
  unfold m_X11_had_b18 at h
  refine k_aload_n (pc := 18) C dX11_had_18 0 rfl ?_
  refine k_bipush (pc := 19) (v := (-2 : Int32)) C dX11_had_19 cbipush_m2 ?_
  obtain ⟨z12, e12, h⟩ := bnd h
  refine k_callvI (pc := 21) C lk_X11_63 (by decide) ix_X11 wo_X11 rfl rfl (kc_X11_bad e12) dX11_had_21 rfl rfl (Nat.le_of_ble_eq_true rfl) ?_
  exact k_iret (pc := 24) C E (some_1 h) (some_2 h) dX11_had_24
set_option maxHeartbeats 4000000 in
set_option maxRecDepth 100000 in
theorem kc_X11_had {B : KB} {l : Launch} {T : TT} {x1 : Int32} {x2 : Int32} {res : Int32 × TT} (h : m_X11_had T x1 x2 = some res) : Kt B l 5 yX11_had cX11_had 6 (some .int) T [.ref (B.1 10 0), .int x1, .int x2] (some (.int res.1)) res.2 := by
  refine Kt.of (by decide) (Nat.le_of_ble_eq_true rfl) (fun X hX C E => ?_)
  subst hX
  have C : Cx B X "GriefEngineModel" cX11_had 6 5 := C
  show Wk B X 6 T 0 [(0, .ref (B.1 10 0)), (1, .int x1), (2, .int x2)] []
  unfold m_X11_had at h
  refine k_aload_n (pc := 0) C dX11_had_0 0 rfl ?_
  refine k_iload_n (pc := 1) C dX11_had_1 1 rfl ?_
  obtain ⟨z1, e1, h⟩ := bnd h
  refine k_callvI (pc := 2) C lk_X11_116 (by decide) ix_X11 wo_X11 rfl rfl (kc_X11_isDriver e1) dX11_had_2 rfl rfl (Nat.le_of_ble_eq_true rfl) ?_
  refine k_if_eq (pc := 5) C 18 dX11_had_5 (by decide) h (fun c4 h => ?_) (fun c4 h => ?_)
  · refine k_sub [0] rfl ?_
    exact k_X11_had_b18 C E T h
  · refine k_iload_n (pc := 8) C dX11_had_8 2 rfl ?_
    refine k_i2l (pc := 9) C dX11_had_9 ?_
    refine k_lconst (pc := 10) (v := (0 : Int64)) C dX11_had_10 (by decide) ?_
    refine k_lconst (pc := 11) (v := (1 : Int64)) C dX11_had_11 (by decide) ?_
    obtain ⟨z2, e2, h⟩ := bnd h
    refine k_callsI (pc := 12) C lk_X11_53 (by decide) (kc_X11_in e2) dX11_had_12 rfl rfl (Nat.le_of_ble_eq_true rfl) ?_
    refine k_if_ne (pc := 15) C 25 dX11_had_15 (by decide) h (fun c3 h => ?_) (fun c3 h => ?_)
    · refine k_iconst (pc := 25) (v := (0 : Int32)) C dX11_had_25 ciconst_0 ?_
      refine k_istore_n (pc := 26) C [(3, .int (0 : Int32)), (0, .ref (B.1 10 0)), (1, .int x1), (2, .int x2)] dX11_had_26 (by decide) rfl ?_
      refine k_iconst (pc := 27) (v := (-1 : Int32)) C dX11_had_27 ciconst_m1 ?_
      refine k_istore (pc := 28) C [(4, .int (-1 : Int32)), (3, .int (0 : Int32)), (0, .ref (B.1 10 0)), (1, .int x1), (2, .int x2)] dX11_had_28 (by decide) rfl ?_
      refine k_iconst (pc := 30) (v := (0 : Int32)) C dX11_had_30 ciconst_0 ?_
      refine k_istore (pc := 31) C [(5, .int (0 : Int32)), (4, .int (-1 : Int32)), (3, .int (0 : Int32)), (0, .ref (B.1 10 0)), (1, .int x1), (2, .int x2)] dX11_had_31 (by decide) rfl ?_
      refine k_sub [3, 4, 5, 2, 1, 0] rfl ?_
      exact k_X11_had_l33 C E FU T x1 x2 (0 : Int32) (-1 : Int32) (0 : Int32) h
    · refine k_sub [0] rfl ?_
      exact k_X11_had_b18 C E T h
def m_X11_getsBy (T : TT) (x1 : Int32) (x2 : Int32) (x3 : Int32) : Option (Int32) := if inb ((4 : Int32) + x1) 175 then (bT (T.1 10 1 (Int32.toNatClampNeg ((4 : Int32) + x1))) (fun y1 => (m_X11_kindOf T x1).bind (fun z2 => (m_X11_seasonOf (T.1 10 1 16)).bind (fun z3 => (m_X11_runsAs z2 y1 z3).bind (fun z4 => if x2 = 0 then (if x3 = 0 then (some (z4 / (2 : Int32))) else (some z4)) else ((m_X11_kindOf T x1).bind (fun z6 => (m_X11_leftAs z6 y1 (2 : Int32)).bind (fun z7 => (m_X11_kindOf T x1).bind (fun z8 => (m_X11_leftAs z8 y1 (0 : Int32)).bind (fun z9 => some (z7 - z9))))))))))) else none
set_option maxHeartbeats 4000000 in
set_option maxRecDepth 100000 in
theorem kc_X11_getsBy {B : KB} {l : Launch} {T : TT} {x1 : Int32} {x2 : Int32} {x3 : Int32} {res : Int32} (h : m_X11_getsBy T x1 x2 x3 = some res) : Kt B l 3 yX11_getsBy cX11_getsBy 6 (some .int) T [.ref (B.1 10 0), .int x1, .int x2, .int x3] (some (.int res)) T := by
  refine Kt.of (by decide) (Nat.le_of_ble_eq_true rfl) (fun X hX C E => ?_)
  subst hX
  have C : Cx B X "GriefEngineModel" cX11_getsBy 6 3 := C
  show Wk B X 6 T 0 [(0, .ref (B.1 10 0)), (1, .int x1), (2, .int x2), (3, .int x3)] []
  unfold m_X11_getsBy at h
  refine k_aload_n (pc := 0) C dX11_getsBy_0 0 rfl ?_
  refine gf_X11_7 (pc := 1) C dX11_getsBy_1 ?_
  refine k_iconst (pc := 4) (v := (4 : Int32)) C dX11_getsBy_4 ciconst_4 ?_
  refine k_iload_n (pc := 5) C dX11_getsBy_5 1 rfl ?_
  refine k_iadd (pc := 6) C dX11_getsBy_6 ?_
  refine k_iald (pc := 7) C ia_10_1 dX11_getsBy_7 h (fun h => ?_)
  refine k_nI h (fun y1 h => ?_)
  refine k_istore (pc := 8) C [(4, .int y1), (0, .ref (B.1 10 0)), (1, .int x1), (2, .int x2), (3, .int x3)] dX11_getsBy_8 (by decide) rfl ?_
  refine k_aload_n (pc := 10) C dX11_getsBy_10 1 rfl ?_
  refine k_iload_n (pc := 11) C dX11_getsBy_11 2 rfl ?_
  obtain ⟨z2, e2, h⟩ := bnd h
  refine k_callvI (pc := 12) C lk_X11_124 (by decide) ix_X11 wo_X11 rfl rfl (kc_X11_kindOf e2) dX11_getsBy_12 rfl rfl (Nat.le_of_ble_eq_true rfl) ?_
  refine k_iload (pc := 15) C dX11_getsBy_15 0 rfl ?_
  refine k_aload_n (pc := 17) C dX11_getsBy_17 1 rfl ?_
  refine gf_X11_7 (pc := 18) C dX11_getsBy_18 ?_
  refine k_bipush (pc := 21) (v := (16 : Int32)) C dX11_getsBy_21 cbipush_16 ?_
  refine k_ialdc (pc := 23) C ia_10_1 16 dX11_getsBy_23 (by decide) (by decide) ?_
  obtain ⟨z3, e3, h⟩ := bnd h
  refine k_callsI (pc := 24) C lk_X11_91 (by decide) (kc_X11_seasonOf e3) dX11_getsBy_24 rfl rfl (Nat.le_of_ble_eq_true rfl) ?_
  obtain ⟨z4, e4, h⟩ := bnd h
  refine k_callsI (pc := 27) C lk_X11_94 (by decide) (kc_X11_runsAs e4) dX11_getsBy_27 rfl rfl (Nat.le_of_ble_eq_true rfl) ?_
  refine k_istore (pc := 30) C [(5, .int z4), (4, .int y1), (0, .ref (B.1 10 0)), (1, .int x1), (2, .int x2), (3, .int x3)] dX11_getsBy_30 (by decide) rfl ?_
  refine k_iload_n (pc := 32) C dX11_getsBy_32 4 rfl ?_
  refine k_if_eq (pc := 33) C 60 dX11_getsBy_33 (by decide) h (fun c10 h => ?_) (fun c10 h => ?_)
  · refine k_iload_n (pc := 60) C dX11_getsBy_60 5 rfl ?_
    refine k_if_eq (pc := 61) C 69 dX11_getsBy_61 (by decide) h (fun c5 h => ?_) (fun c5 h => ?_)
    · refine k_iload (pc := 69) C dX11_getsBy_69 0 rfl ?_
      refine k_iconst (pc := 71) (v := (2 : Int32)) C dX11_getsBy_71 ciconst_2 ?_
      refine k_idivc (pc := 72) C dX11_getsBy_72 (by decide) ?_
      exact k_iret (pc := 73) C E (some_i h) rfl dX11_getsBy_73
    · refine k_iload (pc := 64) C dX11_getsBy_64 0 rfl ?_
      refine k_goto (pc := 66) C 73 dX11_getsBy_66 (by decide) ?_
      exact k_iret (pc := 73) C E (some_i h) rfl dX11_getsBy_73
  · refine k_aload_n (pc := 36) C dX11_getsBy_36 2 rfl ?_
    refine k_iload_n (pc := 37) C dX11_getsBy_37 3 rfl ?_
    obtain ⟨z6, e6, h⟩ := bnd h
    refine k_callvI (pc := 38) C lk_X11_124 (by decide) ix_X11 wo_X11 rfl rfl (kc_X11_kindOf e6) dX11_getsBy_38 rfl rfl (Nat.le_of_ble_eq_true rfl) ?_
    refine k_iload (pc := 41) C dX11_getsBy_41 1 rfl ?_
    refine k_iconst (pc := 43) (v := (2 : Int32)) C dX11_getsBy_43 ciconst_2 ?_
    obtain ⟨z7, e7, h⟩ := bnd h
    refine k_callsI (pc := 44) C lk_X11_98 (by decide) (kc_X11_leftAs e7) dX11_getsBy_44 rfl rfl (Nat.le_of_ble_eq_true rfl) ?_
    refine k_aload_n (pc := 47) C dX11_getsBy_47 2 rfl ?_
    refine k_iload_n (pc := 48) C dX11_getsBy_48 3 rfl ?_
    obtain ⟨z8, e8, h⟩ := bnd h
    refine k_callvI (pc := 49) C lk_X11_124 (by decide) ix_X11 wo_X11 rfl rfl (kc_X11_kindOf e8) dX11_getsBy_49 rfl rfl (Nat.le_of_ble_eq_true rfl) ?_
    refine k_iload (pc := 52) C dX11_getsBy_52 1 rfl ?_
    refine k_iconst (pc := 54) (v := (0 : Int32)) C dX11_getsBy_54 ciconst_0 ?_
    obtain ⟨z9, e9, h⟩ := bnd h
    refine k_callsI (pc := 55) C lk_X11_98 (by decide) (kc_X11_leftAs e9) dX11_getsBy_55 rfl rfl (Nat.le_of_ble_eq_true rfl) ?_
    refine k_isub (pc := 58) C dX11_getsBy_58 ?_
    exact k_iret (pc := 59) C E (some_i h) rfl dX11_getsBy_59
