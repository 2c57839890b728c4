def m_X11_pairsBy_b191 (rec37 : TT → Int32 → Int32 → Int32 → Int32 → Option (Int32 × TT)) (T : TT) (x3 : Int32) (x4 : Int32) (x5 : Int32) (x6 : Int32) : Option (Int32 × TT) := bT (x6 + (1 : Int32)) (fun y25 => rec37 T x3 x4 x5 y25)
def m_X11_pairsBy_b139 (rec37 : TT → Int32 → Int32 → Int32 → Int32 → Option (Int32 × TT)) (T : TT) (x3 : Int32) (x4 : Int32) (x5 : Int32) (x6 : Int32) (x7 : Int32) (x8 : Int32) (s0 : Int32) : Option (Int32 × TT) := if s0 = 0 then (some ((-1 : Int32), T)) else (if x8 = 0 then (if x7 = (6 : Int32) then (m_X11_pairsBy_b191 rec37 T x3 x4 x5 x6) else (if inb x6 6 then bT (sA T 10 5 (Int32.toNatClampNeg x6) x7) (fun T18 => if inb x7 6 then bT (sA T18 10 5 (Int32.toNatClampNeg x7) x6) (fun T19 => (m_X11_worthOf T19 x6 x7).bind (fun z20 => bT (x5 + z20) (fun y21 => m_X11_pairsBy_b191 rec37 T19 x3 x4 y21 x6))) else none) else none)) else (m_X11_pairsBy_b191 rec37 T x3 x4 x5 x6))
def m_X11_pairsBy_b138 (rec37 : TT → Int32 → Int32 → Int32 → Int32 → Option (Int32 × TT)) (T : TT) (x3 : Int32) (x4 : Int32) (x5 : Int32) (x6 : Int32) (x7 : Int32) (x8 : Int32) : Option (Int32 × TT) := m_X11_pairsBy_b139 rec37 T x3 x4 x5 x6 x7 x8 (0 : Int32)
def m_X11_pairsBy_b134 (rec37 : TT → Int32 → Int32 → Int32 → Int32 → Option (Int32 × TT)) (T : TT) (x3 : Int32) (x4 : Int32) (x5 : Int32) (x6 : Int32) (x7 : Int32) (x8 : Int32) : Option (Int32 × TT) := m_X11_pairsBy_b139 rec37 T x3 x4 x5 x6 x7 x8 (1 : Int32)
def m_X11_pairsBy_b80 (rec37 : TT → Int32 → Int32 → Int32 → Int32 → Option (Int32 × TT)) (T : TT) (x3 : Int32) (x4 : Int32) (x5 : Int32) (x6 : Int32) (x7 : Int32) (s0 : Int32) : Option (Int32 × TT) := if s0 = 0 then (if x7 = (6 : Int32) then (m_X11_pairsBy_b134 rec37 T x3 x4 x5 x6 x7 s0) else (if x7 ≤ x6 then (m_X11_pairsBy_b138 rec37 T x3 x4 x5 x6 x7 s0) else ((m_X11_many T).bind (fun z11 => if z11 ≤ x7 then (m_X11_pairsBy_b138 rec37 T x3 x4 x5 x6 x7 s0) else (if inb x7 6 then (if (T.1 10 5 (Int32.toNatClampNeg x7)) = (-1 : Int32) then (m_X11_pairsBy_b134 rec37 T x3 x4 x5 x6 x7 s0) else (m_X11_pairsBy_b138 rec37 T x3 x4 x5 x6 x7 s0)) else none))))) else (if x7 = 0 then (m_X11_pairsBy_b139 rec37 T x3 x4 x5 x6 x7 s0 (1 : Int32)) else (m_X11_pairsBy_b139 rec37 T x3 x4 x5 x6 x7 s0 (0 : Int32)))
def m_X11_pairsBy_h37 (rec37 : TT → Int32 → Int32 → Int32 → Int32 → Option (Int32 × TT)) (T : TT) (x3 : Int32) (x4 : Int32) (x5 : Int32) (x6 : Int32) : Option (Int32 × TT) := (m_X11_many T).bind (fun z5 => if z5 ≤ x6 then (some (x5, T)) else (bT (x4 / (7 : Int32)) (fun y6 => if y6 = 0 then none else (bT (x3 / y6) (fun y7 => if y6 = 0 then none else (bT (x3 - x3 / y6 * y6) (fun y8 => if inb x6 6 then (if (T.1 10 5 (Int32.toNatClampNeg x6)) = (-1 : Int32) then (m_X11_pairsBy_b80 rec37 T y8 y6 x5 x6 y7 (0 : Int32)) else (m_X11_pairsBy_b80 rec37 T y8 y6 x5 x6 y7 (1 : Int32))) else none)))))))
def m_X11_pairsBy_l37 : Nat → TT → Int32 → Int32 → Int32 → Int32 → Option (Int32 × TT)
  | 0 => fun _ _ _ _ _ => none
  | n + 1 => fun T x3 x4 x5 x6 => m_X11_pairsBy_h37 (m_X11_pairsBy_l37 n) T x3 x4 x5 x6
def m_X11_pairsBy_h11 (rec11 : TT → Int32 → Int32 → Int32 → Int32 → Option (Int32 × TT)) (T : TT) (x3 : Int32) (x4 : Int32) (x5 : Int32) (x6 : Int32) : Option (Int32 × TT) := (m_X11_many T).bind (fun z1 => if z1 ≤ x6 then (m_X11_pairsBy_l37 FU T x3 x4 x5 (0 : Int32)) else (if inb x6 6 then bT (sA T 10 5 (Int32.toNatClampNeg x6) (-1 : Int32)) (fun T2 => bT (x6 + (1 : Int32)) (fun y3 => rec11 T2 x3 x4 x5 y3)) else none))
def m_X11_pairsBy_l11 : Nat → TT → Int32 → Int32 → Int32 → Int32 → Option (Int32 × TT)
  | 0 => fun _ _ _ _ _ => none
  | n + 1 => fun T x3 x4 x5 x6 => m_X11_pairsBy_h11 (m_X11_pairsBy_l11 n) T x3 x4 x5 x6
def m_X11_pairsBy (T : TT) (x1 : Int32) (x2 : Int32) : Option (Int32 × TT) := m_X11_pairsBy_l11 FU T x1 x2 (0 : Int32) (0 : Int32)
set_option maxHeartbeats 4000000 in
set_option maxRecDepth 100000 in
theorem k_X11_pairsBy_b191 {B : KB} {X : KE} {rec37 : TT → Int32 → Int32 → Int32 → Int32 → Option (Int32 × TT)} {res : Int32 × TT} (C : Cx B X "GriefEngineModel" cX11_pairsBy 10 3) (E : Cr B X (some .int) (some (.int res.1)) res.2) (hrec37 : ∀ (T : TT) (x3 : Int32) (x4 : Int32) (x5 : Int32) (x6 : Int32), rec37 T x3 x4 x5 x6 = some res → Wk B X 10 T 37 [(0, .ref (B.1 10 0)), (3, .int x3), (4, .int x4), (5, .int x5), (6, .int x6)] []) (T : TT) (x3 : Int32) (x4 : Int32) (x5 : Int32) (x6 : Int32) (h : m_X11_pairsBy_b191 rec37 T x3 x4 x5 x6 = some res) : Wk B X 10 T 191 [(0, .ref (B.1 10 0)), (3, .int x3), (4, .int x4), (5, .int x5), (6, .int x6)] [] := by
  unfold m_X11_pairsBy_b191 at h
  refine k_iincN (pc := 191) (x := x6) (c := (1 : Int32)) C (fun y25 => [(6, .int y25), (0, .ref (B.1 10 0)), (3, .int x3), (4, .int x4), (5, .int x5)]) dX11_pairsBy_191 4 rfl ciconst_1 (by decide) (fun _ => rfl) h (fun y25 h => ?_)
  refine k_goto (pc := 194) C 37 dX11_pairsBy_194 (by decide) ?_
  refine k_sub [1, 2, 3, 4, 0] rfl ?_
  exact hrec37 T x3 x4 x5 y25 h
set_option maxHeartbeats 4000000 in
set_option maxRecDepth 100000 in
theorem k_X11_pairsBy_b139 {B : KB} {X : KE} {rec37 : TT → Int32 → Int32 → Int32 → Int32 → Option (Int32 × TT)} {res : Int32 × TT} (C : Cx B X "GriefEngineModel" cX11_pairsBy 10 3) (E : Cr B X (some .int) (some (.int res.1)) res.2) (hrec37 : ∀ (T : TT) (x3 : Int32) (x4 : Int32) (x5 : Int32) (x6 : Int32), rec37 T x3 x4 x5 x6 = some res → Wk B X 10 T 37 [(0, .ref (B.1 10 0)), (3, .int x3), (4, .int x4), (5, .int x5), (6, .int x6)] []) (T : TT) (x3 : Int32) (x4 : Int32) (x5 : Int32) (x6 : Int32) (x7 : Int32) (x8 : Int32) (s0 : Int32) (h : m_X11_pairsBy_b139 rec37 T x3 x4 x5 x6 x7 x8 s0 = some res) : Wk B X 10 T 139 [(0, .ref (B.1 10 0)), (3, .int x3), (4, .int x4), (5, .int x5), (6, .int x6), (7, .int x7), (8, .int x8)] [.int s0] := by
  unfold m_X11_pairsBy_b139 at h
  refine k_istore (pc := 139) C [(9, .int s0), (0, .ref (B.1 10 0)), (3, .int x3), (4, .int x4), (5, .int x5), (6, .int x6), (7, .int x7), (8, .int x8)] dX11_pairsBy_139 (by decide) rfl ?_
  refine k_iload (pc := 141) C dX11_pairsBy_141 0 rfl ?_
  refine k_if_ne (pc := 143) C 148 dX11_pairsBy_143 (by decide) h (fun c24 h => ?_) (fun c24 h => ?_)
  · refine k_iload (pc := 148) C dX11_pairsBy_148 7 rfl ?_
    refine k_if_ne (pc := 150) C 191 dX11_pairsBy_150 (by decide) h (fun c23 h => ?_) (fun c23 h => ?_)
    · refine k_sub [1, 2, 3, 4, 5] rfl ?_
      exact k_X11_pairsBy_b191 C E hrec37 T x3 x4 x5 x6 h
    · refine k_iload (pc := 153) C dX11_pairsBy_153 6 rfl ?_
      refine k_bipush (pc := 155) (v := (6 : Int32)) C dX11_pairsBy_155 cbipush_6 ?_
      refine k_icmp_eq (pc := 157) C 191 dX11_pairsBy_157 (by decide) h (fun c22 h => ?_) (fun c22 h => ?_)
      · refine k_sub [1, 2, 3, 4, 5] rfl ?_
        exact k_X11_pairsBy_b191 C E hrec37 T x3 x4 x5 x6 h
      · refine k_aload_n (pc := 160) C dX11_pairsBy_160 1 rfl ?_
        refine gf_X11_27 (pc := 161) C dX11_pairsBy_161 ?_
        refine k_iload (pc := 164) C dX11_pairsBy_164 5 rfl ?_
        refine k_iload (pc := 166) C dX11_pairsBy_166 6 rfl ?_
        refine k_iast (pc := 168) C ia_10_5 dX11_pairsBy_168 h (fun h => ?_)
        refine k_nT h (fun T18 h => ?_)
        refine k_aload_n (pc := 169) C dX11_pairsBy_169 1 rfl ?_
        refine gf_X11_27 (pc := 170) C dX11_pairsBy_170 ?_
        refine k_iload (pc := 173) C dX11_pairsBy_173 6 rfl ?_
        refine k_iload (pc := 175) C dX11_pairsBy_175 5 rfl ?_
        refine k_iast (pc := 177) C ia_10_5 dX11_pairsBy_177 h (fun h => ?_)
        refine k_nT h (fun T19 h => ?_)
        refine k_iload (pc := 178) C dX11_pairsBy_178 4 rfl ?_
        refine k_aload_n (pc := 180) C dX11_pairsBy_180 1 rfl ?_
        refine k_iload (pc := 181) C dX11_pairsBy_181 5 rfl ?_
        refine k_iload (pc := 183) C dX11_pairsBy_183 6 rfl ?_
        obtain ⟨z20, e20, h⟩ := bnd h
        refine k_callvI (pc := 185) C lk_X11_148 (by decide) ix_X11 wo_X11 rfl rfl (kc_X11_worthOf e20) dX11_pairsBy_185 rfl rfl (Nat.le_of_ble_eq_true rfl) ?_
        refine k_iadd (pc := 188) C dX11_pairsBy_188 ?_
        refine k_nI h (fun y21 h => ?_)
        refine k_istore (pc := 189) C [(5, .int y21), (9, .int s0), (0, .ref (B.1 10 0)), (3, .int x3), (4, .int x4), (6, .int x6), (7, .int x7), (8, .int x8)] dX11_pairsBy_189 (by decide) rfl ?_
        refine k_sub [2, 3, 4, 0, 5] rfl ?_
        exact k_X11_pairsBy_b191 C E hrec37 T19 x3 x4 y21 x6 h
  · refine k_iconst (pc := 146) (v := (-1 : Int32)) C dX11_pairsBy_146 ciconst_m1 ?_
    exact k_iret (pc := 147) C E (some_1 h) (some_2 h) dX11_pairsBy_147
set_option maxHeartbeats 4000000 in
set_option maxRecDepth 100000 in
theorem k_X11_pairsBy_b138 {B : KB} {X : KE} {rec37 : TT → Int32 → Int32 → Int32 → Int32 → Option (Int32 × TT)} {res : Int32 × TT} (C : Cx B X "GriefEngineModel" cX11_pairsBy 10 3) (E : Cr B X (some .int) (some (.int res.1)) res.2) (hrec37 : ∀ (T : TT) (x3 : Int32) (x4 : Int32) (x5 : Int32) (x6 : Int32), rec37 T x3 x4 x5 x6 = some res → Wk B X 10 T 37 [(0, .ref (B.1 10 0)), (3, .int x3), (4, .int x4), (5, .int x5), (6, .int x6)] []) (T : TT) (x3 : Int32) (x4 : Int32) (x5 : Int32) (x6 : Int32) (x7 : Int32) (x8 : Int32) (h : m_X11_pairsBy_b138 rec37 T x3 x4 x5 x6 x7 x8 = some res) : Wk B X 10 T 138 [(0, .ref (B.1 10 0)), (3, .int x3), (4, .int x4), (5, .int x5), (6, .int x6), (7, .int x7), (8, .int x8)] [] := by
  unfold m_X11_pairsBy_b138 at h
  refine k_iconst (pc := 138) (v := (0 : Int32)) C dX11_pairsBy_138 ciconst_0 ?_
  refine k_sub [0, 1, 2, 3, 4, 5, 6] rfl ?_
  exact k_X11_pairsBy_b139 C E hrec37 T x3 x4 x5 x6 x7 x8 (0 : Int32) h
set_option maxHeartbeats 4000000 in
set_option maxRecDepth 100000 in
theorem k_X11_pairsBy_b134 {B : KB} {X : KE} {rec37 : TT → Int32 → Int32 → Int32 → Int32 → Option (Int32 × TT)} {res : Int32 × TT} (C : Cx B X "GriefEngineModel" cX11_pairsBy 10 3) (E : Cr B X (some .int) (some (.int res.1)) res.2) (hrec37 : ∀ (T : TT) (x3 : Int32) (x4 : Int32) (x5 : Int32) (x6 : Int32), rec37 T x3 x4 x5 x6 = some res → Wk B X 10 T 37 [(0, .ref (B.1 10 0)), (3, .int x3), (4, .int x4), (5, .int x5), (6, .int x6)] []) (T : TT) (x3 : Int32) (x4 : Int32) (x5 : Int32) (x6 : Int32) (x7 : Int32) (x8 : Int32) (h : m_X11_pairsBy_b134 rec37 T x3 x4 x5 x6 x7 x8 = some res) : Wk B X 10 T 134 [(0, .ref (B.1 10 0)), (3, .int x3), (4, .int x4), (5, .int x5), (6, .int x6), (7, .int x7), (8, .int x8)] [] := by
  unfold m_X11_pairsBy_b134 at h
  refine k_iconst (pc := 134) (v := (1 : Int32)) C dX11_pairsBy_134 ciconst_1 ?_
  refine k_goto (pc := 135) C 139 dX11_pairsBy_135 (by decide) ?_
  refine k_sub [0, 1, 2, 3, 4, 5, 6] rfl ?_
  exact k_X11_pairsBy_b139 C E hrec37 T x3 x4 x5 x6 x7 x8 (1 : Int32) h
set_option maxHeartbeats 4000000 in
set_option maxRecDepth 100000 in
theorem k_X11_pairsBy_b80 {B : KB} {X : KE} {rec37 : TT → Int32 → Int32 → Int32 → Int32 → Option (Int32 × TT)} {res : Int32 × TT} (C : Cx B X "GriefEngineModel" cX11_pairsBy 10 3) (E : Cr B X (some .int) (some (.int res.1)) res.2) (hrec37 : ∀ (T : TT) (x3 : Int32) (x4 : Int32) (x5 : Int32) (x6 : Int32), rec37 T x3 x4 x5 x6 = some res → Wk B X 10 T 37 [(0, .ref (B.1 10 0)), (3, .int x3), (4, .int x4), (5, .int x5), (6, .int x6)] []) (T : TT) (x3 : Int32) (x4 : Int32) (x5 : Int32) (x6 : Int32) (x7 : Int32) (s0 : Int32) (h : m_X11_pairsBy_b80 rec37 T x3 x4 x5 x6 x7 s0 = some res) : Wk B X 10 T 80 [(0, .ref (B.1 10 0)), (3, .int x3), (4, .int x4), (5, .int x5), (6, .int x6), (7, .int x7)] [.int s0] := by
  unfold m_X11_pairsBy_b80 at h
  refine k_istore (pc := 80) C [(8, .int s0), (0, .ref (B.1 10 0)), (3, .int x3), (4, .int x4), (5, .int x5), (6, .int x6), (7, .int x7)] dX11_pairsBy_80 (by decide) rfl ?_
  refine k_iload (pc := 82) C dX11_pairsBy_82 0 rfl ?_
  refine k_if_eq (pc := 84) C 100 dX11_pairsBy_84 (by decide) h (fun c17 h => ?_) (fun c17 h => ?_)
  · refine k_iload (pc := 100) C dX11_pairsBy_100 6 rfl ?_
    refine k_bipush (pc := 102) (v := (6 : Int32)) C dX11_pairsBy_102 cbipush_6 ?_
    refine k_icmp_eq (pc := 104) C 134 dX11_pairsBy_104 (by decide) h (fun c15 h => ?_) (fun c15 h => ?_)
    · refine k_sub [1, 2, 3, 4, 5, 6, 0] rfl ?_
      exact k_X11_pairsBy_b134 C E hrec37 T x3 x4 x5 x6 x7 s0 h
    · refine k_iload (pc := 107) C dX11_pairsBy_107 6 rfl ?_
      refine k_iload (pc := 109) C dX11_pairsBy_109 5 rfl ?_
      refine k_icmp_le (pc := 111) C 138 dX11_pairsBy_111 (by decide) h (fun c14 h => ?_) (fun c14 h => ?_)
      · refine k_sub [1, 2, 3, 4, 5, 6, 0] rfl ?_
        exact k_X11_pairsBy_b138 C E hrec37 T x3 x4 x5 x6 x7 s0 h
      · refine k_iload (pc := 114) C dX11_pairsBy_114 6 rfl ?_
        refine k_aload_n (pc := 116) C dX11_pairsBy_116 1 rfl ?_
        obtain ⟨z11, e11, h⟩ := bnd h
        refine k_callvI (pc := 117) C lk_X11_49 (by decide) ix_X11 wo_X11 rfl rfl (kc_X11_many e11) dX11_pairsBy_117 rfl rfl (Nat.le_of_ble_eq_true rfl) ?_
        refine k_icmp_ge (pc := 120) C 138 dX11_pairsBy_120 (by decide) h (fun c13 h => ?_) (fun c13 h => ?_)
        · refine k_sub [1, 2, 3, 4, 5, 6, 0] rfl ?_
          exact k_X11_pairsBy_b138 C E hrec37 T x3 x4 x5 x6 x7 s0 h
        · refine k_aload_n (pc := 123) C dX11_pairsBy_123 1 rfl ?_
          refine gf_X11_27 (pc := 124) C dX11_pairsBy_124 ?_
          refine k_iload (pc := 127) C dX11_pairsBy_127 6 rfl ?_
          refine k_iald (pc := 129) C ia_10_5 dX11_pairsBy_129 h (fun h => ?_)
          refine k_iconst (pc := 130) (v := (-1 : Int32)) C dX11_pairsBy_130 ciconst_m1 ?_
          refine k_icmp_ne (pc := 131) C 138 dX11_pairsBy_131 (by decide) h (fun c12 h => ?_) (fun c12 h => ?_)
          · refine k_sub [1, 2, 3, 4, 5, 6, 0] rfl ?_
            exact k_X11_pairsBy_b138 C E hrec37 T x3 x4 x5 x6 x7 s0 h
          · refine k_sub [1, 2, 3, 4, 5, 6, 0] rfl ?_
            exact k_X11_pairsBy_b134 C E hrec37 T x3 x4 x5 x6 x7 s0 h
  · refine k_iload (pc := 87) C dX11_pairsBy_87 6 rfl ?_
    refine k_if_ne (pc := 89) C 96 dX11_pairsBy_89 (by decide) h (fun c16 h => ?_) (fun c16 h => ?_)
    · refine k_iconst (pc := 96) (v := (0 : Int32)) C dX11_pairsBy_96 ciconst_0 ?_
      refine k_goto (pc := 97) C 139 dX11_pairsBy_97 (by decide) ?_
      refine k_sub [1, 2, 3, 4, 5, 6, 0] rfl ?_
      exact k_X11_pairsBy_b139 C E hrec37 T x3 x4 x5 x6 x7 s0 (0 : Int32) h
    · refine k_iconst (pc := 92) (v := (1 : Int32)) C dX11_pairsBy_92 ciconst_1 ?_
      refine k_goto (pc := 93) C 139 dX11_pairsBy_93 (by decide) ?_
      refine k_sub [1, 2, 3, 4, 5, 6, 0] rfl ?_
      exact k_X11_pairsBy_b139 C E hrec37 T x3 x4 x5 x6 x7 s0 (1 : Int32) h
set_option maxHeartbeats 4000000 in
set_option maxRecDepth 100000 in
theorem k_X11_pairsBy_h37 {B : KB} {X : KE} {rec37 : TT → Int32 → Int32 → Int32 → Int32 → Option (Int32 × TT)} {res : Int32 × TT} (C : Cx B X "GriefEngineModel" cX11_pairsBy 10 3) (E : Cr B X (some .int) (some (.int res.1)) res.2) (hrec37 : ∀ (T : TT) (x3 : Int32) (x4 : Int32) (x5 : Int32) (x6 : Int32), rec37 T x3 x4 x5 x6 = some res → Wk B X 10 T 37 [(0, .ref (B.1 10 0)), (3, .int x3), (4, .int x4), (5, .int x5), (6, .int x6)] []) (T : TT) (x3 : Int32) (x4 : Int32) (x5 : Int32) (x6 : Int32) (h : m_X11_pairsBy_h37 rec37 T x3 x4 x5 x6 = some res) : Wk B X 10 T 37 [(0, .ref (B.1 10 0)), (3, .int x3), (4, .int x4), (5, .int x5), (6, .int x6)] [] := by
  unfold m_X11_pairsBy_h37 at h
  refine k_iload (pc := 37) C dX11_pairsBy_37 4 rfl ?_
  refine k_aload_n (pc := 39) C dX11_pairsBy_39 0 rfl ?_
  obtain ⟨z5, e5, h⟩ := bnd h
  refine k_callvI (pc := 40) C lk_X11_49 (by decide) ix_X11 wo_X11 rfl rfl (kc_X11_many e5) dX11_pairsBy_40 rfl rfl (Nat.le_of_ble_eq_true rfl) ?_
  refine k_icmp_ge (pc := 43) C 197 dX11_pairsBy_43 (by decide) h (fun c10 h => ?_) (fun c10 h => ?_)
  · refine k_iload (pc := 197) C dX11_pairsBy_197 3 rfl ?_
    exact k_iret (pc := 199) C E (some_1 h) (some_2 h) dX11_pairsBy_199
  · refine k_iload (pc := 46) C dX11_pairsBy_46 2 rfl ?_
    refine k_bipush (pc := 48) (v := (7 : Int32)) C dX11_pairsBy_48 cbipush_7 ?_
    refine k_idivc (pc := 50) C dX11_pairsBy_50 (by decide) ?_
    refine k_nI h (fun y6 h => ?_)
    refine k_istore (pc := 51) C [(4, .int y6), (0, .ref (B.1 10 0)), (3, .int x3), (5, .int x5), (6, .int x6)] dX11_pairsBy_51 (by decide) rfl ?_
    refine k_iload_n (pc := 53) C dX11_pairsBy_53 2 rfl ?_
    refine k_iload (pc := 54) C dX11_pairsBy_54 0 rfl ?_
    refine k_idiv (pc := 56) C dX11_pairsBy_56 h (fun h => ?_)
    refine k_nI h (fun y7 h => ?_)
    refine k_istore (pc := 57) C [(7, .int y7), (4, .int y6), (0, .ref (B.1 10 0)), (3, .int x3), (5, .int x5), (6, .int x6)] dX11_pairsBy_57 (by decide) rfl ?_
    refine k_iload_n (pc := 59) C dX11_pairsBy_59 3 rfl ?_
    refine k_iload (pc := 60) C dX11_pairsBy_60 1 rfl ?_
    refine k_irem (pc := 62) C dX11_pairsBy_62 h (fun h => ?_)
    refine k_nI h (fun y8 h => ?_)
    refine k_istore_n (pc := 63) C [(3, .int y8), (7, .int y7), (4, .int y6), (0, .ref (B.1 10 0)), (5, .int x5), (6, .int x6)] dX11_pairsBy_63 (by decide) rfl ?_
    refine k_aload_n (pc := 64) C dX11_pairsBy_64 3 rfl ?_
    refine gf_X11_27 (pc := 65) C dX11_pairsBy_65 ?_
    refine k_iload (pc := 68) C dX11_pairsBy_68 5 rfl ?_
    refine k_iald (pc := 70) C ia_10_5 dX11_pairsBy_70 h (fun h => ?_)
    refine k_iconst (pc := 71) (v := (-1 : Int32)) C dX11_pairsBy_71 ciconst_m1 ?_
    refine k_icmp_eq (pc := 72) C 79 dX11_pairsBy_72 (by decide) h (fun c9 h => ?_) (fun c9 h => ?_)
    · refine k_iconst (pc := 79) (v := (0 : Int32)) C dX11_pairsBy_79 ciconst_0 ?_
      refine k_sub [3, 0, 2, 4, 5, 1] rfl ?_
      exact k_X11_pairsBy_b80 C E hrec37 T y8 y6 x5 x6 y7 (0 : Int32) h
    · refine k_iconst (pc := 75) (v := (1 : Int32)) C dX11_pairsBy_75 ciconst_1 ?_
      refine k_goto (pc := 76) C 80 dX11_pairsBy_76 (by decide) ?_
      refine k_sub [3, 0, 2, 4, 5, 1] rfl ?_
      exact k_X11_pairsBy_b80 C E hrec37 T y8 y6 x5 x6 y7 (1 : Int32) h
set_option maxHeartbeats 4000000 in
set_option maxRecDepth 100000 in
theorem k_X11_pairsBy_l37 {B : KB} {X : KE} {res : Int32 × TT} (C : Cx B X "GriefEngineModel" cX11_pairsBy 10 3) (E : Cr B X (some .int) (some (.int res.1)) res.2) : ∀ (n : Nat) (T : TT) (x3 : Int32) (x4 : Int32) (x5 : Int32) (x6 : Int32) (h : m_X11_pairsBy_l37 n T x3 x4 x5 x6 = some res), Wk B X 10 T 37 [(0, .ref (B.1 10 0)), (3, .int x3), (4, .int x4), (5, .int x5), (6, .int x6)] [] := by
  intro n
  induction n with
  | zero =>
    intro T x3 x4 x5 x6 h
    exact no_some h
  | succ n ih =>
    intro T x3 x4 x5 x6 h
    exact k_X11_pairsBy_h37 C E (fun T x3 x4 x5 x6 h => ih T x3 x4 x5 x6 h) T x3 x4 x5 x6 h
set_option maxHeartbeats 4000000 in
set_option maxRecDepth 100000 in
theorem k_X11_pairsBy_h11 {B : KB} {X : KE} {rec11 : TT → Int32 → Int32 → Int32 → Int32 → Option (Int32 × TT)} {res : Int32 × TT} (C : Cx B X "GriefEngineModel" cX11_pairsBy 10 3) (E : Cr B X (some .int) (some (.int res.1)) res.2) (hrec11 : ∀ (T : TT) (x3 : Int32) (x4 : Int32) (x5 : Int32) (x6 : Int32), rec11 T x3 x4 x5 x6 = some res → Wk B X 10 T 11 [(0, .ref (B.1 10 0)), (3, .int x3), (4, .int x4), (5, .int x5), (6, .int x6)] []) (T : TT) (x3 : Int32) (x4 : Int32) (x5 : Int32) (x6 : Int32) (h : m_X11_pairsBy_h11 rec11 T x3 x4 x5 x6 = some res) : Wk B X 10 T 11 [(0, .ref (B.1 10 0)), (3, .int x3), (4, .int x4), (5, .int x5), (6, .int x6)] [] := by
  unfold m_X11_pairsBy_h11 at h
  refine k_iload (pc := 11) C dX11_pairsBy_11 4 rfl ?_
  refine k_aload_n (pc := 13) C dX11_pairsBy_13 0 rfl ?_
  obtain ⟨z1, e1, h⟩ := bnd h
  refine k_callvI (pc := 14) C lk_X11_49 (by decide) ix_X11 wo_X11 rfl rfl (kc_X11_many e1) dX11_pairsBy_14 rfl rfl (Nat.le_of_ble_eq_true rfl) ?_
  refine k_icmp_ge (pc := 17) C 34 dX11_pairsBy_17 (by decide) h (fun c4 h => ?_) (fun c4 h => ?_)
  · refine k_iconst (pc := 34) (v := (0 : Int32)) C dX11_pairsBy_34 ciconst_0 ?_
    refine k_istore (pc := 35) C [(6, .int (0 : Int32)), (0, .ref (B.1 10 0)), (3, .int x3), (4, .int x4), (5, .int x5)] dX11_pairsBy_35 (by decide) rfl ?_
    refine k_sub [1, 2, 3, 4, 0] rfl ?_
    exact k_X11_pairsBy_l37 C E FU T x3 x4 x5 (0 : Int32) h
  · refine k_aload_n (pc := 20) C dX11_pairsBy_20 0 rfl ?_
    refine gf_X11_27 (pc := 21) C dX11_pairsBy_21 ?_
    refine k_iload (pc := 24) C dX11_pairsBy_24 4 rfl ?_
    refine k_iconst (pc := 26) (v := (-1 : Int32)) C dX11_pairsBy_26 ciconst_m1 ?_
    refine k_iast (pc := 27) C ia_10_5 dX11_pairsBy_27 h (fun h => ?_)
    refine k_nT h (fun T2 h => ?_)
    refine k_iincN (pc := 28) (x := x6) (c := (1 : Int32)) C (fun y3 => [(6, .int y3), (0, .ref (B.1 10 0)), (3, .int x3), (4, .int x4), (5, .int x5)]) dX11_pairsBy_28 4 rfl ciconst_1 (by decide) (fun _ => rfl) h (fun y3 h => ?_)
    refine k_goto (pc := 31) C 11 dX11_pairsBy_31 (by decide) ?_
    refine k_sub [1, 2, 3, 4, 0] rfl ?_
    exact hrec11 T2 x3 x4 x5 y3 h
set_option maxHeartbeats 4000000 in
set_option maxRecDepth 100000 in
theorem k_X11_pairsBy_l11 {B : KB} {X : KE} {res : Int32 × TT} (C : Cx B X "GriefEngineModel" cX11_pairsBy 10 3) (E : Cr B X (some .int) (some (.int res.1)) res.2) : ∀ (n : Nat) (T : TT) (x3 : Int32) (x4 : Int32) (x5 : Int32) (x6 : Int32) (h : m_X11_pairsBy_l11 n T x3 x4 x5 x6 = some res), Wk B X 10 T 11 [(0, .ref (B.1 10 0)), (3, .int x3), (4, .int x4), (5, .int x5), (6, .int x6)] [] := by
  intro n
  induction n with
  | zero =>
    intro T x3 x4 x5 x6 h
    exact no_some h
  | succ n ih =>
    intro T x3 x4 x5 x6 h
    exact k_X11_pairsBy_h11 C E (fun T x3 x4 x5 x6 h => ih T x3 x4 x5 x6 h) T x3 x4 x5 x6 h
set_option maxHeartbeats 4000000 in
set_option maxRecDepth 100000 in
theorem kc_X11_pairsBy {B : KB} {l : Launch} {T : TT} {x1 : Int32} {x2 : Int32} {res : Int32 × TT} (h : m_X11_pairsBy T x1 x2 = some res) : Kt B l 3 yX11_pairsBy cX11_pairsBy 10 (some .int) T [.ref (B.1 10 0), .int x1, .int x2] (some (.int res.1)) res.2 := by
  refine Kt.of (by decide) (Nat.le_of_ble_eq_true rfl) (fun X hX C E => ?_)
  subst hX
  have C : Cx B X "GriefEngineModel" cX11_pairsBy 10 3 := C
  show Wk B X 10 T 0 [(0, .ref (B.1 10 0)), (1, .int x1), (2, .int x2)] []
  unfold m_X11_pairsBy at h
  refine k_iload_n (pc := 0) C dX11_pairsBy_0 1 rfl ?_
  refine k_istore_n (pc := 1) C [(3, .int x1), (0, .ref (B.1 10 0)), (1, .int x1), (2, .int x2)] dX11_pairsBy_1 (by decide) rfl ?_
  refine k_iload_n (pc := 2) C dX11_pairsBy_2 3 rfl ?_
  refine k_istore (pc := 3) C [(4, .int x2), (3, .int x1), (0, .ref (B.1 10 0)), (1, .int x1), (2, .int x2)] dX11_pairsBy_3 (by decide) rfl ?_
  refine k_iconst (pc := 5) (v := (0 : Int32)) C dX11_pairsBy_5 ciconst_0 ?_
  refine k_istore (pc := 6) C [(5, .int (0 : Int32)), (4, .int x2), (3, .int x1), (0, .ref (B.1 10 0)), (1, .int x1), (2, .int x2)] dX11_pairsBy_6 (by decide) rfl ?_
  refine k_iconst (pc := 8) (v := (0 : Int32)) C dX11_pairsBy_8 ciconst_0 ?_
  refine k_istore (pc := 9) C [(6, .int (0 : Int32)), (5, .int (0 : Int32)), (4, .int x2), (3, .int x1), (0, .ref (B.1 10 0)), (1, .int x1), (2, .int x2)] dX11_pairsBy_9 (by decide) rfl ?_
  refine k_sub [4, 3, 2, 1, 0] rfl ?_
  exact k_X11_pairsBy_l11 C E FU T x1 x2 (0 : Int32) (0 : Int32) h
def m_X11_tell_b120 (rec55 : TT → Int32 → Int32 → Int32 → Int32 → Option (Int32 × TT)) (T : TT) (x1 : Int32) (x2 : Int32) (x4 : Int32) (s0 : Int32) : Option (Int32 × TT) := bT (x4 + (1 : Int32)) (fun y18 => rec55 T x1 x2 s0 y18)
def m_X11_tell_b108 (rec55 : TT → Int32 → Int32 → Int32 → Int32 → Option (Int32 × TT)) (T : TT) (x1 : Int32) (x2 : Int32) (x3 : Int32) (x4 : Int32) (x5 : Int32) : Option (Int32 × TT) := if x5 ≤ x3 then (m_X11_tell_b120 rec55 T x1 x2 x4 x3) else (m_X11_tell_b120 rec55 T x1 x2 x4 x5)
def m_X11_tell_h73 (rec55 : TT → Int32 → Int32 → Int32 → Int32 → Option (Int32 × TT)) (rec73 : TT → Int32 → Int32 → Int32 → Int32 → Int32 → Int32 → Option (Int32 × TT)) (T : TT) (x1 : Int32) (x2 : Int32) (x3 : Int32) (x4 : Int32) (x5 : Int32) (x6 : Int32) : Option (Int32 × TT) := (m_X11_many T).bind (fun z12 => if z12 ≤ x6 then (m_X11_tell_b108 rec55 T x1 x2 x3 x4 x5) else (if x5 ≤ x3 then (m_X11_tell_b108 rec55 T x1 x2 x3 x4 x5) else (if inb x6 6 then (if inb x6 6 then bT (sA T 10 6 (Int32.toNatClampNeg x6) (T.1 10 5 (Int32.toNatClampNeg x6))) (fun T13 => bT (x6 + (1 : Int32)) (fun y14 => rec73 T13 x1 x2 x3 x4 x5 y14)) else none) else none)))
def m_X11_tell_l73 (rec55 : TT → Int32 → Int32 → Int32 → Int32 → Option (Int32 × TT)) : Nat → TT → Int32 → Int32 → Int32 → Int32 → Int32 → Int32 → Option (Int32 × TT)
  | 0 => fun _ _ _ _ _ _ _ => none
  | n + 1 => fun T x1 x2 x3 x4 x5 x6 => m_X11_tell_h73 rec55 (m_X11_tell_l73 rec55 n) T x1 x2 x3 x4 x5 x6
def m_X11_tell_h55 (rec55 : TT → Int32 → Int32 → Int32 → Int32 → Option (Int32 × TT)) (T : TT) (x1 : Int32) (x2 : Int32) (x3 : Int32) (x4 : Int32) : Option (Int32 × TT) := if x2 ≤ x4 then (if x1 = (-1 : Int32) then (some (x3, T)) else (if inb x1 6 then (some ((T.1 10 6 (Int32.toNatClampNeg x1)), T)) else none)) else ((m_X11_pairsBy T x4 x2).bind (fun z10 => m_X11_tell_l73 rec55 FU z10.2 x1 x2 x3 x4 z10.1 (0 : Int32)))
def m_X11_tell_l55 : Nat → TT → Int32 → Int32 → Int32 → Int32 → Option (Int32 × TT)
  | 0 => fun _ _ _ _ _ => none
  | n + 1 => fun T x1 x2 x3 x4 => m_X11_tell_h55 (m_X11_tell_l55 n) T x1 x2 x3 x4
def m_X11_tell_h32 (rec32 : TT → Int32 → Int32 → Int32 → Int32 → Option (Int32 × TT)) (T : TT) (x1 : Int32) (x2 : Int32) (x3 : Int32) (x4 : Int32) : Option (Int32 × TT) := (m_X11_many T).bind (fun z5 => if z5 ≤ x4 then (m_X11_tell_l55 FU T x1 x2 x3 (0 : Int32)) else (bT (x2 * (7 : Int32)) (fun y6 => bT (x4 + (1 : Int32)) (fun y7 => rec32 T x1 y6 x3 y7))))
def m_X11_tell_l32 : Nat → TT → Int32 → Int32 → Int32 → Int32 → Option (Int32 × TT)
  | 0 => fun _ _ _ _ _ => none
  | n + 1 => fun T x1 x2 x3 x4 => m_X11_tell_h32 (m_X11_tell_l32 n) T x1 x2 x3 x4
def m_X11_tell (T : TT) (x1 : Int32) : Option (Int32 × TT) := (m_X11_many T).bind (fun z1 => (m_X11_in (x1.toInt64) (-1 : Int64) ((z1 - (1 : Int32)).toInt64)).bind (fun z2 => if z2 = 0 then ((m_X11_bad T (-10 : Int32)).bind (fun z3 => some (z3.1, z3.2))) else (m_X11_tell_l32 FU T x1 (1 : Int32) (-1 : Int32) (0 : Int32))))
set_option maxHeartbeats 4000000 in
set_option maxRecDepth 100000 in
theorem k_X11_tell_b120 {B : KB} {X : KE} {rec55 : TT → Int32 → Int32 → Int32 → Int32 → Option (Int32 × TT)} {res : Int32 × TT} (C : Cx B X "GriefEngineModel" cX11_tell 7 4) (E : Cr B X (some .int) (some (.int res.1)) res.2) (hrec55 : ∀ (T : TT) (x1 : Int32) (x2 : Int32) (x3 : Int32) (x4 : Int32), rec55 T x1 x2 x3 x4 = some res → Wk B X 7 T 55 [(0, .ref (B.1 10 0)), (1, .int x1), (2, .int x2), (3, .int x3), (4, .int x4)] []) (T : TT) (x1 : Int32) (x2 : Int32) (x4 : Int32) (s0 : Int32) (h : m_X11_tell_b120 rec55 T x1 x2 x4 s0 = some res) : Wk B X 7 T 120 [(0, .ref (B.1 10 0)), (1, .int x1), (2, .int x2), (4, .int x4)] [.int s0] := by
  unfold m_X11_tell_b120 at h
  refine k_istore_n (pc := 120) C [(3, .int s0), (0, .ref (B.1 10 0)), (1, .int x1), (2, .int x2), (4, .int x4)] dX11_tell_120 (by decide) rfl ?_
  refine k_iincN (pc := 121) (x := x4) (c := (1 : Int32)) C (fun y18 => [(4, .int y18), (3, .int s0), (0, .ref (B.1 10 0)), (1, .int x1), (2, .int x2)]) dX11_tell_121 4 rfl ciconst_1 (by decide) (fun _ => rfl) h (fun y18 h => ?_)
  refine k_goto (pc := 124) C 55 dX11_tell_124 (by decide) ?_
  refine k_sub [2, 3, 4, 1, 0] rfl ?_
  exact hrec55 T x1 x2 s0 y18 h
set_option maxHeartbeats 4000000 in
set_option maxRecDepth 100000 in
theorem k_X11_tell_b108 {B : KB} {X : KE} {rec55 : TT → Int32 → Int32 → Int32 → Int32 → Option (Int32 × TT)} {res : Int32 × TT} (C : Cx B X "GriefEngineModel" cX11_tell 7 4) (E : Cr B X (some .int) (some (.int res.1)) res.2) (hrec55 : ∀ (T : TT) (x1 : Int32) (x2 : Int32) (x3 : Int32) (x4 : Int32), rec55 T x1 x2 x3 x4 = some res → Wk B X 7 T 55 [(0, .ref (B.1 10 0)), (1, .int x1), (2, .int x2), (3, .int x3), (4, .int x4)] []) (T : TT) (x1 : Int32) (x2 : Int32) (x3 : Int32) (x4 : Int32) (x5 : Int32) (h : m_X11_tell_b108 rec55 T x1 x2 x3 x4 x5 = some res) : Wk B X 7 T 108 [(0, .ref (B.1 10 0)), (1, .int x1), (2, .int x2), (3, .int x3), (4, .int x4), (5, .int x5)] [] := by
  unfold m_X11_tell_b108 at h
  refine k_iload (pc := 108) C dX11_tell_108 5 rfl ?_
  refine k_iload_n (pc := 110) C dX11_tell_110 3 rfl ?_
  refine k_icmp_le (pc := 111) C 119 dX11_tell_111 (by decide) h (fun c17 h => ?_) (fun c17 h => ?_)
  · refine k_iload_n (pc := 119) C dX11_tell_119 3 rfl ?_
    refine k_sub [0, 1, 2, 4] rfl ?_
    exact k_X11_tell_b120 C E hrec55 T x1 x2 x4 x3 h
  · refine k_iload (pc := 114) C dX11_tell_114 5 rfl ?_
    refine k_goto (pc := 116) C 120 dX11_tell_116 (by decide) ?_
    refine k_sub [0, 1, 2, 4] rfl ?_
    exact k_X11_tell_b120 C E hrec55 T x1 x2 x4 x5 h
set_option maxHeartbeats 4000000 in
set_option maxRecDepth 100000 in
theorem k_X11_tell_h73 {B : KB} {X : KE} {rec55 : TT → Int32 → Int32 → Int32 → Int32 → Option (Int32 × TT)} {rec73 : TT → Int32 → Int32 → Int32 → Int32 → Int32 → Int32 → Option (Int32 × TT)} {res : Int32 × TT} (C : Cx B X "GriefEngineModel" cX11_tell 7 4) (E : Cr B X (some .int) (some (.int res.1)) res.2) (hrec55 : ∀ (T : TT) (x1 : Int32) (x2 : Int32) (x3 : Int32) (x4 : Int32), rec55 T x1 x2 x3 x4 = some res → Wk B X 7 T 55 [(0, .ref (B.1 10 0)), (1, .int x1), (2, .int x2), (3, .int x3), (4, .int x4)] []) (hrec73 : ∀ (T : TT) (x1 : Int32) (x2 : Int32) (x3 : Int32) (x4 : Int32) (x5 : Int32) (x6 : Int32), rec73 T x1 x2 x3 x4 x5 x6 = some res → Wk B X 7 T 73 [(0, .ref (B.1 10 0)), (1, .int x1), (2, .int x2), (3, .int x3), (4, .int x4), (5, .int x5), (6, .int x6)] []) (T : TT) (x1 : Int32) (x2 : Int32) (x3 : Int32) (x4 : Int32) (x5 : Int32) (x6 : Int32) (h : m_X11_tell_h73 rec55 rec73 T x1 x2 x3 x4 x5 x6 = some res) : Wk B X 7 T 73 [(0, .ref (B.1 10 0)), (1, .int x1), (2, .int x2), (3, .int x3), (4, .int x4), (5, .int x5), (6, .int x6)] [] := by
  unfold m_X11_tell_h73 at h
  refine k_iload (pc := 73) C dX11_tell_73 6 rfl ?_
  refine k_aload_n (pc := 75) C dX11_tell_75 0 rfl ?_
  obtain ⟨z12, e12, h⟩ := bnd h
  refine k_callvI (pc := 76) C lk_X11_49 (by decide) ix_X11 wo_X11 rfl rfl (kc_X11_many e12) dX11_tell_76 rfl rfl (Nat.le_of_ble_eq_true rfl) ?_
  refine k_icmp_ge (pc := 79) C 108 dX11_tell_79 (by decide) h (fun c16 h => ?_) (fun c16 h => ?_)
  · refine k_sub [0, 1, 2, 3, 4, 5] rfl ?_
    exact k_X11_tell_b108 C E hrec55 T x1 x2 x3 x4 x5 h
  · refine k_iload (pc := 82) C dX11_tell_82 5 rfl ?_
    refine k_iload_n (pc := 84) C dX11_tell_84 3 rfl ?_
    refine k_icmp_le (pc := 85) C 108 dX11_tell_85 (by decide) h (fun c15 h => ?_) (fun c15 h => ?_)
    · refine k_sub [0, 1, 2, 3, 4, 5] rfl ?_
      exact k_X11_tell_b108 C E hrec55 T x1 x2 x3 x4 x5 h
    · refine k_aload_n (pc := 88) C dX11_tell_88 0 rfl ?_
      refine gf_X11_30 (pc := 89) C dX11_tell_89 ?_
      refine k_iload (pc := 92) C dX11_tell_92 6 rfl ?_
      refine k_aload_n (pc := 94) C dX11_tell_94 0 rfl ?_
      refine gf_X11_27 (pc := 95) C dX11_tell_95 ?_
      refine k_iload (pc := 98) C dX11_tell_98 6 rfl ?_
      refine k_iald (pc := 100) C ia_10_5 dX11_tell_100 h (fun h => ?_)
      refine k_iast (pc := 101) C ia_10_6 dX11_tell_101 h (fun h => ?_)
      refine k_nT h (fun T13 h => ?_)
      refine k_iincN (pc := 102) (x := x6) (c := (1 : Int32)) C (fun y14 => [(6, .int y14), (0, .ref (B.1 10 0)), (1, .int x1), (2, .int x2), (3, .int x3), (4, .int x4), (5, .int x5)]) dX11_tell_102 6 rfl ciconst_1 (by decide) (fun _ => rfl) h (fun y14 h => ?_)
      refine k_goto (pc := 105) C 73 dX11_tell_105 (by decide) ?_
      refine k_sub [1, 2, 3, 4, 5, 6, 0] rfl ?_
      exact hrec73 T13 x1 x2 x3 x4 x5 y14 h
set_option maxHeartbeats 4000000 in
set_option maxRecDepth 100000 in
theorem k_X11_tell_l73 {B : KB} {X : KE} {rec55 : TT → Int32 → Int32 → Int32 → Int32 → Option (Int32 × TT)} {res : Int32 × TT} (C : Cx B X "GriefEngineModel" cX11_tell 7 4) (E : Cr B X (some .int) (some (.int res.1)) res.2) (hrec55 : ∀ (T : TT) (x1 : Int32) (x2 : Int32) (x3 : Int32) (x4 : Int32), rec55 T x1 x2 x3 x4 = some res → Wk B X 7 T 55 [(0, .ref (B.1 10 0)), (1, .int x1), (2, .int x2), (3, .int x3), (4, .int x4)] []) : ∀ (n : Nat) (T : TT) (x1 : Int32) (x2 : Int32) (x3 : Int32) (x4 : Int32) (x5 : Int32) (x6 : Int32) (h : m_X11_tell_l73 rec55 n T x1 x2 x3 x4 x5 x6 = some res), Wk B X 7 T 73 [(0, .ref (B.1 10 0)), (1, .int x1), (2, .int x2), (3, .int x3), (4, .int x4), (5, .int x5), (6, .int x6)] [] := by
  intro n
  induction n with
  | zero =>
    intro T x1 x2 x3 x4 x5 x6 h
    exact no_some h
  | succ n ih =>
    intro T x1 x2 x3 x4 x5 x6 h
    exact k_X11_tell_h73 C E hrec55 (fun T x1 x2 x3 x4 x5 x6 h => ih T x1 x2 x3 x4 x5 x6 h) T x1 x2 x3 x4 x5 x6 h
set_option maxHeartbeats 4000000 in
set_option maxRecDepth 100000 in
theorem k_X11_tell_h55 {B : KB} {X : KE} {rec55 : TT → Int32 → Int32 → Int32 → Int32 → Option (Int32 × TT)} {res : Int32 × TT} (C : Cx B X "GriefEngineModel" cX11_tell 7 4) (E : Cr B X (some .int) (some (.int res.1)) res.2) (hrec55 : ∀ (T : TT) (x1 : Int32) (x2 : Int32) (x3 : Int32) (x4 : Int32), rec55 T x1 x2 x3 x4 = some res → Wk B X 7 T 55 [(0, .ref (B.1 10 0)), (1, .int x1), (2, .int x2), (3, .int x3), (4, .int x4)] []) (T : TT) (x1 : Int32) (x2 : Int32) (x3 : Int32) (x4 : Int32) (h : m_X11_tell_h55 rec55 T x1 x2 x3 x4 = some res) : Wk B X 7 T 55 [(0, .ref (B.1 10 0)), (1, .int x1), (2, .int x2), (3, .int x3), (4, .int x4)] [] := by
  unfold m_X11_tell_h55 at h
  refine k_iload (pc := 55) C dX11_tell_55 4 rfl ?_
  refine k_iload_n (pc := 57) C dX11_tell_57 2 rfl ?_
  refine k_icmp_ge (pc := 58) C 127 dX11_tell_58 (by decide) h (fun c11 h => ?_) (fun c11 h => ?_)
  · refine k_iload_n (pc := 127) C dX11_tell_127 1 rfl ?_
    refine k_iconst (pc := 128) (v := (-1 : Int32)) C dX11_tell_128 ciconst_m1 ?_
    refine k_icmp_ne (pc := 129) C 136 dX11_tell_129 (by decide) h (fun c9 h => ?_) (fun c9 h => ?_)
    · refine k_aload_n (pc := 136) C dX11_tell_136 0 rfl ?_
      refine gf_X11_30 (pc := 137) C dX11_tell_137 ?_
      refine k_iload_n (pc := 140) C dX11_tell_140 1 rfl ?_
      refine k_iald (pc := 141) C ia_10_6 dX11_tell_141 h (fun h => ?_)
      exact k_iret (pc := 142) C E (some_1 h) (some_2 h) dX11_tell_142
    · refine k_iload_n (pc := 132) C dX11_tell_132 3 rfl ?_
      refine k_goto (pc := 133) C 142 dX11_tell_133 (by decide) ?_
      exact k_iret (pc := 142) C E (some_1 h) (some_2 h) dX11_tell_142
  · refine k_aload_n (pc := 61) C dX11_tell_61 0 rfl ?_
    refine k_iload (pc := 62) C dX11_tell_62 4 rfl ?_
    refine k_iload_n (pc := 64) C dX11_tell_64 2 rfl ?_
    obtain ⟨z10, e10, h⟩ := bnd h
    refine k_callvI (pc := 65) C lk_X11_151 (by decide) ix_X11 wo_X11 rfl rfl (kc_X11_pairsBy e10) dX11_tell_65 rfl rfl (Nat.le_of_ble_eq_true rfl) ?_
    refine k_istore (pc := 68) C [(5, .int z10.1), (0, .ref (B.1 10 0)), (1, .int x1), (2, .int x2), (3, .int x3), (4, .int x4)] dX11_tell_68 (by decide) rfl ?_
    refine k_iconst (pc := 70) (v := (0 : Int32)) C dX11_tell_70 ciconst_0 ?_
    refine k_istore (pc := 71) C [(6, .int (0 : Int32)), (5, .int z10.1), (0, .ref (B.1 10 0)), (1, .int x1), (2, .int x2), (3, .int x3), (4, .int x4)] dX11_tell_71 (by decide) rfl ?_
    refine k_sub [2, 3, 4, 5, 6, 1, 0] rfl ?_
    exact k_X11_tell_l73 C E hrec55 FU z10.2 x1 x2 x3 x4 z10.1 (0 : Int32) h
set_option maxHeartbeats 4000000 in
set_option maxRecDepth 100000 in
theorem k_X11_tell_l55 {B : KB} {X : KE} {res : Int32 × TT} (C : Cx B X "GriefEngineModel" cX11_tell 7 4) (E : Cr B X (some .int) (some (.int res.1)) res.2) : ∀ (n : Nat) (T : TT) (x1 : Int32) (x2 : Int32) (x3 : Int32) (x4 : Int32) (h : m_X11_tell_l55 n T x1 x2 x3 x4 = some res), Wk B X 7 T 55 [(0, .ref (B.1 10 0)), (1, .int x1), (2, .int x2), (3, .int x3), (4, .int x4)] [] := by
  intro n
  induction n with
  | zero =>
    intro T x1 x2 x3 x4 h
    exact no_some h
  | succ n ih =>
    intro T x1 x2 x3 x4 h
    exact k_X11_tell_h55 C E (fun T x1 x2 x3 x4 h => ih T x1 x2 x3 x4 h) T x1 x2 x3 x4 h
set_option maxHeartbeats 4000000 in
set_option maxRecDepth 100000 in
theorem k_X11_tell_h32 {B : KB} {X : KE} {rec32 : TT → Int32 → Int32 → Int32 → Int32 → Option (Int32 × TT)} {res : Int32 × TT} (C : Cx B X "GriefEngineModel" cX11_tell 7 4) (E : Cr B X (some .int) (some (.int res.1)) res.2) (hrec32 : ∀ (T : TT) (x1 : Int32) (x2 : Int32) (x3 : Int32) (x4 : Int32), rec32 T x1 x2 x3 x4 = some res → Wk B X 7 T 32 [(0, .ref (B.1 10 0)), (1, .int x1), (2, .int x2), (3, .int x3), (4, .int x4)] []) (T : TT) (x1 : Int32) (x2 : Int32) (x3 : Int32) (x4 : Int32) (h : m_X11_tell_h32 rec32 T x1 x2 x3 x4 = some res) : Wk B X 7 T 32 [(0, .ref (B.1 10 0)), (1, .int x1), (2, .int x2), (3, .int x3), (4, .int x4)] [] := by
  unfold m_X11_tell_h32 at h
  refine k_iload (pc := 32) C dX11_tell_32 4 rfl ?_
  refine k_aload_n (pc := 34) C dX11_tell_34 0 rfl ?_
  obtain ⟨z5, e5, h⟩ := bnd h
  refine k_callvI (pc := 35) C lk_X11_49 (by decide) ix_X11 wo_X11 rfl rfl (kc_X11_many e5) dX11_tell_35 rfl rfl (Nat.le_of_ble_eq_true rfl) ?_
  refine k_icmp_ge (pc := 38) C 52 dX11_tell_38 (by decide) h (fun c8 h => ?_) (fun c8 h => ?_)
  · refine k_iconst (pc := 52) (v := (0 : Int32)) C dX11_tell_52 ciconst_0 ?_
    refine k_istore (pc := 53) C [(4, .int (0 : Int32)), (0, .ref (B.1 10 0)), (1, .int x1), (2, .int x2), (3, .int x3)] dX11_tell_53 (by decide) rfl ?_
    refine k_sub [1, 2, 3, 4, 0] rfl ?_
    exact k_X11_tell_l55 C E FU T x1 x2 x3 (0 : Int32) h
  · refine k_iload_n (pc := 41) C dX11_tell_41 2 rfl ?_
    refine k_bipush (pc := 42) (v := (7 : Int32)) C dX11_tell_42 cbipush_7 ?_
    refine k_imul (pc := 44) C dX11_tell_44 ?_
    refine k_nI h (fun y6 h => ?_)
    refine k_istore_n (pc := 45) C [(2, .int y6), (0, .ref (B.1 10 0)), (1, .int x1), (3, .int x3), (4, .int x4)] dX11_tell_45 (by decide) rfl ?_
    refine k_iincN (pc := 46) (x := x4) (c := (1 : Int32)) C (fun y7 => [(4, .int y7), (2, .int y6), (0, .ref (B.1 10 0)), (1, .int x1), (3, .int x3)]) dX11_tell_46 4 rfl ciconst_1 (by decide) (fun _ => rfl) h (fun y7 h => ?_)
    refine k_goto (pc := 49) C 32 dX11_tell_49 (by decide) ?_
    refine k_sub [2, 3, 1, 4, 0] rfl ?_
    exact hrec32 T x1 y6 x3 y7 h
set_option maxHeartbeats 4000000 in
set_option maxRecDepth 100000 in
theorem k_X11_tell_l32 {B : KB} {X : KE} {res : Int32 × TT} (C : Cx B X "GriefEngineModel" cX11_tell 7 4) (E : Cr B X (some .int) (some (.int res.1)) res.2) : ∀ (n : Nat) (T : TT) (x1 : Int32) (x2 : Int32) (x3 : Int32) (x4 : Int32) (h : m_X11_tell_l32 n T x1 x2 x3 x4 = some res), Wk B X 7 T 32 [(0, .ref (B.1 10 0)), (1, .int x1), (2, .int x2), (3, .int x3), (4, .int x4)] [] := by
  intro n
  induction n with
  | zero =>
    intro T x1 x2 x3 x4 h
    exact no_some h
  | succ n ih =>
    intro T x1 x2 x3 x4 h
    exact k_X11_tell_h32 C E (fun T x1 x2 x3 x4 h => ih T x1 x2 x3 x4 h) T x1 x2 x3 x4 h
set_option maxHeartbeats 4000000 in
set_option maxRecDepth 100000 in
theorem kc_X11_tell {B : KB} {l : Launch} {T : TT} {x1 : Int32} {res : Int32 × TT} (h : m_X11_tell T x1 = some res) : Kt B l 4 yX11_tell cX11_tell 7 (some .int) T [.ref (B.1 10 0), .int x1] (some (.int res.1)) res.2 := by
  refine Kt.of (by decide) (Nat.le_of_ble_eq_true rfl) (fun X hX C E => ?_)
  subst hX
  have C : Cx B X "GriefEngineModel" cX11_tell 7 4 := C
  show Wk B X 7 T 0 [(0, .ref (B.1 10 0)), (1, .int x1)] []
  unfold m_X11_tell at h
  refine k_iload_n (pc := 0) C dX11_tell_0 1 rfl ?_
  refine k_i2l (pc := 1) C dX11_tell_1 ?_
  refine k_ldc2_w (pc := 2) (v := (-1 : Int64)) C dX11_tell_2 tw4_212 ?_
  refine k_aload_n (pc := 5) C dX11_tell_5 0 rfl ?_
  obtain ⟨z1, e1, h⟩ := bnd h
  refine k_callvI (pc := 6) C lk_X11_49 (by decide) ix_X11 wo_X11 rfl rfl (kc_X11_many e1) dX11_tell_6 rfl rfl (Nat.le_of_ble_eq_true rfl) ?_
  refine k_iconst (pc := 9) (v := (1 : Int32)) C dX11_tell_9 ciconst_1 ?_
  refine k_isub (pc := 10) C dX11_tell_10 ?_
  refine k_i2l (pc := 11) C dX11_tell_11 ?_
  obtain ⟨z2, e2, h⟩ := bnd h
  refine k_callsI (pc := 12) C lk_X11_53 (by decide) (kc_X11_in e2) dX11_tell_12 rfl rfl (Nat.le_of_ble_eq_true rfl) ?_
  refine k_if_ne (pc := 15) C 25 dX11_tell_15 (by decide) h (fun c4 h => ?_) (fun c4 h => ?_)
  · refine k_iconst (pc := 25) (v := (1 : Int32)) C dX11_tell_25 ciconst_1 ?_
    refine k_istore_n (pc := 26) C [(2, .int (1 : Int32)), (0, .ref (B.1 10 0)), (1, .int x1)] dX11_tell_26 (by decide) rfl ?_
    refine k_iconst (pc := 27) (v := (-1 : Int32)) C dX11_tell_27 ciconst_m1 ?_
    refine k_istore_n (pc := 28) C [(3, .int (-1 : Int32)), (2, .int (1 : Int32)), (0, .ref (B.1 10 0)), (1, .int x1)] dX11_tell_28 (by decide) rfl ?_
    refine k_iconst (pc := 29) (v := (0 : Int32)) C dX11_tell_29 ciconst_0 ?_
    refine k_istore (pc := 30) C [(4, .int (0 : Int32)), (3, .int (-1 : Int32)), (2, .int (1 : Int32)), (0, .ref (B.1 10 0)), (1, .int x1)] dX11_tell_30 (by decide) rfl ?_
    refine k_sub [3, 4, 2, 1, 0] rfl ?_
    exact k_X11_tell_l32 C E FU T x1 (1 : Int32) (-1 : Int32) (0 : Int32) h
  · refine k_aload_n (pc := 18) C dX11_tell_18 0 rfl ?_
    refine k_bipush (pc := 19) (v := (-10 : Int32)) C dX11_tell_19 cbipush_m10 ?_
    obtain ⟨z3, e3, h⟩ := bnd h
    refine k_callvI (pc := 21) C lk_X11_63 (by decide) ix_X11 wo_X11 rfl rfl (kc_X11_bad e3) dX11_tell_21 rfl rfl (Nat.le_of_ble_eq_true rfl) ?_
    exact k_iret (pc := 24) C E (some_1 h) (some_2 h) dX11_tell_24
def m_X11_note_b66 (T : TT) : Option (Int32 × TT) := (m_X11_bad T (-2 : Int32)).bind (fun z23 => some (z23.1, z23.2))
def m_X11_note (T : TT) (x1 : Int32) (x2 : Int32) (x3 : Int32) (x4 : Int32) (x5 : Int32) (x6 : Int32) : Option (Int32 × TT) := (m_X11_isDriver T x1).bind (fun z1 => if z1 = 0 then (m_X11_note_b66 T) else ((m_X11_in (x2.toInt64) (0 : Int64) (99 : Int64)).bind (fun z2 => if z2 = 0 then (m_X11_note_b66 T) else ((m_X11_in (x3.toInt64) (0 : Int64) (3 : Int64)).bind (fun z3 => if z3 = 0 then (m_X11_note_b66 T) else ((m_X11_in (x4.toInt64) (0 : Int64) (200 : Int64)).bind (fun z4 => if z4 = 0 then (m_X11_note_b66 T) else ((m_X11_isChoice x5).bind (fun z5 => if z5 = 0 then (m_X11_note_b66 T) else ((m_X11_in (x6.toInt64) (0 : Int64) (99 : Int64)).bind (fun z6 => if z6 = 0 then (m_X11_note_b66 T) else (if (T.1 10 1 1) = (6 : Int32) then ((m_X11_full T).bind (fun z15 => some (z15.1, z15.2))) else (bT ((23 : Int32) + ((6 : Int32) * (T.1 10 1 1))) (fun y7 => if inb y7 175 then bT (sA T 10 1 (Int32.toNatClampNeg y7) x1) (fun T8 => if inb (y7 + (1 : Int32)) 175 then bT (sA T8 10 1 (Int32.toNatClampNeg (y7 + (1 : Int32))) x2) (fun T9 => if inb (y7 + (2 : Int32)) 175 then bT (sA T9 10 1 (Int32.toNatClampNeg (y7 + (2 : Int32))) x3) (fun T10 => if inb (y7 + (3 : Int32)) 175 then bT (sA T10 10 1 (Int32.toNatClampNeg (y7 + (3 : Int32))) x4) (fun T11 => if inb (y7 + (4 : Int32)) 175 then bT (sA T11 10 1 (Int32.toNatClampNeg (y7 + (4 : Int32))) x5) (fun T12 => if inb (y7 + (5 : Int32)) 175 then bT (sA T12 10 1 (Int32.toNatClampNeg (y7 + (5 : Int32))) x6) (fun T13 => bT (sA T13 10 1 1 ((T13.1 10 1 1) + (1 : Int32))) (fun T14 => some ((T14.1 10 1 1), T14))) else none) else none) else none) else none) else none) else none))))))))))))))
set_option maxHeartbeats 4000000 in
set_option maxRecDepth 100000 in
theorem k_X11_note_b66 {B : KB} {X : KE} {res : Int32 × TT} (C : Cx B X "GriefEngineModel" cX11_note 8 3) (E : Cr B X (some .int) (some (.int res.1)) res.2) (T : TT) (h : m_X11_note_b66 T = some res) : Wk B X 8 T 66 [(0, .ref (B.1 10 0))] [] := by
  unfold m_X11_note_b66 at h
  refine k_aload_n (pc := 66) C dX11_note_66 0 rfl ?_
  refine k_bipush (pc := 67) (v := (-2 : Int32)) C dX11_note_67 cbipush_m2 ?_
  obtain ⟨z23, e23, h⟩ := bnd h
  refine k_callvI (pc := 69) C lk_X11_63 (by decide) ix_X11 wo_X11 rfl rfl (kc_X11_bad e23) dX11_note_69 rfl rfl (Nat.le_of_ble_eq_true rfl) ?_
  exact k_iret (pc := 72) C E (some_1 h) (some_2 h) dX11_note_72
set_option maxHeartbeats 4000000 in
set_option maxRecDepth 100000 in
theorem kc_X11_note {B : KB} {l : Launch} {T : TT} {x1 : Int32} {x2 : Int32} {x3 : Int32} {x4 : Int32} {x5 : Int32} {x6 : Int32} {res : Int32 × TT} (h : m_X11_note T x1 x2 x3 x4 x5 x6 = some res) : Kt B l 3 yX11_note cX11_note 8 (some .int) T [.ref (B.1 10 0), .int x1, .int x2, .int x3, .int x4, .int x5, .int x6] (some (.int res.1)) res.2 := by
  refine Kt.of (by decide) (Nat.le_of_ble_eq_true rfl) (fun X hX C E => ?_)
  subst hX
  have C : Cx B X "GriefEngineModel" cX11_note 8 3 := C
  show Wk B X 8 T 0 [(0, .ref (B.1 10 0)), (1, .int x1), (2, .int x2), (3, .int x3), (4, .int x4), (5, .int x5), (6, .int x6)] []
  unfold m_X11_note at h
  refine k_aload_n (pc := 0) C dX11_note_0 0 rfl ?_
  refine k_iload_n (pc := 1) C dX11_note_1 1 rfl ?_
  obtain ⟨z1, e1, h⟩ := bnd h
  refine k_callvI (pc := 2) C lk_X11_116 (by decide) ix_X11 wo_X11 rfl rfl (kc_X11_isDriver e1) dX11_note_2 rfl rfl (Nat.le_of_ble_eq_true rfl) ?_
  refine k_if_eq (pc := 5) C 66 dX11_note_5 (by decide) h (fun c22 h => ?_) (fun c22 h => ?_)
  · refine k_sub [0] rfl ?_
    exact k_X11_note_b66 C E T h
  · refine k_iload_n (pc := 8) C dX11_note_8 2 rfl ?_
    refine k_i2l (pc := 9) C dX11_note_9 ?_
    refine k_lconst (pc := 10) (v := (0 : Int64)) C dX11_note_10 (by decide) ?_
    refine k_ldc2_w (pc := 11) (v := (99 : Int64)) C dX11_note_11 tw4_138 ?_
    obtain ⟨z2, e2, h⟩ := bnd h
    refine k_callsI (pc := 14) C lk_X11_53 (by decide) (kc_X11_in e2) dX11_note_14 rfl rfl (Nat.le_of_ble_eq_true rfl) ?_
    refine k_if_eq (pc := 17) C 66 dX11_note_17 (by decide) h (fun c21 h => ?_) (fun c21 h => ?_)
    · refine k_sub [0] rfl ?_
      exact k_X11_note_b66 C E T h
    · refine k_iload_n (pc := 20) C dX11_note_20 3 rfl ?_
      refine k_i2l (pc := 21) C dX11_note_21 ?_
      refine k_lconst (pc := 22) (v := (0 : Int64)) C dX11_note_22 (by decide) ?_
      refine k_ldc2_w (pc := 23) (v := (3 : Int64)) C dX11_note_23 tw5_30 ?_
      obtain ⟨z3, e3, h⟩ := bnd h
      refine k_callsI (pc := 26) C lk_X11_53 (by decide) (kc_X11_in e3) dX11_note_26 rfl rfl (Nat.le_of_ble_eq_true rfl) ?_
      refine k_if_eq (pc := 29) C 66 dX11_note_29 (by decide) h (fun c20 h => ?_) (fun c20 h => ?_)
      · refine k_sub [0] rfl ?_
        exact k_X11_note_b66 C E T h
      · refine k_iload (pc := 32) C dX11_note_32 4 rfl ?_
        refine k_i2l (pc := 34) C dX11_note_34 ?_
        refine k_lconst (pc := 35) (v := (0 : Int64)) C dX11_note_35 (by decide) ?_
        refine k_ldc2_w (pc := 36) (v := (200 : Int64)) C dX11_note_36 tw5_31 ?_
        obtain ⟨z4, e4, h⟩ := bnd h
        refine k_callsI (pc := 39) C lk_X11_53 (by decide) (kc_X11_in e4) dX11_note_39 rfl rfl (Nat.le_of_ble_eq_true rfl) ?_
        refine k_if_eq (pc := 42) C 66 dX11_note_42 (by decide) h (fun c19 h => ?_) (fun c19 h => ?_)
        · refine k_sub [0] rfl ?_
          exact k_X11_note_b66 C E T h
        · refine k_iload (pc := 45) C dX11_note_45 5 rfl ?_
          obtain ⟨z5, e5, h⟩ := bnd h
          refine k_callsI (pc := 47) C lk_X11_105 (by decide) (kc_X11_isChoice e5) dX11_note_47 rfl rfl (Nat.le_of_ble_eq_true rfl) ?_
          refine k_if_eq (pc := 50) C 66 dX11_note_50 (by decide) h (fun c18 h => ?_) (fun c18 h => ?_)
          · refine k_sub [0] rfl ?_
            exact k_X11_note_b66 C E T h
          · refine k_iload (pc := 53) C dX11_note_53 6 rfl ?_
            refine k_i2l (pc := 55) C dX11_note_55 ?_
            refine k_lconst (pc := 56) (v := (0 : Int64)) C dX11_note_56 (by decide) ?_
            refine k_ldc2_w (pc := 57) (v := (99 : Int64)) C dX11_note_57 tw4_138 ?_
            obtain ⟨z6, e6, h⟩ := bnd h
            refine k_callsI (pc := 60) C lk_X11_53 (by decide) (kc_X11_in e6) dX11_note_60 rfl rfl (Nat.le_of_ble_eq_true rfl) ?_
            refine k_if_ne (pc := 63) C 73 dX11_note_63 (by decide) h (fun c17 h => ?_) (fun c17 h => ?_)
            · refine k_aload_n (pc := 73) C dX11_note_73 0 rfl ?_
              refine gf_X11_7 (pc := 74) C dX11_note_74 ?_
              refine k_iconst (pc := 77) (v := (1 : Int32)) C dX11_note_77 ciconst_1 ?_
              refine k_ialdc (pc := 78) C ia_10_1 1 dX11_note_78 (by decide) (by decide) ?_
              refine k_bipush (pc := 79) (v := (6 : Int32)) C dX11_note_79 cbipush_6 ?_
              refine k_icmp_ne (pc := 81) C 89 dX11_note_81 (by decide) h (fun c16 h => ?_) (fun c16 h => ?_)
              · refine k_bipush (pc := 89) (v := (23 : Int32)) C dX11_note_89 cbipush_23 ?_
                refine k_bipush (pc := 91) (v := (6 : Int32)) C dX11_note_91 cbipush_6 ?_
                refine k_aload_n (pc := 93) C dX11_note_93 0 rfl ?_
                refine gf_X11_7 (pc := 94) C dX11_note_94 ?_
                refine k_iconst (pc := 97) (v := (1 : Int32)) C dX11_note_97 ciconst_1 ?_
                refine k_ialdc (pc := 98) C ia_10_1 1 dX11_note_98 (by decide) (by decide) ?_
                refine k_imul (pc := 99) C dX11_note_99 ?_
                refine k_iadd (pc := 100) C dX11_note_100 ?_
                refine k_nI h (fun y7 h => ?_)
                refine k_istore (pc := 101) C [(7, .int y7), (0, .ref (B.1 10 0)), (1, .int x1), (2, .int x2), (3, .int x3), (4, .int x4), (5, .int x5), (6, .int x6)] dX11_note_101 (by decide) rfl ?_
                refine k_aload_n (pc := 103) C dX11_note_103 1 rfl ?_
                refine gf_X11_7 (pc := 104) C dX11_note_104 ?_
                refine k_iload (pc := 107) C dX11_note_107 0 rfl ?_
                refine k_iload_n (pc := 109) C dX11_note_109 2 rfl ?_
                refine k_iast (pc := 110) C ia_10_1 dX11_note_110 h (fun h => ?_)
                refine k_nT h (fun T8 h => ?_)
                refine k_aload_n (pc := 111) C dX11_note_111 1 rfl ?_
                refine gf_X11_7 (pc := 112) C dX11_note_112 ?_
                refine k_iload (pc := 115) C dX11_note_115 0 rfl ?_
                refine k_iconst (pc := 117) (v := (1 : Int32)) C dX11_note_117 ciconst_1 ?_
                refine k_iadd (pc := 118) C dX11_note_118 ?_
                refine k_iload_n (pc := 119) C dX11_note_119 3 rfl ?_
                refine k_iast (pc := 120) C ia_10_1 dX11_note_120 h (fun h => ?_)
                refine k_nT h (fun T9 h => ?_)
                refine k_aload_n (pc := 121) C dX11_note_121 1 rfl ?_
                refine gf_X11_7 (pc := 122) C dX11_note_122 ?_
                refine k_iload (pc := 125) C dX11_note_125 0 rfl ?_
                refine k_iconst (pc := 127) (v := (2 : Int32)) C dX11_note_127 ciconst_2 ?_
                refine k_iadd (pc := 128) C dX11_note_128 ?_
                refine k_iload_n (pc := 129) C dX11_note_129 4 rfl ?_
                refine k_iast (pc := 130) C ia_10_1 dX11_note_130 h (fun h => ?_)
                refine k_nT h (fun T10 h => ?_)
                refine k_aload_n (pc := 131) C dX11_note_131 1 rfl ?_
                refine gf_X11_7 (pc := 132) C dX11_note_132 ?_
                refine k_iload (pc := 135) C dX11_note_135 0 rfl ?_
                refine k_iconst (pc := 137) (v := (3 : Int32)) C dX11_note_137 ciconst_3 ?_
                refine k_iadd (pc := 138) C dX11_note_138 ?_
                refine k_iload (pc := 139) C dX11_note_139 5 rfl ?_
                refine k_iast (pc := 141) C ia_10_1 dX11_note_141 h (fun h => ?_)
                refine k_nT h (fun T11 h => ?_)
                refine k_aload_n (pc := 142) C dX11_note_142 1 rfl ?_
                refine gf_X11_7 (pc := 143) C dX11_note_143 ?_
                refine k_iload (pc := 146) C dX11_note_146 0 rfl ?_
                refine k_iconst (pc := 148) (v := (4 : Int32)) C dX11_note_148 ciconst_4 ?_
                refine k_iadd (pc := 149) C dX11_note_149 ?_
                refine k_iload (pc := 150) C dX11_note_150 6 rfl ?_
                refine k_iast (pc := 152) C ia_10_1 dX11_note_152 h (fun h => ?_)
                refine k_nT h (fun T12 h => ?_)
                refine k_aload_n (pc := 153) C dX11_note_153 1 rfl ?_
                refine gf_X11_7 (pc := 154) C dX11_note_154 ?_
                refine k_iload (pc := 157) C dX11_note_157 0 rfl ?_
                refine k_iconst (pc := 159) (v := (5 : Int32)) C dX11_note_159 ciconst_5 ?_
                refine k_iadd (pc := 160) C dX11_note_160 ?_
                refine k_iload (pc := 161) C dX11_note_161 7 rfl ?_
                refine k_iast (pc := 163) C ia_10_1 dX11_note_163 h (fun h => ?_)
                refine k_nT h (fun T13 h => ?_)
                refine k_aload_n (pc := 164) C dX11_note_164 1 rfl ?_
                refine gf_X11_7 (pc := 165) C dX11_note_165 ?_
                refine k_iconst (pc := 168) (v := (1 : Int32)) C dX11_note_168 ciconst_1 ?_
                refine k_dup2 (pc := 169) C dX11_note_169 rfl rfl ?_
                refine k_ialdc (pc := 170) C ia_10_1 1 dX11_note_170 (by decide) (by decide) ?_
                refine k_iconst (pc := 171) (v := (1 : Int32)) C dX11_note_171 ciconst_1 ?_
                refine k_iadd (pc := 172) C dX11_note_172 ?_
                refine k_iastc (pc := 173) C ia_10_1 1 dX11_note_173 (by decide) (by decide) ?_
                refine k_nT h (fun T14 h => ?_)
                refine k_aload_n (pc := 174) C dX11_note_174 1 rfl ?_
                refine gf_X11_7 (pc := 175) C dX11_note_175 ?_
                refine k_iconst (pc := 178) (v := (1 : Int32)) C dX11_note_178 ciconst_1 ?_
                refine k_ialdc (pc := 179) C ia_10_1 1 dX11_note_179 (by decide) (by decide) ?_
                exact k_iret (pc := 180) C E (some_1 h) (some_2 h) dX11_note_180
              · refine k_aload_n (pc := 84) C dX11_note_84 0 rfl ?_
                obtain ⟨z15, e15, h⟩ := bnd h
                refine k_callvI (pc := 85) C lk_X11_67 (by decide) ix_X11 wo_X11 rfl rfl (kc_X11_full e15) dX11_note_85 rfl rfl (Nat.le_of_ble_eq_true rfl) ?_
                exact k_iret (pc := 88) C E (some_1 h) (some_2 h) dX11_note_88
            · refine k_sub [0] rfl ?_
              exact k_X11_note_b66 C E T h
def m_X11_gone_b32 (T : TT) : Option (Int32 × TT) := (m_X11_bad T (-2 : Int32)).bind (fun z14 => some (z14.1, z14.2))
def m_X11_gone (T : TT) (x1 : Int32) (x2 : Int32) (x3 : Int32) : Option (Int32 × TT) := (m_X11_isDriver T x1).bind (fun z1 => if z1 = 0 then (m_X11_gone_b32 T) else ((m_X11_in (x2.toInt64) (1 : Int64) (30 : Int64)).bind (fun z2 => if z2 = 0 then (m_X11_gone_b32 T) else ((m_X11_in (x3.toInt64) (0 : Int64) (6000 : Int64)).bind (fun z3 => if z3 = 0 then (m_X11_gone_b32 T) else (if (T.1 10 1 2) = (4 : Int32) then ((m_X11_full T).bind (fun z9 => some (z9.1, z9.2))) else (bT ((59 : Int32) + ((3 : Int32) * (T.1 10 1 2))) (fun y4 => if inb y4 175 then bT (sA T 10 1 (Int32.toNatClampNeg y4) x1) (fun T5 => if inb (y4 + (1 : Int32)) 175 then bT (sA T5 10 1 (Int32.toNatClampNeg (y4 + (1 : Int32))) x2) (fun T6 => if inb (y4 + (2 : Int32)) 175 then bT (sA T6 10 1 (Int32.toNatClampNeg (y4 + (2 : Int32))) x3) (fun T7 => bT (sA T7 10 1 2 ((T7.1 10 1 2) + (1 : Int32))) (fun T8 => some ((T8.1 10 1 2), T8))) else none) else none) else none))))))))
set_option maxHeartbeats 4000000 in
set_option maxRecDepth 100000 in
theorem k_X11_gone_b32 {B : KB} {X : KE} {res : Int32 × TT} (C : Cx B X "GriefEngineModel" cX11_gone 5 3) (E : Cr B X (some .int) (some (.int res.1)) res.2) (T : TT) (h : m_X11_gone_b32 T = some res) : Wk B X 5 T 32 [(0, .ref (B.1 10 0))] [] := by
  unfold m_X11_gone_b32 at h
  refine k_aload_n (pc := 32) C dX11_gone_32 0 rfl ?_
  refine k_bipush (pc := 33) (v := (-2 : Int32)) C dX11_gone_33 cbipush_m2 ?_
  obtain ⟨z14, e14, h⟩ := bnd h
  refine k_callvI (pc := 35) C lk_X11_63 (by decide) ix_X11 wo_X11 rfl rfl (kc_X11_bad e14) dX11_gone_35 rfl rfl (Nat.le_of_ble_eq_true rfl) ?_
  exact k_iret (pc := 38) C E (some_1 h) (some_2 h) dX11_gone_38
set_option maxHeartbeats 4000000 in
set_option maxRecDepth 100000 in
theorem kc_X11_gone {B : KB} {l : Launch} {T : TT} {x1 : Int32} {x2 : Int32} {x3 : Int32} {res : Int32 × TT} (h : m_X11_gone T x1 x2 x3 = some res) : Kt B l 3 yX11_gone cX11_gone 5 (some .int) T [.ref (B.1 10 0), .int x1, .int x2, .int x3] (some (.int res.1)) res.2 := by
  refine Kt.of (by decide) (Nat.le_of_ble_eq_true rfl) (fun X hX C E => ?_)
  subst hX
  have C : Cx B X "GriefEngineModel" cX11_gone 5 3 := C
  show Wk B X 5 T 0 [(0, .ref (B.1 10 0)), (1, .int x1), (2, .int x2), (3, .int x3)] []
  unfold m_X11_gone at h
  refine k_aload_n (pc := 0) C dX11_gone_0 0 rfl ?_
  refine k_iload_n (pc := 1) C dX11_gone_1 1 rfl ?_
  obtain ⟨z1, e1, h⟩ := bnd h
  refine k_callvI (pc := 2) C lk_X11_116 (by decide) ix_X11 wo_X11 rfl rfl (kc_X11_isDriver e1) dX11_gone_2 rfl rfl (Nat.le_of_ble_eq_true rfl) ?_
  refine k_if_eq (pc := 5) C 32 dX11_gone_5 (by decide) h (fun c13 h => ?_) (fun c13 h => ?_)
  · refine k_sub [0] rfl ?_
    exact k_X11_gone_b32 C E T h
  · refine k_iload_n (pc := 8) C dX11_gone_8 2 rfl ?_
    refine k_i2l (pc := 9) C dX11_gone_9 ?_
    refine k_lconst (pc := 10) (v := (1 : Int64)) C dX11_gone_10 (by decide) ?_
    refine k_ldc2_w (pc := 11) (v := (30 : Int64)) C dX11_gone_11 tw5_36 ?_
    obtain ⟨z2, e2, h⟩ := bnd h
    refine k_callsI (pc := 14) C lk_X11_53 (by decide) (kc_X11_in e2) dX11_gone_14 rfl rfl (Nat.le_of_ble_eq_true rfl) ?_
    refine k_if_eq (pc := 17) C 32 dX11_gone_17 (by decide) h (fun c12 h => ?_) (fun c12 h => ?_)
    · refine k_sub [0] rfl ?_
      exact k_X11_gone_b32 C E T h
    · refine k_iload_n (pc := 20) C dX11_gone_20 3 rfl ?_
      refine k_i2l (pc := 21) C dX11_gone_21 ?_
      refine k_lconst (pc := 22) (v := (0 : Int64)) C dX11_gone_22 (by decide) ?_
      refine k_ldc2_w (pc := 23) (v := (6000 : Int64)) C dX11_gone_23 tw5_37 ?_
      obtain ⟨z3, e3, h⟩ := bnd h
      refine k_callsI (pc := 26) C lk_X11_53 (by decide) (kc_X11_in e3) dX11_gone_26 rfl rfl (Nat.le_of_ble_eq_true rfl) ?_
      refine k_if_ne (pc := 29) C 39 dX11_gone_29 (by decide) h (fun c11 h => ?_) (fun c11 h => ?_)
      · refine k_aload_n (pc := 39) C dX11_gone_39 0 rfl ?_
        refine gf_X11_7 (pc := 40) C dX11_gone_40 ?_
        refine k_iconst (pc := 43) (v := (2 : Int32)) C dX11_gone_43 ciconst_2 ?_
        refine k_ialdc (pc := 44) C ia_10_1 2 dX11_gone_44 (by decide) (by decide) ?_
        refine k_iconst (pc := 45) (v := (4 : Int32)) C dX11_gone_45 ciconst_4 ?_
        refine k_icmp_ne (pc := 46) C 54 dX11_gone_46 (by decide) h (fun c10 h => ?_) (fun c10 h => ?_)
        · refine k_bipush (pc := 54) (v := (59 : Int32)) C dX11_gone_54 cbipush_59 ?_
          refine k_iconst (pc := 56) (v := (3 : Int32)) C dX11_gone_56 ciconst_3 ?_
          refine k_aload_n (pc := 57) C dX11_gone_57 0 rfl ?_
          refine gf_X11_7 (pc := 58) C dX11_gone_58 ?_
          refine k_iconst (pc := 61) (v := (2 : Int32)) C dX11_gone_61 ciconst_2 ?_
          refine k_ialdc (pc := 62) C ia_10_1 2 dX11_gone_62 (by decide) (by decide) ?_
          refine k_imul (pc := 63) C dX11_gone_63 ?_
          refine k_iadd (pc := 64) C dX11_gone_64 ?_
          refine k_nI h (fun y4 h => ?_)
          refine k_istore (pc := 65) C [(4, .int y4), (0, .ref (B.1 10 0)), (1, .int x1), (2, .int x2), (3, .int x3)] dX11_gone_65 (by decide) rfl ?_
          refine k_aload_n (pc := 67) C dX11_gone_67 1 rfl ?_
          refine gf_X11_7 (pc := 68) C dX11_gone_68 ?_
          refine k_iload (pc := 71) C dX11_gone_71 0 rfl ?_
          refine k_iload_n (pc := 73) C dX11_gone_73 2 rfl ?_
          refine k_iast (pc := 74) C ia_10_1 dX11_gone_74 h (fun h => ?_)
          refine k_nT h (fun T5 h => ?_)
          refine k_aload_n (pc := 75) C dX11_gone_75 1 rfl ?_
          refine gf_X11_7 (pc := 76) C dX11_gone_76 ?_
          refine k_iload (pc := 79) C dX11_gone_79 0 rfl ?_
          refine k_iconst (pc := 81) (v := (1 : Int32)) C dX11_gone_81 ciconst_1 ?_
          refine k_iadd (pc := 82) C dX11_gone_82 ?_
          refine k_iload_n (pc := 83) C dX11_gone_83 3 rfl ?_
          refine k_iast (pc := 84) C ia_10_1 dX11_gone_84 h (fun h => ?_)
          refine k_nT h (fun T6 h => ?_)
          refine k_aload_n (pc := 85) C dX11_gone_85 1 rfl ?_
          refine gf_X11_7 (pc := 86) C dX11_gone_86 ?_
          refine k_iload (pc := 89) C dX11_gone_89 0 rfl ?_
          refine k_iconst (pc := 91) (v := (2 : Int32)) C dX11_gone_91 ciconst_2 ?_
          refine k_iadd (pc := 92) C dX11_gone_92 ?_
          refine k_iload_n (pc := 93) C dX11_gone_93 4 rfl ?_
          refine k_iast (pc := 94) C ia_10_1 dX11_gone_94 h (fun h => ?_)
          refine k_nT h (fun T7 h => ?_)
          refine k_aload_n (pc := 95) C dX11_gone_95 1 rfl ?_
          refine gf_X11_7 (pc := 96) C dX11_gone_96 ?_
          refine k_iconst (pc := 99) (v := (2 : Int32)) C dX11_gone_99 ciconst_2 ?_
          refine k_dup2 (pc := 100) C dX11_gone_100 rfl rfl ?_
          refine k_ialdc (pc := 101) C ia_10_1 2 dX11_gone_101 (by decide) (by decide) ?_
          refine k_iconst (pc := 102) (v := (1 : Int32)) C dX11_gone_102 ciconst_1 ?_
          refine k_iadd (pc := 103) C dX11_gone_103 ?_
          refine k_iastc (pc := 104) C ia_10_1 2 dX11_gone_104 (by decide) (by decide) ?_
          refine k_nT h (fun T8 h => ?_)
          refine k_aload_n (pc := 105) C dX11_gone_105 1 rfl ?_
          refine gf_X11_7 (pc := 106) C dX11_gone_106 ?_
          refine k_iconst (pc := 109) (v := (2 : Int32)) C dX11_gone_109 ciconst_2 ?_
          refine k_ialdc (pc := 110) C ia_10_1 2 dX11_gone_110 (by decide) (by decide) ?_
          exact k_iret (pc := 111) C E (some_1 h) (some_2 h) dX11_gone_111
        · refine k_aload_n (pc := 49) C dX11_gone_49 0 rfl ?_
          obtain ⟨z9, e9, h⟩ := bnd h
          refine k_callvI (pc := 50) C lk_X11_67 (by decide) ix_X11 wo_X11 rfl rfl (kc_X11_full e9) dX11_gone_50 rfl rfl (Nat.le_of_ble_eq_true rfl) ?_
          exact k_iret (pc := 53) C E (some_1 h) (some_2 h) dX11_gone_53
      · refine k_sub [0] rfl ?_
        exact k_X11_gone_b32 C E T h
def m_X11_forget (T : TT) (x1 : Int32) : Option (Int32 × TT) := (m_X11_in (x1.toInt64) (0 : Int64) (1 : Int64)).bind (fun z1 => if z1 = 0 then ((m_X11_bad T (-2 : Int32)).bind (fun z4 => some (z4.1, z4.2))) else (if inb ((1 : Int32) + x1) 175 then (bT (T.1 10 1 (Int32.toNatClampNeg ((1 : Int32) + x1))) (fun y2 => if inb ((1 : Int32) + x1) 175 then bT (sA T 10 1 (Int32.toNatClampNeg ((1 : Int32) + x1)) (0 : Int32)) (fun T3 => some (y2, T3)) else none)) else none))
set_option maxHeartbeats 4000000 in
set_option maxRecDepth 100000 in
theorem kc_X11_forget {B : KB} {l : Launch} {T : TT} {x1 : Int32} {res : Int32 × TT} (h : m_X11_forget T x1 = some res) : Kt B l 2 yX11_forget cX11_forget 3 (some .int) T [.ref (B.1 10 0), .int x1] (some (.int res.1)) res.2 := by
  refine Kt.of (by decide) (Nat.le_of_ble_eq_true rfl) (fun X hX C E => ?_)
  subst hX
  have C : Cx B X "GriefEngineModel" cX11_forget 3 2 := C
  show Wk B X 3 T 0 [(0, .ref (B.1 10 0)), (1, .int x1)] []
  unfold m_X11_forget at h
  refine k_iload_n (pc := 0) C dX11_forget_0 1 rfl ?_
  refine k_i2l (pc := 1) C dX11_forget_1 ?_
  refine k_lconst (pc := 2) (v := (0 : Int64)) C dX11_forget_2 (by decide) ?_
  refine k_lconst (pc := 3) (v := (1 : Int64)) C dX11_forget_3 (by decide) ?_
  obtain ⟨z1, e1, h⟩ := bnd h
  refine k_callsI (pc := 4) C lk_X11_53 (by decide) (kc_X11_in e1) dX11_forget_4 rfl rfl (Nat.le_of_ble_eq_true rfl) ?_
  refine k_if_ne (pc := 7) C 17 dX11_forget_7 (by decide) h (fun c5 h => ?_) (fun c5 h => ?_)
  · refine k_aload_n (pc := 17) C dX11_forget_17 0 rfl ?_
    refine gf_X11_7 (pc := 18) C dX11_forget_18 ?_
    refine k_iconst (pc := 21) (v := (1 : Int32)) C dX11_forget_21 ciconst_1 ?_
    refine k_iload_n (pc := 22) C dX11_forget_22 1 rfl ?_
    refine k_iadd (pc := 23) C dX11_forget_23 ?_
    refine k_iald (pc := 24) C ia_10_1 dX11_forget_24 h (fun h => ?_)
    refine k_nI h (fun y2 h => ?_)
    refine k_istore_n (pc := 25) C [(2, .int y2), (0, .ref (B.1 10 0)), (1, .int x1)] dX11_forget_25 (by decide) rfl ?_
    refine k_aload_n (pc := 26) C dX11_forget_26 1 rfl ?_
    refine gf_X11_7 (pc := 27) C dX11_forget_27 ?_
    refine k_iconst (pc := 30) (v := (1 : Int32)) C dX11_forget_30 ciconst_1 ?_
    refine k_iload_n (pc := 31) C dX11_forget_31 2 rfl ?_
    refine k_iadd (pc := 32) C dX11_forget_32 ?_
    refine k_iconst (pc := 33) (v := (0 : Int32)) C dX11_forget_33 ciconst_0 ?_
    refine k_iast (pc := 34) C ia_10_1 dX11_forget_34 h (fun h => ?_)
    refine k_nT h (fun T3 h => ?_)
    refine k_iload_n (pc := 35) C dX11_forget_35 0 rfl ?_
    exact k_iret (pc := 36) C E (some_1 h) (some_2 h) dX11_forget_36
  · refine k_aload_n (pc := 10) C dX11_forget_10 0 rfl ?_
    refine k_bipush (pc := 11) (v := (-2 : Int32)) C dX11_forget_11 cbipush_m2 ?_
    obtain ⟨z4, e4, h⟩ := bnd h
    refine k_callvI (pc := 13) C lk_X11_63 (by decide) ix_X11 wo_X11 rfl rfl (kc_X11_bad e4) dX11_forget_13 rfl rfl (Nat.le_of_ble_eq_true rfl) ?_
    exact k_iret (pc := 16) C E (some_1 h) (some_2 h) dX11_forget_16
