def m_X11_starts_b152 (rec71 : TT → Int32 → Int32 → Int32 → Int64 → Int64 → Int32 → Option (Int32 × TT)) (rec90 : TT → Int32 → Int32 → Int32 → Int64 → Int64 → Int32 → Int64 → Int32 → Option (Int32 × TT)) (T : TT) (x1 : Int32) (x2 : Int32) (x3 : Int32) (x4 : Int64) (x6 : Int64) (x8 : Int32) (x9 : Int64) (x11 : Int32) (s1 : Int32) (s2 : Int32) (s3 : Int32) : Option (Int32 × TT) := (m_X11_goDay T s1 s2 s3).bind (fun z22 => bT (x11 + (1 : Int32)) (fun y23 => rec90 z22 x1 x2 x3 x4 x6 x8 x9 y23))
def m_X11_starts_b118 (rec71 : TT → Int32 → Int32 → Int32 → Int64 → Int64 → Int32 → Option (Int32 × TT)) (rec90 : TT → Int32 → Int32 → Int32 → Int64 → Int64 → Int32 → Int64 → Int32 → Option (Int32 × TT)) (T : TT) (x1 : Int32) (x2 : Int32) (x3 : Int32) (x4 : Int64) (x6 : Int64) (x8 : Int32) (x11 : Int32) (s0 : Int64) (s1 : Int64) : Option (Int32 × TT) := bT (s0 * s1) (fun y18 => (m_X11_kindOf T x1).bind (fun z19 => (m_X11_has x8 x11).bind (fun z20 => if z20 = 0 then (m_X11_starts_b152 rec71 rec90 T x1 x2 x3 x4 x6 x8 y18 x11 z19 ((T.1 10 1 16) + x11) (0 : Int32)) else (m_X11_starts_b152 rec71 rec90 T x1 x2 x3 x4 x6 x8 y18 x11 z19 ((T.1 10 1 16) + x11) (2 : Int32)))))
def m_X11_starts_h90 (rec71 : TT → Int32 → Int32 → Int32 → Int64 → Int64 → Int32 → Option (Int32 × TT)) (rec90 : TT → Int32 → Int32 → Int32 → Int64 → Int64 → Int32 → Int64 → Int32 → Option (Int32 × TT)) (T : TT) (x1 : Int32) (x2 : Int32) (x3 : Int32) (x4 : Int64) (x6 : Int64) (x8 : Int32) (x9 : Int64) (x11 : Int32) : Option (Int32 × TT) := if x2 ≤ x11 then (bT (x4 + (x9 * ((T.2.1 10 7).toInt64))) (fun y13 => bT (x8 + (1 : Int32)) (fun y14 => rec71 T x1 x2 x3 y13 x6 y14))) else ((m_X11_has x8 x11).bind (fun z15 => if z15 = 0 then (m_X11_starts_b118 rec71 rec90 T x1 x2 x3 x4 x6 x8 x11 x9 (((10 : Int32) - x3).toInt64)) else (m_X11_starts_b118 rec71 rec90 T x1 x2 x3 x4 x6 x8 x11 x9 (x3.toInt64))))
def m_X11_starts_l90 (rec71 : TT → Int32 → Int32 → Int32 → Int64 → Int64 → Int32 → Option (Int32 × TT)) : Nat → TT → Int32 → Int32 → Int32 → Int64 → Int64 → Int32 → Int64 → Int32 → Option (Int32 × TT)
  | 0 => fun _ _ _ _ _ _ _ _ _ => none
  | n + 1 => fun T x1 x2 x3 x4 x6 x8 x9 x11 => m_X11_starts_h90 rec71 (m_X11_starts_l90 rec71 n) T x1 x2 x3 x4 x6 x8 x9 x11
def m_X11_starts_h71 (rec71 : TT → Int32 → Int32 → Int32 → Int64 → Int64 → Int32 → Option (Int32 × TT)) (T : TT) (x1 : Int32) (x2 : Int32) (x3 : Int32) (x4 : Int64) (x6 : Int64) (x8 : Int32) : Option (Int32 × TT) := if ((1 : Int32) <<< (x2 &&& 31)) ≤ x8 then ((m_X11_fraction T x4 x6).bind (fun z10 => some ((1 : Int32), z10))) else ((m_X11_layOne T x1).bind (fun z11 => m_X11_starts_l90 rec71 FU z11 x1 x2 x3 x4 x6 x8 (1 : Int64) (0 : Int32)))
def m_X11_starts_l71 : Nat → TT → Int32 → Int32 → Int32 → Int64 → Int64 → Int32 → Option (Int32 × TT)
  | 0 => fun _ _ _ _ _ _ _ => none
  | n + 1 => fun T x1 x2 x3 x4 x6 x8 => m_X11_starts_h71 (m_X11_starts_l71 n) T x1 x2 x3 x4 x6 x8
def m_X11_starts_h48 (rec48 : TT → Int32 → Int32 → Int32 → Int64 → Int64 → Int32 → Option (Int32 × TT)) (T : TT) (x1 : Int32) (x2 : Int32) (x3 : Int32) (x4 : Int64) (x6 : Int64) (x8 : Int32) : Option (Int32 × TT) := if x2 ≤ x8 then (m_X11_starts_l71 FU T x1 x2 x3 x4 x6 (0 : Int32)) else (bT (x6 * (10 : Int64)) (fun y7 => bT (x8 + (1 : Int32)) (fun y8 => rec48 T x1 x2 x3 x4 y7 y8)))
def m_X11_starts_l48 : Nat → TT → Int32 → Int32 → Int32 → Int64 → Int64 → Int32 → Option (Int32 × TT)
  | 0 => fun _ _ _ _ _ _ _ => none
  | n + 1 => fun T x1 x2 x3 x4 x6 x8 => m_X11_starts_h48 (m_X11_starts_l48 n) T x1 x2 x3 x4 x6 x8
def m_X11_starts_b32 (T : TT) : Option (Int32 × TT) := (m_X11_bad T (-2 : Int32)).bind (fun z24 => some (z24.1, z24.2))
def m_X11_starts (T : TT) (x1 : Int32) (x2 : Int32) (x3 : Int32) : Option (Int32 × TT) := (m_X11_isDriver T x1).bind (fun z1 => if z1 = 0 then (m_X11_starts_b32 T) else ((m_X11_in (x2.toInt64) (0 : Int64) (6 : Int64)).bind (fun z2 => if z2 = 0 then (m_X11_starts_b32 T) else ((m_X11_in (x3.toInt64) (0 : Int64) (10 : Int64)).bind (fun z3 => if z3 = 0 then (m_X11_starts_b32 T) else (m_X11_starts_l48 FU T x1 x2 x3 (0 : Int64) (1 : Int64) (0 : Int32)))))))
set_option maxHeartbeats 4000000 in
set_option maxRecDepth 100000 in
theorem k_X11_starts_b152 {B : KB} {X : KE} {rec71 : TT → Int32 → Int32 → Int32 → Int64 → Int64 → Int32 → Option (Int32 × TT)} {rec90 : TT → Int32 → Int32 → Int32 → Int64 → Int64 → Int32 → Int64 → Int32 → Option (Int32 × TT)} {res : Int32 × TT} (C : Cx B X "GriefEngineModel" cX11_starts 12 4) (E : Cr B X (some .int) (some (.int res.1)) res.2) (hrec71 : ∀ (T : TT) (x1 : Int32) (x2 : Int32) (x3 : Int32) (x4 : Int64) (x6 : Int64) (x8 : Int32), rec71 T x1 x2 x3 x4 x6 x8 = some res → Wk B X 12 T 71 [(0, .ref (B.1 10 0)), (1, .int x1), (2, .int x2), (3, .int x3), (4, .long x4), (6, .long x6), (8, .int x8)] []) (hrec90 : ∀ (T : TT) (x1 : Int32) (x2 : Int32) (x3 : Int32) (x4 : Int64) (x6 : Int64) (x8 : Int32) (x9 : Int64) (x11 : Int32), rec90 T x1 x2 x3 x4 x6 x8 x9 x11 = some res → Wk B X 12 T 90 [(0, .ref (B.1 10 0)), (1, .int x1), (2, .int x2), (3, .int x3), (4, .long x4), (6, .long x6), (8, .int x8), (9, .long x9), (11, .int x11)] []) (T : TT) (x1 : Int32) (x2 : Int32) (x3 : Int32) (x4 : Int64) (x6 : Int64) (x8 : Int32) (x9 : Int64) (x11 : Int32) (s1 : Int32) (s2 : Int32) (s3 : Int32) (h : m_X11_starts_b152 rec71 rec90 T x1 x2 x3 x4 x6 x8 x9 x11 s1 s2 s3 = some res) : Wk B X 12 T 152 [(0, .ref (B.1 10 0)), (1, .int x1), (2, .int x2), (3, .int x3), (4, .long x4), (6, .long x6), (8, .int x8), (9, .long x9), (11, .int x11)] [.int s3, .int s2, .int s1, .ref (B.1 10 0)] := by
  unfold m_X11_starts_b152 at h
  obtain ⟨z22, e22, h⟩ := bnd h
  refine k_callvV (pc := 152) C lk_X11_101 (by decide) ix_X11 wo_X11 rfl rfl (kc_X11_goDay e22) dX11_starts_152 rfl rfl (Nat.le_of_ble_eq_true rfl) ?_
  refine k_iincN (pc := 155) (x := x11) (c := (1 : Int32)) C (fun y23 => [(11, .int y23), (0, .ref (B.1 10 0)), (1, .int x1), (2, .int x2), (3, .int x3), (4, .long x4), (6, .long x6), (8, .int x8), (9, .long x9)]) dX11_starts_155 8 rfl ciconst_1 (by decide) (fun _ => rfl) h (fun y23 h => ?_)
  refine k_goto (pc := 158) C 90 dX11_starts_158 (by decide) ?_
  refine k_sub [1, 2, 3, 4, 5, 6, 7, 8, 0] rfl ?_
  exact hrec90 z22 x1 x2 x3 x4 x6 x8 x9 y23 h
set_option maxHeartbeats 4000000 in
set_option maxRecDepth 100000 in
theorem k_X11_starts_b118 {B : KB} {X : KE} {rec71 : TT → Int32 → Int32 → Int32 → Int64 → Int64 → Int32 → Option (Int32 × TT)} {rec90 : TT → Int32 → Int32 → Int32 → Int64 → Int64 → Int32 → Int64 → Int32 → Option (Int32 × TT)} {res : Int32 × TT} (C : Cx B X "GriefEngineModel" cX11_starts 12 4) (E : Cr B X (some .int) (some (.int res.1)) res.2) (hrec71 : ∀ (T : TT) (x1 : Int32) (x2 : Int32) (x3 : Int32) (x4 : Int64) (x6 : Int64) (x8 : Int32), rec71 T x1 x2 x3 x4 x6 x8 = some res → Wk B X 12 T 71 [(0, .ref (B.1 10 0)), (1, .int x1), (2, .int x2), (3, .int x3), (4, .long x4), (6, .long x6), (8, .int x8)] []) (hrec90 : ∀ (T : TT) (x1 : Int32) (x2 : Int32) (x3 : Int32) (x4 : Int64) (x6 : Int64) (x8 : Int32) (x9 : Int64) (x11 : Int32), rec90 T x1 x2 x3 x4 x6 x8 x9 x11 = some res → Wk B X 12 T 90 [(0, .ref (B.1 10 0)), (1, .int x1), (2, .int x2), (3, .int x3), (4, .long x4), (6, .long x6), (8, .int x8), (9, .long x9), (11, .int x11)] []) (T : TT) (x1 : Int32) (x2 : Int32) (x3 : Int32) (x4 : Int64) (x6 : Int64) (x8 : Int32) (x11 : Int32) (s0 : Int64) (s1 : Int64) (h : m_X11_starts_b118 rec71 rec90 T x1 x2 x3 x4 x6 x8 x11 s0 s1 = some res) : Wk B X 12 T 118 [(0, .ref (B.1 10 0)), (1, .int x1), (2, .int x2), (3, .int x3), (4, .long x4), (6, .long x6), (8, .int x8), (11, .int x11)] [.long s1, .long s0] := by
  unfold m_X11_starts_b118 at h
  refine k_lmul (pc := 118) C dX11_starts_118 ?_
  refine k_nL h (fun y18 h => ?_)
  refine k_lstore (pc := 119) C [(9, .long y18), (0, .ref (B.1 10 0)), (1, .int x1), (2, .int x2), (3, .int x3), (4, .long x4), (6, .long x6), (8, .int x8), (11, .int x11)] dX11_starts_119 (by decide) rfl ?_
  refine k_aload_n (pc := 121) C dX11_starts_121 1 rfl ?_
  refine k_aload_n (pc := 122) C dX11_starts_122 1 rfl ?_
  refine k_iload_n (pc := 123) C dX11_starts_123 2 rfl ?_
  obtain ⟨z19, e19, h⟩ := bnd h
  refine k_callvI (pc := 124) C lk_X11_124 (by decide) ix_X11 wo_X11 rfl rfl (kc_X11_kindOf e19) dX11_starts_124 rfl rfl (Nat.le_of_ble_eq_true rfl) ?_
  refine k_aload_n (pc := 127) C dX11_starts_127 1 rfl ?_
  refine gf_X11_7 (pc := 128) C dX11_starts_128 ?_
  refine k_bipush (pc := 131) (v := (16 : Int32)) C dX11_starts_131 cbipush_16 ?_
  refine k_ialdc (pc := 133) C ia_10_1 16 dX11_starts_133 (by decide) (by decide) ?_
  refine k_iload (pc := 134) C dX11_starts_134 8 rfl ?_
  refine k_iadd (pc := 136) C dX11_starts_136 ?_
  refine k_iload (pc := 137) C dX11_starts_137 7 rfl ?_
  refine k_iload (pc := 139) C dX11_starts_139 8 rfl ?_
  obtain ⟨z20, e20, h⟩ := bnd h
  refine k_callsI (pc := 141) C lk_X11_166 (by decide) (kc_X11_has e20) dX11_starts_141 rfl rfl (Nat.le_of_ble_eq_true rfl) ?_
  refine k_if_eq (pc := 144) C 151 dX11_starts_144 (by decide) h (fun c21 h => ?_) (fun c21 h => ?_)
  · refine k_iconst (pc := 151) (v := (0 : Int32)) C dX11_starts_151 ciconst_0 ?_
    refine k_sub [1, 2, 3, 4, 5, 6, 7, 0, 8] rfl ?_
    exact k_X11_starts_b152 C E hrec71 hrec90 T x1 x2 x3 x4 x6 x8 y18 x11 z19 ((T.1 10 1 16) + x11) (0 : Int32) h
  · refine k_iconst (pc := 147) (v := (2 : Int32)) C dX11_starts_147 ciconst_2 ?_
    refine k_goto (pc := 148) C 152 dX11_starts_148 (by decide) ?_
    refine k_sub [1, 2, 3, 4, 5, 6, 7, 0, 8] rfl ?_
    exact k_X11_starts_b152 C E hrec71 hrec90 T x1 x2 x3 x4 x6 x8 y18 x11 z19 ((T.1 10 1 16) + x11) (2 : Int32) h
set_option maxHeartbeats 4000000 in
set_option maxRecDepth 100000 in
theorem k_X11_starts_h90 {B : KB} {X : KE} {rec71 : TT → Int32 → Int32 → Int32 → Int64 → Int64 → Int32 → Option (Int32 × TT)} {rec90 : TT → Int32 → Int32 → Int32 → Int64 → Int64 → Int32 → Int64 → Int32 → Option (Int32 × TT)} {res : Int32 × TT} (C : Cx B X "GriefEngineModel" cX11_starts 12 4) (E : Cr B X (some .int) (some (.int res.1)) res.2) (hrec71 : ∀ (T : TT) (x1 : Int32) (x2 : Int32) (x3 : Int32) (x4 : Int64) (x6 : Int64) (x8 : Int32), rec71 T x1 x2 x3 x4 x6 x8 = some res → Wk B X 12 T 71 [(0, .ref (B.1 10 0)), (1, .int x1), (2, .int x2), (3, .int x3), (4, .long x4), (6, .long x6), (8, .int x8)] []) (hrec90 : ∀ (T : TT) (x1 : Int32) (x2 : Int32) (x3 : Int32) (x4 : Int64) (x6 : Int64) (x8 : Int32) (x9 : Int64) (x11 : Int32), rec90 T x1 x2 x3 x4 x6 x8 x9 x11 = some res → Wk B X 12 T 90 [(0, .ref (B.1 10 0)), (1, .int x1), (2, .int x2), (3, .int x3), (4, .long x4), (6, .long x6), (8, .int x8), (9, .long x9), (11, .int x11)] []) (T : TT) (x1 : Int32) (x2 : Int32) (x3 : Int32) (x4 : Int64) (x6 : Int64) (x8 : Int32) (x9 : Int64) (x11 : Int32) (h : m_X11_starts_h90 rec71 rec90 T x1 x2 x3 x4 x6 x8 x9 x11 = some res) : Wk B X 12 T 90 [(0, .ref (B.1 10 0)), (1, .int x1), (2, .int x2), (3, .int x3), (4, .long x4), (6, .long x6), (8, .int x8), (9, .long x9), (11, .int x11)] [] := by
  unfold m_X11_starts_h90 at h
  refine k_iload (pc := 90) C dX11_starts_90 8 rfl ?_
  refine k_iload_n (pc := 92) C dX11_starts_92 2 rfl ?_
  refine k_icmp_ge (pc := 93) C 161 dX11_starts_93 (by decide) h (fun c17 h => ?_) (fun c17 h => ?_)
  · refine k_lload (pc := 161) C dX11_starts_161 4 rfl ?_
    refine k_lload (pc := 163) C dX11_starts_163 7 rfl ?_
    refine k_aload_n (pc := 165) C dX11_starts_165 0 rfl ?_
    refine gf_X11_84 (pc := 166) C dX11_starts_166 ?_
    refine k_i2l (pc := 169) C dX11_starts_169 ?_
    refine k_lmul (pc := 170) C dX11_starts_170 ?_
    refine k_ladd (pc := 171) C dX11_starts_171 ?_
    refine k_nL h (fun y13 h => ?_)
    refine k_lstore (pc := 172) C [(4, .long y13), (0, .ref (B.1 10 0)), (1, .int x1), (2, .int x2), (3, .int x3), (6, .long x6), (8, .int x8), (9, .long x9), (11, .int x11)] dX11_starts_172 (by decide) rfl ?_
    refine k_iincN (pc := 174) (x := x8) (c := (1 : Int32)) C (fun y14 => [(8, .int y14), (4, .long y13), (0, .ref (B.1 10 0)), (1, .int x1), (2, .int x2), (3, .int x3), (6, .long x6), (9, .long x9), (11, .int x11)]) dX11_starts_174 6 rfl ciconst_1 (by decide) (fun _ => rfl) h (fun y14 h => ?_)
    refine k_goto (pc := 177) C 71 dX11_starts_177 (by decide) ?_
    refine k_sub [2, 3, 4, 5, 1, 6, 0] rfl ?_
    exact hrec71 T x1 x2 x3 y13 x6 y14 h
  · refine k_lload (pc := 96) C dX11_starts_96 7 rfl ?_
    refine k_iload (pc := 98) C dX11_starts_98 6 rfl ?_
    refine k_iload (pc := 100) C dX11_starts_100 8 rfl ?_
    obtain ⟨z15, e15, h⟩ := bnd h
    refine k_callsI (pc := 102) C lk_X11_166 (by decide) (kc_X11_has e15) dX11_starts_102 rfl rfl (Nat.le_of_ble_eq_true rfl) ?_
    refine k_if_eq (pc := 105) C 113 dX11_starts_105 (by decide) h (fun c16 h => ?_) (fun c16 h => ?_)
    · refine k_bipush (pc := 113) (v := (10 : Int32)) C dX11_starts_113 cbipush_10 ?_
      refine k_iload_n (pc := 115) C dX11_starts_115 3 rfl ?_
      refine k_isub (pc := 116) C dX11_starts_116 ?_
      refine k_i2l (pc := 117) C dX11_starts_117 ?_
      refine k_sub [0, 1, 2, 3, 4, 5, 6, 8] rfl ?_
      exact k_X11_starts_b118 C E hrec71 hrec90 T x1 x2 x3 x4 x6 x8 x11 x9 (((10 : Int32) - x3).toInt64) h
    · refine k_iload_n (pc := 108) C dX11_starts_108 3 rfl ?_
      refine k_i2l (pc := 109) C dX11_starts_109 ?_
      refine k_goto (pc := 110) C 118 dX11_starts_110 (by decide) ?_
      refine k_sub [0, 1, 2, 3, 4, 5, 6, 8] rfl ?_
      exact k_X11_starts_b118 C E hrec71 hrec90 T x1 x2 x3 x4 x6 x8 x11 x9 (x3.toInt64) h
set_option maxHeartbeats 4000000 in
set_option maxRecDepth 100000 in
theorem k_X11_starts_l90 {B : KB} {X : KE} {rec71 : TT → Int32 → Int32 → Int32 → Int64 → Int64 → Int32 → Option (Int32 × TT)} {res : Int32 × TT} (C : Cx B X "GriefEngineModel" cX11_starts 12 4) (E : Cr B X (some .int) (some (.int res.1)) res.2) (hrec71 : ∀ (T : TT) (x1 : Int32) (x2 : Int32) (x3 : Int32) (x4 : Int64) (x6 : Int64) (x8 : Int32), rec71 T x1 x2 x3 x4 x6 x8 = some res → Wk B X 12 T 71 [(0, .ref (B.1 10 0)), (1, .int x1), (2, .int x2), (3, .int x3), (4, .long x4), (6, .long x6), (8, .int x8)] []) : ∀ (n : Nat) (T : TT) (x1 : Int32) (x2 : Int32) (x3 : Int32) (x4 : Int64) (x6 : Int64) (x8 : Int32) (x9 : Int64) (x11 : Int32) (h : m_X11_starts_l90 rec71 n T x1 x2 x3 x4 x6 x8 x9 x11 = some res), Wk B X 12 T 90 [(0, .ref (B.1 10 0)), (1, .int x1), (2, .int x2), (3, .int x3), (4, .long x4), (6, .long x6), (8, .int x8), (9, .long x9), (11, .int x11)] [] := by
  intro n
  induction n with
  | zero =>
    intro T x1 x2 x3 x4 x6 x8 x9 x11 h
    exact no_some h
  | succ n ih =>
    intro T x1 x2 x3 x4 x6 x8 x9 x11 h
    exact k_X11_starts_h90 C E hrec71 (fun T x1 x2 x3 x4 x6 x8 x9 x11 h => ih T x1 x2 x3 x4 x6 x8 x9 x11 h) T x1 x2 x3 x4 x6 x8 x9 x11 h
set_option maxHeartbeats 4000000 in
set_option maxRecDepth 100000 in
theorem k_X11_starts_h71 {B : KB} {X : KE} {rec71 : TT → Int32 → Int32 → Int32 → Int64 → Int64 → Int32 → Option (Int32 × TT)} {res : Int32 × TT} (C : Cx B X "GriefEngineModel" cX11_starts 12 4) (E : Cr B X (some .int) (some (.int res.1)) res.2) (hrec71 : ∀ (T : TT) (x1 : Int32) (x2 : Int32) (x3 : Int32) (x4 : Int64) (x6 : Int64) (x8 : Int32), rec71 T x1 x2 x3 x4 x6 x8 = some res → Wk B X 12 T 71 [(0, .ref (B.1 10 0)), (1, .int x1), (2, .int x2), (3, .int x3), (4, .long x4), (6, .long x6), (8, .int x8)] []) (T : TT) (x1 : Int32) (x2 : Int32) (x3 : Int32) (x4 : Int64) (x6 : Int64) (x8 : Int32) (h : m_X11_starts_h71 rec71 T x1 x2 x3 x4 x6 x8 = some res) : Wk B X 12 T 71 [(0, .ref (B.1 10 0)), (1, .int x1), (2, .int x2), (3, .int x3), (4, .long x4), (6, .long x6), (8, .int x8)] [] := by
  unfold m_X11_starts_h71 at h
  refine k_iload (pc := 71) C dX11_starts_71 6 rfl ?_
  refine k_iconst (pc := 73) (v := (1 : Int32)) C dX11_starts_73 ciconst_1 ?_
  refine k_iload_n (pc := 74) C dX11_starts_74 2 rfl ?_
  refine k_ishl (pc := 75) C dX11_starts_75 ?_
  refine k_icmp_ge (pc := 76) C 180 dX11_starts_76 (by decide) h (fun c12 h => ?_) (fun c12 h => ?_)
  · refine k_aload_n (pc := 180) C dX11_starts_180 0 rfl ?_
    refine k_lload (pc := 181) C dX11_starts_181 4 rfl ?_
    refine k_lload (pc := 183) C dX11_starts_183 5 rfl ?_
    obtain ⟨z10, e10, h⟩ := bnd h
    refine k_callvV (pc := 185) C lk_X11_188 (by decide) ix_X11 wo_X11 rfl rfl (kc_X11_fraction e10) dX11_starts_185 rfl rfl (Nat.le_of_ble_eq_true rfl) ?_
    refine k_iconst (pc := 188) (v := (1 : Int32)) C dX11_starts_188 ciconst_1 ?_
    exact k_iret (pc := 189) C E (some_1 h) (some_2 h) dX11_starts_189
  · refine k_lconst (pc := 79) (v := (1 : Int64)) C dX11_starts_79 (by decide) ?_
    refine k_lstore (pc := 80) C [(9, .long (1 : Int64)), (0, .ref (B.1 10 0)), (1, .int x1), (2, .int x2), (3, .int x3), (4, .long x4), (6, .long x6), (8, .int x8)] dX11_starts_80 (by decide) rfl ?_
    refine k_aload_n (pc := 82) C dX11_starts_82 1 rfl ?_
    refine k_iload_n (pc := 83) C dX11_starts_83 2 rfl ?_
    obtain ⟨z11, e11, h⟩ := bnd h
    refine k_callvV (pc := 84) C lk_X11_127 (by decide) ix_X11 wo_X11 rfl rfl (kc_X11_layOne e11) dX11_starts_84 rfl rfl (Nat.le_of_ble_eq_true rfl) ?_
    refine k_iconst (pc := 87) (v := (0 : Int32)) C dX11_starts_87 ciconst_0 ?_
    refine k_istore (pc := 88) C [(11, .int (0 : Int32)), (9, .long (1 : Int64)), (0, .ref (B.1 10 0)), (1, .int x1), (2, .int x2), (3, .int x3), (4, .long x4), (6, .long x6), (8, .int x8)] dX11_starts_88 (by decide) rfl ?_
    refine k_sub [2, 3, 4, 5, 6, 7, 8, 1, 0] rfl ?_
    exact k_X11_starts_l90 C E hrec71 FU z11 x1 x2 x3 x4 x6 x8 (1 : Int64) (0 : Int32) h
set_option maxHeartbeats 4000000 in
set_option maxRecDepth 100000 in
theorem k_X11_starts_l71 {B : KB} {X : KE} {res : Int32 × TT} (C : Cx B X "GriefEngineModel" cX11_starts 12 4) (E : Cr B X (some .int) (some (.int res.1)) res.2) : ∀ (n : Nat) (T : TT) (x1 : Int32) (x2 : Int32) (x3 : Int32) (x4 : Int64) (x6 : Int64) (x8 : Int32) (h : m_X11_starts_l71 n T x1 x2 x3 x4 x6 x8 = some res), Wk B X 12 T 71 [(0, .ref (B.1 10 0)), (1, .int x1), (2, .int x2), (3, .int x3), (4, .long x4), (6, .long x6), (8, .int x8)] [] := by
  intro n
  induction n with
  | zero =>
    intro T x1 x2 x3 x4 x6 x8 h
    exact no_some h
  | succ n ih =>
    intro T x1 x2 x3 x4 x6 x8 h
    exact k_X11_starts_h71 C E (fun T x1 x2 x3 x4 x6 x8 h => ih T x1 x2 x3 x4 x6 x8 h) T x1 x2 x3 x4 x6 x8 h
set_option maxHeartbeats 4000000 in
set_option maxRecDepth 100000 in
theorem k_X11_starts_h48 {B : KB} {X : KE} {rec48 : TT → Int32 → Int32 → Int32 → Int64 → Int64 → Int32 → Option (Int32 × TT)} {res : Int32 × TT} (C : Cx B X "GriefEngineModel" cX11_starts 12 4) (E : Cr B X (some .int) (some (.int res.1)) res.2) (hrec48 : ∀ (T : TT) (x1 : Int32) (x2 : Int32) (x3 : Int32) (x4 : Int64) (x6 : Int64) (x8 : Int32), rec48 T x1 x2 x3 x4 x6 x8 = some res → Wk B X 12 T 48 [(0, .ref (B.1 10 0)), (1, .int x1), (2, .int x2), (3, .int x3), (4, .long x4), (6, .long x6), (8, .int x8)] []) (T : TT) (x1 : Int32) (x2 : Int32) (x3 : Int32) (x4 : Int64) (x6 : Int64) (x8 : Int32) (h : m_X11_starts_h48 rec48 T x1 x2 x3 x4 x6 x8 = some res) : Wk B X 12 T 48 [(0, .ref (B.1 10 0)), (1, .int x1), (2, .int x2), (3, .int x3), (4, .long x4), (6, .long x6), (8, .int x8)] [] := by
  unfold m_X11_starts_h48 at h
  refine k_iload (pc := 48) C dX11_starts_48 6 rfl ?_
  refine k_iload_n (pc := 50) C dX11_starts_50 2 rfl ?_
  refine k_icmp_ge (pc := 51) C 68 dX11_starts_51 (by decide) h (fun c9 h => ?_) (fun c9 h => ?_)
  · refine k_iconst (pc := 68) (v := (0 : Int32)) C dX11_starts_68 ciconst_0 ?_
    refine k_istore (pc := 69) C [(8, .int (0 : Int32)), (0, .ref (B.1 10 0)), (1, .int x1), (2, .int x2), (3, .int x3), (4, .long x4), (6, .long x6)] dX11_starts_69 (by decide) rfl ?_
    refine k_sub [1, 2, 3, 4, 5, 6, 0] rfl ?_
    exact k_X11_starts_l71 C E FU T x1 x2 x3 x4 x6 (0 : Int32) h
  · refine k_lload (pc := 54) C dX11_starts_54 5 rfl ?_
    refine k_ldc2_w (pc := 56) (v := (10 : Int64)) C dX11_starts_56 tw5_82 ?_
    refine k_lmul (pc := 59) C dX11_starts_59 ?_
    refine k_nL h (fun y7 h => ?_)
    refine k_lstore (pc := 60) C [(6, .long y7), (0, .ref (B.1 10 0)), (1, .int x1), (2, .int x2), (3, .int x3), (4, .long x4), (8, .int x8)] dX11_starts_60 (by decide) rfl ?_
    refine k_iincN (pc := 62) (x := x8) (c := (1 : Int32)) C (fun y8 => [(8, .int y8), (6, .long y7), (0, .ref (B.1 10 0)), (1, .int x1), (2, .int x2), (3, .int x3), (4, .long x4)]) dX11_starts_62 6 rfl ciconst_1 (by decide) (fun _ => rfl) h (fun y8 h => ?_)
    refine k_goto (pc := 65) C 48 dX11_starts_65 (by decide) ?_
    refine k_sub [2, 3, 4, 5, 6, 1, 0] rfl ?_
    exact hrec48 T x1 x2 x3 x4 y7 y8 h
set_option maxHeartbeats 4000000 in
set_option maxRecDepth 100000 in
theorem k_X11_starts_l48 {B : KB} {X : KE} {res : Int32 × TT} (C : Cx B X "GriefEngineModel" cX11_starts 12 4) (E : Cr B X (some .int) (some (.int res.1)) res.2) : ∀ (n : Nat) (T : TT) (x1 : Int32) (x2 : Int32) (x3 : Int32) (x4 : Int64) (x6 : Int64) (x8 : Int32) (h : m_X11_starts_l48 n T x1 x2 x3 x4 x6 x8 = some res), Wk B X 12 T 48 [(0, .ref (B.1 10 0)), (1, .int x1), (2, .int x2), (3, .int x3), (4, .long x4), (6, .long x6), (8, .int x8)] [] := by
  intro n
  induction n with
  | zero =>
    intro T x1 x2 x3 x4 x6 x8 h
    exact no_some h
  | succ n ih =>
    intro T x1 x2 x3 x4 x6 x8 h
    exact k_X11_starts_h48 C E (fun T x1 x2 x3 x4 x6 x8 h => ih T x1 x2 x3 x4 x6 x8 h) T x1 x2 x3 x4 x6 x8 h
set_option maxHeartbeats 4000000 in
set_option maxRecDepth 100000 in
theorem k_X11_starts_b32 {B : KB} {X : KE} {res : Int32 × TT} (C : Cx B X "GriefEngineModel" cX11_starts 12 4) (E : Cr B X (some .int) (some (.int res.1)) res.2) (T : TT) (h : m_X11_starts_b32 T = some res) : Wk B X 12 T 32 [(0, .ref (B.1 10 0))] [] := by
  unfold m_X11_starts_b32 at h
  refine k_aload_n (pc := 32) C dX11_starts_32 0 rfl ?_
  refine k_bipush (pc := 33) (v := (-2 : Int32)) C dX11_starts_33 cbipush_m2 ?_
  obtain ⟨z24, e24, h⟩ := bnd h
  refine k_callvI (pc := 35) C lk_X11_63 (by decide) ix_X11 wo_X11 rfl rfl (kc_X11_bad e24) dX11_starts_35 rfl rfl (Nat.le_of_ble_eq_true rfl) ?_
  exact k_iret (pc := 38) C E (some_1 h) (some_2 h) dX11_starts_38
set_option maxHeartbeats 4000000 in
set_option maxRecDepth 100000 in
theorem kc_X11_starts {B : KB} {l : Launch} {T : TT} {x1 : Int32} {x2 : Int32} {x3 : Int32} {res : Int32 × TT} (h : m_X11_starts T x1 x2 x3 = some res) : Kt B l 4 yX11_starts cX11_starts 12 (some .int) T [.ref (B.1 10 0), .int x1, .int x2, .int x3] (some (.int res.1)) res.2 := by
  refine Kt.of (by decide) (Nat.le_of_ble_eq_true rfl) (fun X hX C E => ?_)
  subst hX
  have C : Cx B X "GriefEngineModel" cX11_starts 12 4 := C
  show Wk B X 12 T 0 [(0, .ref (B.1 10 0)), (1, .int x1), (2, .int x2), (3, .int x3)] []
  unfold m_X11_starts at h
  refine k_aload_n (pc := 0) C dX11_starts_0 0 rfl ?_
  refine k_iload_n (pc := 1) C dX11_starts_1 1 rfl ?_
  obtain ⟨z1, e1, h⟩ := bnd h
  refine k_callvI (pc := 2) C lk_X11_116 (by decide) ix_X11 wo_X11 rfl rfl (kc_X11_isDriver e1) dX11_starts_2 rfl rfl (Nat.le_of_ble_eq_true rfl) ?_
  refine k_if_eq (pc := 5) C 32 dX11_starts_5 (by decide) h (fun c6 h => ?_) (fun c6 h => ?_)
  · refine k_sub [0] rfl ?_
    exact k_X11_starts_b32 C E T h
  · refine k_iload_n (pc := 8) C dX11_starts_8 2 rfl ?_
    refine k_i2l (pc := 9) C dX11_starts_9 ?_
    refine k_lconst (pc := 10) (v := (0 : Int64)) C dX11_starts_10 (by decide) ?_
    refine k_ldc2_w (pc := 11) (v := (6 : Int64)) C dX11_starts_11 tw5_81 ?_
    obtain ⟨z2, e2, h⟩ := bnd h
    refine k_callsI (pc := 14) C lk_X11_53 (by decide) (kc_X11_in e2) dX11_starts_14 rfl rfl (Nat.le_of_ble_eq_true rfl) ?_
    refine k_if_eq (pc := 17) C 32 dX11_starts_17 (by decide) h (fun c5 h => ?_) (fun c5 h => ?_)
    · refine k_sub [0] rfl ?_
      exact k_X11_starts_b32 C E T h
    · refine k_iload_n (pc := 20) C dX11_starts_20 3 rfl ?_
      refine k_i2l (pc := 21) C dX11_starts_21 ?_
      refine k_lconst (pc := 22) (v := (0 : Int64)) C dX11_starts_22 (by decide) ?_
      refine k_ldc2_w (pc := 23) (v := (10 : Int64)) C dX11_starts_23 tw5_82 ?_
      obtain ⟨z3, e3, h⟩ := bnd h
      refine k_callsI (pc := 26) C lk_X11_53 (by decide) (kc_X11_in e3) dX11_starts_26 rfl rfl (Nat.le_of_ble_eq_true rfl) ?_
      refine k_if_ne (pc := 29) C 39 dX11_starts_29 (by decide) h (fun c4 h => ?_) (fun c4 h => ?_)
      · refine k_lconst (pc := 39) (v := (0 : Int64)) C dX11_starts_39 (by decide) ?_
        refine k_lstore (pc := 40) C [(4, .long (0 : Int64)), (0, .ref (B.1 10 0)), (1, .int x1), (2, .int x2), (3, .int x3)] dX11_starts_40 (by decide) rfl ?_
        refine k_lconst (pc := 42) (v := (1 : Int64)) C dX11_starts_42 (by decide) ?_
        refine k_lstore (pc := 43) C [(6, .long (1 : Int64)), (4, .long (0 : Int64)), (0, .ref (B.1 10 0)), (1, .int x1), (2, .int x2), (3, .int x3)] dX11_starts_43 (by decide) rfl ?_
        refine k_iconst (pc := 45) (v := (0 : Int32)) C dX11_starts_45 ciconst_0 ?_
        refine k_istore (pc := 46) C [(8, .int (0 : Int32)), (6, .long (1 : Int64)), (4, .long (0 : Int64)), (0, .ref (B.1 10 0)), (1, .int x1), (2, .int x2), (3, .int x3)] dX11_starts_46 (by decide) rfl ?_
        refine k_sub [3, 4, 5, 6, 2, 1, 0] rfl ?_
        exact k_X11_starts_l48 C E FU T x1 x2 x3 (0 : Int64) (1 : Int64) (0 : Int32) h
      · refine k_sub [0] rfl ?_
        exact k_X11_starts_b32 C E T h
def m_X11_years_h83 (rec74 : TT → Int32 → Int64 → Int32 → Int32 → Option (Int32 × TT)) (rec83 : TT → Int32 → Int64 → Int32 → Int32 → Int32 → Option (Int32 × TT)) (T : TT) (x2 : Int32) (x3 : Int64) (x5 : Int32) (x6 : Int32) (x7 : Int32) : Option (Int32 × TT) := (m_X11_many T).bind (fun z11 => if z11 ≤ x7 then (bT (x6 + (1 : Int32)) (fun y12 => rec74 T x2 x3 x5 y12)) else (bT (((x3 * (1103515245 : Int64)) + (12345 : Int64)) - ((x3 * (1103515245 : Int64)) + (12345 : Int64)) / (2147483648 : Int64) * (2147483648 : Int64)) (fun y13 => if inb x7 6 then (bT (sI T 10 6 (T.1 10 7 (Int32.toNatClampNeg x7))) (fun T14 => bT (sI T14 10 7 (0 : Int32)) (fun T15 => (m_X11_kindOf T15 x7).bind (fun z16 => (m_X11_goDay T15 z16 ((T15.1 10 1 16) + x6) (((y13 / (65536 : Int64)) - (y13 / (65536 : Int64)) / (3 : Int64) * (3 : Int64)).toInt32)).bind (fun z17 => if inb x7 6 then bT (sA z17 10 7 (Int32.toNatClampNeg x7) (z17.2.1 10 6)) (fun T18 => bT (x5 + (T18.2.1 10 7)) (fun y19 => bT (x7 + (1 : Int32)) (fun y20 => rec83 T18 x2 y13 y19 x6 y20))) else none))))) else none)))
def m_X11_years_l83 (rec74 : TT → Int32 → Int64 → Int32 → Int32 → Option (Int32 × TT)) : Nat → TT → Int32 → Int64 → Int32 → Int32 → Int32 → Option (Int32 × TT)
  | 0 => fun _ _ _ _ _ _ => none
  | n + 1 => fun T x2 x3 x5 x6 x7 => m_X11_years_h83 rec74 (m_X11_years_l83 rec74 n) T x2 x3 x5 x6 x7
def m_X11_years_h74 (rec74 : TT → Int32 → Int64 → Int32 → Int32 → Option (Int32 × TT)) (T : TT) (x2 : Int32) (x3 : Int64) (x5 : Int32) (x6 : Int32) : Option (Int32 × TT) := if x2 ≤ x6 then (some (x5, T)) else (m_X11_years_l83 rec74 FU T x2 x3 x5 x6 (0 : Int32))
def m_X11_years_l74 : Nat → TT → Int32 → Int64 → Int32 → Int32 → Option (Int32 × TT)
  | 0 => fun _ _ _ _ _ => none
  | n + 1 => fun T x2 x3 x5 x6 => m_X11_years_h74 (m_X11_years_l74 n) T x2 x3 x5 x6
def m_X11_years_h40 (rec40 : TT → Int32 → Int64 → Int32 → Int32 → Option (Int32 × TT)) (T : TT) (x2 : Int32) (x3 : Int64) (x5 : Int32) (x6 : Int32) : Option (Int32 × TT) := (m_X11_many T).bind (fun z6 => if z6 ≤ x6 then (m_X11_years_l74 FU T x2 x3 x5 (0 : Int32)) else (if inb ((4 : Int32) + x6) 175 then (if inb x6 6 then bT (sA T 10 7 (Int32.toNatClampNeg x6) (T.1 10 1 (Int32.toNatClampNeg ((4 : Int32) + x6)))) (fun T7 => bT (x6 + (1 : Int32)) (fun y8 => rec40 T7 x2 x3 x5 y8)) else none) else none))
def m_X11_years_l40 : Nat → TT → Int32 → Int64 → Int32 → Int32 → Option (Int32 × TT)
  | 0 => fun _ _ _ _ _ => none
  | n + 1 => fun T x2 x3 x5 x6 => m_X11_years_h40 (m_X11_years_l40 n) T x2 x3 x5 x6
def m_X11_years_b24 (T : TT) : Option (Int32 × TT) := (m_X11_bad T (-2 : Int32)).bind (fun z22 => some (z22.1, z22.2))
def m_X11_years (T : TT) (x1 : Int32) (x2 : Int32) : Option (Int32 × TT) := (m_X11_in (x1.toInt64) (0 : Int64) (999999 : Int64)).bind (fun z1 => if z1 = 0 then (m_X11_years_b24 T) else ((m_X11_in (x2.toInt64) (0 : Int64) (60 : Int64)).bind (fun z2 => if z2 = 0 then (m_X11_years_b24 T) else (bT (x1.toInt64) (fun y3 => m_X11_years_l40 FU T x2 y3 (0 : Int32) (0 : Int32))))))
set_option maxHeartbeats 4000000 in
set_option maxRecDepth 100000 in
theorem k_X11_years_h83 {B : KB} {X : KE} {rec74 : TT → Int32 → Int64 → Int32 → Int32 → Option (Int32 × TT)} {rec83 : TT → Int32 → Int64 → Int32 → Int32 → Int32 → Option (Int32 × TT)} {res : Int32 × TT} (C : Cx B X "GriefEngineModel" cX11_years 8 4) (E : Cr B X (some .int) (some (.int res.1)) res.2) (hrec74 : ∀ (T : TT) (x2 : Int32) (x3 : Int64) (x5 : Int32) (x6 : Int32), rec74 T x2 x3 x5 x6 = some res → Wk B X 8 T 74 [(0, .ref (B.1 10 0)), (2, .int x2), (3, .long x3), (5, .int x5), (6, .int x6)] []) (hrec83 : ∀ (T : TT) (x2 : Int32) (x3 : Int64) (x5 : Int32) (x6 : Int32) (x7 : Int32), rec83 T x2 x3 x5 x6 x7 = some res → Wk B X 8 T 83 [(0, .ref (B.1 10 0)), (2, .int x2), (3, .long x3), (5, .int x5), (6, .int x6), (7, .int x7)] []) (T : TT) (x2 : Int32) (x3 : Int64) (x5 : Int32) (x6 : Int32) (x7 : Int32) (h : m_X11_years_h83 rec74 rec83 T x2 x3 x5 x6 x7 = some res) : Wk B X 8 T 83 [(0, .ref (B.1 10 0)), (2, .int x2), (3, .long x3), (5, .int x5), (6, .int x6), (7, .int x7)] [] := by
  unfold m_X11_years_h83 at h
  refine k_iload (pc := 83) C dX11_years_83 5 rfl ?_
  refine k_aload_n (pc := 85) C dX11_years_85 0 rfl ?_
  obtain ⟨z11, e11, h⟩ := bnd h
  refine k_callvI (pc := 86) C lk_X11_49 (by decide) ix_X11 wo_X11 rfl rfl (kc_X11_many e11) dX11_years_86 rfl rfl (Nat.le_of_ble_eq_true rfl) ?_
  refine k_icmp_ge (pc := 89) C 178 dX11_years_89 (by decide) h (fun c21 h => ?_) (fun c21 h => ?_)
  · refine k_iincN (pc := 178) (x := x6) (c := (1 : Int32)) C (fun y12 => [(6, .int y12), (0, .ref (B.1 10 0)), (2, .int x2), (3, .long x3), (5, .int x5), (7, .int x7)]) dX11_years_178 4 rfl ciconst_1 (by decide) (fun _ => rfl) h (fun y12 h => ?_)
    refine k_goto (pc := 181) C 74 dX11_years_181 (by decide) ?_
    refine k_sub [1, 2, 3, 4, 0] rfl ?_
    exact hrec74 T x2 x3 x5 y12 h
  · refine k_lload_n (pc := 92) C dX11_years_92 2 rfl ?_
    refine k_ldc2_w (pc := 93) (v := (1103515245 : Int64)) C dX11_years_93 tw5_93 ?_
    refine k_lmul (pc := 96) C dX11_years_96 ?_
    refine k_ldc2_w (pc := 97) (v := (12345 : Int64)) C dX11_years_97 tw5_94 ?_
    refine k_ladd (pc := 100) C dX11_years_100 ?_
    refine k_ldc2_w (pc := 101) (v := (2147483648 : Int64)) C dX11_years_101 tw5_95 ?_
    refine k_lremc (pc := 104) C dX11_years_104 (by decide) ?_
    refine k_nL h (fun y13 h => ?_)
    refine k_lstore_n (pc := 105) C [(3, .long y13), (0, .ref (B.1 10 0)), (2, .int x2), (5, .int x5), (6, .int x6), (7, .int x7)] dX11_years_105 (by decide) rfl ?_
    refine k_aload_n (pc := 106) C dX11_years_106 1 rfl ?_
    refine k_aload_n (pc := 107) C dX11_years_107 1 rfl ?_
    refine gf_X11_33 (pc := 108) C dX11_years_108 ?_
    refine k_iload (pc := 111) C dX11_years_111 5 rfl ?_
    refine k_iald (pc := 113) C ia_10_7 dX11_years_113 h (fun h => ?_)
    refine pf_X11_88 (pc := 114) C dX11_years_114 ?_
    refine k_nT h (fun T14 h => ?_)
    refine k_aload_n (pc := 117) C dX11_years_117 1 rfl ?_
    refine k_iconst (pc := 118) (v := (0 : Int32)) C dX11_years_118 ciconst_0 ?_
    refine pf_X11_84 (pc := 119) C dX11_years_119 ?_
    refine k_nT h (fun T15 h => ?_)
    refine k_aload_n (pc := 122) C dX11_years_122 1 rfl ?_
    refine k_aload_n (pc := 123) C dX11_years_123 1 rfl ?_
    refine k_iload (pc := 124) C dX11_years_124 5 rfl ?_
    obtain ⟨z16, e16, h⟩ := bnd h
    refine k_callvI (pc := 126) C lk_X11_124 (by decide) ix_X11 wo_X11 rfl rfl (kc_X11_kindOf e16) dX11_years_126 rfl rfl (Nat.le_of_ble_eq_true rfl) ?_
    refine k_aload_n (pc := 129) C dX11_years_129 1 rfl ?_
    refine gf_X11_7 (pc := 130) C dX11_years_130 ?_
    refine k_bipush (pc := 133) (v := (16 : Int32)) C dX11_years_133 cbipush_16 ?_
    refine k_ialdc (pc := 135) C ia_10_1 16 dX11_years_135 (by decide) (by decide) ?_
    refine k_iload (pc := 136) C dX11_years_136 4 rfl ?_
    refine k_iadd (pc := 138) C dX11_years_138 ?_
    refine k_lload_n (pc := 139) C dX11_years_139 0 rfl ?_
    refine k_ldc2_w (pc := 140) (v := (65536 : Int64)) C dX11_years_140 tw5_96 ?_
    refine k_ldivc (pc := 143) C dX11_years_143 (by decide) ?_
    refine k_ldc2_w (pc := 144) (v := (3 : Int64)) C dX11_years_144 tw5_30 ?_
    refine k_lremc (pc := 147) C dX11_years_147 (by decide) ?_
    refine k_l2i (pc := 148) C dX11_years_148 ?_
    obtain ⟨z17, e17, h⟩ := bnd h
    refine k_callvV (pc := 149) C lk_X11_101 (by decide) ix_X11 wo_X11 rfl rfl (kc_X11_goDay e17) dX11_years_149 rfl rfl (Nat.le_of_ble_eq_true rfl) ?_
    refine k_aload_n (pc := 152) C dX11_years_152 1 rfl ?_
    refine gf_X11_33 (pc := 153) C dX11_years_153 ?_
    refine k_iload (pc := 156) C dX11_years_156 5 rfl ?_
    refine k_aload_n (pc := 158) C dX11_years_158 1 rfl ?_
    refine gf_X11_88 (pc := 159) C dX11_years_159 ?_
    refine k_iast (pc := 162) C ia_10_7 dX11_years_162 h (fun h => ?_)
    refine k_nT h (fun T18 h => ?_)
    refine k_iload (pc := 163) C dX11_years_163 3 rfl ?_
    refine k_aload_n (pc := 165) C dX11_years_165 1 rfl ?_
    refine gf_X11_84 (pc := 166) C dX11_years_166 ?_
    refine k_iadd (pc := 169) C dX11_years_169 ?_
    refine k_nI h (fun y19 h => ?_)
    refine k_istore (pc := 170) C [(5, .int y19), (3, .long y13), (0, .ref (B.1 10 0)), (2, .int x2), (6, .int x6), (7, .int x7)] dX11_years_170 (by decide) rfl ?_
    refine k_iincN (pc := 172) (x := x7) (c := (1 : Int32)) C (fun y20 => [(7, .int y20), (5, .int y19), (3, .long y13), (0, .ref (B.1 10 0)), (2, .int x2), (6, .int x6)]) dX11_years_172 5 rfl ciconst_1 (by decide) (fun _ => rfl) h (fun y20 h => ?_)
    refine k_goto (pc := 175) C 83 dX11_years_175 (by decide) ?_
    refine k_sub [3, 4, 2, 1, 5, 0] rfl ?_
    exact hrec83 T18 x2 y13 y19 x6 y20 h
set_option maxHeartbeats 4000000 in
set_option maxRecDepth 100000 in
theorem k_X11_years_l83 {B : KB} {X : KE} {rec74 : TT → Int32 → Int64 → Int32 → Int32 → Option (Int32 × TT)} {res : Int32 × TT} (C : Cx B X "GriefEngineModel" cX11_years 8 4) (E : Cr B X (some .int) (some (.int res.1)) res.2) (hrec74 : ∀ (T : TT) (x2 : Int32) (x3 : Int64) (x5 : Int32) (x6 : Int32), rec74 T x2 x3 x5 x6 = some res → Wk B X 8 T 74 [(0, .ref (B.1 10 0)), (2, .int x2), (3, .long x3), (5, .int x5), (6, .int x6)] []) : ∀ (n : Nat) (T : TT) (x2 : Int32) (x3 : Int64) (x5 : Int32) (x6 : Int32) (x7 : Int32) (h : m_X11_years_l83 rec74 n T x2 x3 x5 x6 x7 = some res), Wk B X 8 T 83 [(0, .ref (B.1 10 0)), (2, .int x2), (3, .long x3), (5, .int x5), (6, .int x6), (7, .int x7)] [] := by
  intro n
  induction n with
  | zero =>
    intro T x2 x3 x5 x6 x7 h
    exact no_some h
  | succ n ih =>
    intro T x2 x3 x5 x6 x7 h
    exact k_X11_years_h83 C E hrec74 (fun T x2 x3 x5 x6 x7 h => ih T x2 x3 x5 x6 x7 h) T x2 x3 x5 x6 x7 h
set_option maxHeartbeats 4000000 in
set_option maxRecDepth 100000 in
theorem k_X11_years_h74 {B : KB} {X : KE} {rec74 : TT → Int32 → Int64 → Int32 → Int32 → Option (Int32 × TT)} {res : Int32 × TT} (C : Cx B X "GriefEngineModel" cX11_years 8 4) (E : Cr B X (some .int) (some (.int res.1)) res.2) (hrec74 : ∀ (T : TT) (x2 : Int32) (x3 : Int64) (x5 : Int32) (x6 : Int32), rec74 T x2 x3 x5 x6 = some res → Wk B X 8 T 74 [(0, .ref (B.1 10 0)), (2, .int x2), (3, .long x3), (5, .int x5), (6, .int x6)] []) (T : TT) (x2 : Int32) (x3 : Int64) (x5 : Int32) (x6 : Int32) (h : m_X11_years_h74 rec74 T x2 x3 x5 x6 = some res) : Wk B X 8 T 74 [(0, .ref (B.1 10 0)), (2, .int x2), (3, .long x3), (5, .int x5), (6, .int x6)] [] := by
  unfold m_X11_years_h74 at h
  refine k_iload (pc := 74) C dX11_years_74 4 rfl ?_
  refine k_iload_n (pc := 76) C dX11_years_76 1 rfl ?_
  refine k_icmp_ge (pc := 77) C 184 dX11_years_77 (by decide) h (fun c10 h => ?_) (fun c10 h => ?_)
  · refine k_iload (pc := 184) C dX11_years_184 3 rfl ?_
    exact k_iret (pc := 186) C E (some_1 h) (some_2 h) dX11_years_186
  · refine k_iconst (pc := 80) (v := (0 : Int32)) C dX11_years_80 ciconst_0 ?_
    refine k_istore (pc := 81) C [(7, .int (0 : Int32)), (0, .ref (B.1 10 0)), (2, .int x2), (3, .long x3), (5, .int x5), (6, .int x6)] dX11_years_81 (by decide) rfl ?_
    refine k_sub [1, 2, 3, 4, 5, 0] rfl ?_
    exact k_X11_years_l83 C E hrec74 FU T x2 x3 x5 x6 (0 : Int32) h
set_option maxHeartbeats 4000000 in
set_option maxRecDepth 100000 in
theorem k_X11_years_l74 {B : KB} {X : KE} {res : Int32 × TT} (C : Cx B X "GriefEngineModel" cX11_years 8 4) (E : Cr B X (some .int) (some (.int res.1)) res.2) : ∀ (n : Nat) (T : TT) (x2 : Int32) (x3 : Int64) (x5 : Int32) (x6 : Int32) (h : m_X11_years_l74 n T x2 x3 x5 x6 = some res), Wk B X 8 T 74 [(0, .ref (B.1 10 0)), (2, .int x2), (3, .long x3), (5, .int x5), (6, .int x6)] [] := by
  intro n
  induction n with
  | zero =>
    intro T x2 x3 x5 x6 h
    exact no_some h
  | succ n ih =>
    intro T x2 x3 x5 x6 h
    exact k_X11_years_h74 C E (fun T x2 x3 x5 x6 h => ih T x2 x3 x5 x6 h) T x2 x3 x5 x6 h
set_option maxHeartbeats 4000000 in
set_option maxRecDepth 100000 in
theorem k_X11_years_h40 {B : KB} {X : KE} {rec40 : TT → Int32 → Int64 → Int32 → Int32 → Option (Int32 × TT)} {res : Int32 × TT} (C : Cx B X "GriefEngineModel" cX11_years 8 4) (E : Cr B X (some .int) (some (.int res.1)) res.2) (hrec40 : ∀ (T : TT) (x2 : Int32) (x3 : Int64) (x5 : Int32) (x6 : Int32), rec40 T x2 x3 x5 x6 = some res → Wk B X 8 T 40 [(0, .ref (B.1 10 0)), (2, .int x2), (3, .long x3), (5, .int x5), (6, .int x6)] []) (T : TT) (x2 : Int32) (x3 : Int64) (x5 : Int32) (x6 : Int32) (h : m_X11_years_h40 rec40 T x2 x3 x5 x6 = some res) : Wk B X 8 T 40 [(0, .ref (B.1 10 0)), (2, .int x2), (3, .long x3), (5, .int x5), (6, .int x6)] [] := by
  unfold m_X11_years_h40 at h
  refine k_iload (pc := 40) C dX11_years_40 4 rfl ?_
  refine k_aload_n (pc := 42) C dX11_years_42 0 rfl ?_
  obtain ⟨z6, e6, h⟩ := bnd h
  refine k_callvI (pc := 43) C lk_X11_49 (by decide) ix_X11 wo_X11 rfl rfl (kc_X11_many e6) dX11_years_43 rfl rfl (Nat.le_of_ble_eq_true rfl) ?_
  refine k_icmp_ge (pc := 46) C 71 dX11_years_46 (by decide) h (fun c9 h => ?_) (fun c9 h => ?_)
  · refine k_iconst (pc := 71) (v := (0 : Int32)) C dX11_years_71 ciconst_0 ?_
    refine k_istore (pc := 72) C [(6, .int (0 : Int32)), (0, .ref (B.1 10 0)), (2, .int x2), (3, .long x3), (5, .int x5)] dX11_years_72 (by decide) rfl ?_
    refine k_sub [1, 2, 3, 4, 0] rfl ?_
    exact k_X11_years_l74 C E FU T x2 x3 x5 (0 : Int32) h
  · refine k_aload_n (pc := 49) C dX11_years_49 0 rfl ?_
    refine gf_X11_33 (pc := 50) C dX11_years_50 ?_
    refine k_iload (pc := 53) C dX11_years_53 4 rfl ?_
    refine k_aload_n (pc := 55) C dX11_years_55 0 rfl ?_
    refine gf_X11_7 (pc := 56) C dX11_years_56 ?_
    refine k_iconst (pc := 59) (v := (4 : Int32)) C dX11_years_59 ciconst_4 ?_
    refine k_iload (pc := 60) C dX11_years_60 4 rfl ?_
    refine k_iadd (pc := 62) C dX11_years_62 ?_
    refine k_iald (pc := 63) C ia_10_1 dX11_years_63 h (fun h => ?_)
    refine k_iast (pc := 64) C ia_10_7 dX11_years_64 h (fun h => ?_)
    refine k_nT h (fun T7 h => ?_)
    refine k_iincN (pc := 65) (x := x6) (c := (1 : Int32)) C (fun y8 => [(6, .int y8), (0, .ref (B.1 10 0)), (2, .int x2), (3, .long x3), (5, .int x5)]) dX11_years_65 4 rfl ciconst_1 (by decide) (fun _ => rfl) h (fun y8 h => ?_)
    refine k_goto (pc := 68) C 40 dX11_years_68 (by decide) ?_
    refine k_sub [1, 2, 3, 4, 0] rfl ?_
    exact hrec40 T7 x2 x3 x5 y8 h
set_option maxHeartbeats 4000000 in
set_option maxRecDepth 100000 in
theorem k_X11_years_l40 {B : KB} {X : KE} {res : Int32 × TT} (C : Cx B X "GriefEngineModel" cX11_years 8 4) (E : Cr B X (some .int) (some (.int res.1)) res.2) : ∀ (n : Nat) (T : TT) (x2 : Int32) (x3 : Int64) (x5 : Int32) (x6 : Int32) (h : m_X11_years_l40 n T x2 x3 x5 x6 = some res), Wk B X 8 T 40 [(0, .ref (B.1 10 0)), (2, .int x2), (3, .long x3), (5, .int x5), (6, .int x6)] [] := by
  intro n
  induction n with
  | zero =>
    intro T x2 x3 x5 x6 h
    exact no_some h
  | succ n ih =>
    intro T x2 x3 x5 x6 h
    exact k_X11_years_h40 C E (fun T x2 x3 x5 x6 h => ih T x2 x3 x5 x6 h) T x2 x3 x5 x6 h
set_option maxHeartbeats 4000000 in
set_option maxRecDepth 100000 in
theorem k_X11_years_b24 {B : KB} {X : KE} {res : Int32 × TT} (C : Cx B X "GriefEngineModel" cX11_years 8 4) (E : Cr B X (some .int) (some (.int res.1)) res.2) (T : TT) (h : m_X11_years_b24 T = some res) : Wk B X 8 T 24 [(0, .ref (B.1 10 0))] [] := by
  unfold m_X11_years_b24 at h
  refine k_aload_n (pc := 24) C dX11_years_24 0 rfl ?_
  refine k_bipush (pc := 25) (v := (-2 : Int32)) C dX11_years_25 cbipush_m2 ?_
  obtain ⟨z22, e22, h⟩ := bnd h
  refine k_callvI (pc := 27) C lk_X11_63 (by decide) ix_X11 wo_X11 rfl rfl (kc_X11_bad e22) dX11_years_27 rfl rfl (Nat.le_of_ble_eq_true rfl) ?_
  exact k_iret (pc := 30) C E (some_1 h) (some_2 h) dX11_years_30
set_option maxHeartbeats 4000000 in
set_option maxRecDepth 100000 in
theorem kc_X11_years {B : KB} {l : Launch} {T : TT} {x1 : Int32} {x2 : Int32} {res : Int32 × TT} (h : m_X11_years T x1 x2 = some res) : Kt B l 4 yX11_years cX11_years 8 (some .int) T [.ref (B.1 10 0), .int x1, .int x2] (some (.int res.1)) res.2 := by
  refine Kt.of (by decide) (Nat.le_of_ble_eq_true rfl) (fun X hX C E => ?_)
  subst hX
  have C : Cx B X "GriefEngineModel" cX11_years 8 4 := C
  show Wk B X 8 T 0 [(0, .ref (B.1 10 0)), (1, .int x1), (2, .int x2)] []
  unfold m_X11_years at h
  refine k_iload_n (pc := 0) C dX11_years_0 1 rfl ?_
  refine k_i2l (pc := 1) C dX11_years_1 ?_
  refine k_lconst (pc := 2) (v := (0 : Int64)) C dX11_years_2 (by decide) ?_
  refine k_ldc2_w (pc := 3) (v := (999999 : Int64)) C dX11_years_3 tw5_91 ?_
  obtain ⟨z1, e1, h⟩ := bnd h
  refine k_callsI (pc := 6) C lk_X11_53 (by decide) (kc_X11_in e1) dX11_years_6 rfl rfl (Nat.le_of_ble_eq_true rfl) ?_
  refine k_if_eq (pc := 9) C 24 dX11_years_9 (by decide) h (fun c5 h => ?_) (fun c5 h => ?_)
  · refine k_sub [0] rfl ?_
    exact k_X11_years_b24 C E T h
  · refine k_iload_n (pc := 12) C dX11_years_12 2 rfl ?_
    refine k_i2l (pc := 13) C dX11_years_13 ?_
    refine k_lconst (pc := 14) (v := (0 : Int64)) C dX11_years_14 (by decide) ?_
    refine k_ldc2_w (pc := 15) (v := (60 : Int64)) C dX11_years_15 tw5_92 ?_
    obtain ⟨z2, e2, h⟩ := bnd h
    refine k_callsI (pc := 18) C lk_X11_53 (by decide) (kc_X11_in e2) dX11_years_18 rfl rfl (Nat.le_of_ble_eq_true rfl) ?_
    refine k_if_ne (pc := 21) C 31 dX11_years_21 (by decide) h (fun c4 h => ?_) (fun c4 h => ?_)
    · refine k_iload_n (pc := 31) C dX11_years_31 1 rfl ?_
      refine k_i2l (pc := 32) C dX11_years_32 ?_
      refine k_nL h (fun y3 h => ?_)
      refine k_lstore_n (pc := 33) C [(3, .long y3), (0, .ref (B.1 10 0)), (1, .int x1), (2, .int x2)] dX11_years_33 (by decide) rfl ?_
      refine k_iconst (pc := 34) (v := (0 : Int32)) C dX11_years_34 ciconst_0 ?_
      refine k_istore (pc := 35) C [(5, .int (0 : Int32)), (3, .long y3), (0, .ref (B.1 10 0)), (1, .int x1), (2, .int x2)] dX11_years_35 (by decide) rfl ?_
      refine k_iconst (pc := 37) (v := (0 : Int32)) C dX11_years_37 ciconst_0 ?_
      refine k_istore (pc := 38) C [(6, .int (0 : Int32)), (5, .int (0 : Int32)), (3, .long y3), (0, .ref (B.1 10 0)), (1, .int x1), (2, .int x2)] dX11_years_38 (by decide) rfl ?_
      refine k_sub [3, 5, 2, 1, 0] rfl ?_
      exact k_X11_years_l40 C E FU T x2 y3 (0 : Int32) (0 : Int32) h
    · refine k_sub [0] rfl ?_
      exact k_X11_years_b24 C E T h
def m_X11_type (T : TT) (x1 : Int32) : Option (Int32 × TT) := (m_X11_in (x1.toInt64) (0 : Int64) (127 : Int64)).bind (fun z1 => if z1 = 0 then ((m_X11_bad T (-2 : Int32)).bind (fun z6 => some (z6.1, z6.2))) else (if (T.2.1 10 13) = (150 : Int32) then ((m_X11_full T).bind (fun z4 => some (z4.1, z4.2))) else (if inb (T.2.1 10 13) 150 then bT (sA T 10 8 (Int32.toNatClampNeg (T.2.1 10 13)) x1) (fun T2 => bT (sI T2 10 13 ((T2.2.1 10 13) + (1 : Int32))) (fun T3 => some ((T3.2.1 10 13), T3))) else none)))
set_option maxHeartbeats 4000000 in
set_option maxRecDepth 100000 in
theorem kc_X11_type {B : KB} {l : Launch} {T : TT} {x1 : Int32} {res : Int32 × TT} (h : m_X11_type T x1 = some res) : Kt B l 2 yX11_type cX11_type 2 (some .int) T [.ref (B.1 10 0), .int x1] (some (.int res.1)) res.2 := by
  refine Kt.of (by decide) (Nat.le_of_ble_eq_true rfl) (fun X hX C E => ?_)
  subst hX
  have C : Cx B X "GriefEngineModel" cX11_type 2 2 := C
  show Wk B X 2 T 0 [(0, .ref (B.1 10 0)), (1, .int x1)] []
  unfold m_X11_type at h
  refine k_iload_n (pc := 0) C dX11_type_0 1 rfl ?_
  refine k_i2l (pc := 1) C dX11_type_1 ?_
  refine k_lconst (pc := 2) (v := (0 : Int64)) C dX11_type_2 (by decide) ?_
  refine k_ldc2_w (pc := 3) (v := (127 : Int64)) C dX11_type_3 tw5_101 ?_
  obtain ⟨z1, e1, h⟩ := bnd h
  refine k_callsI (pc := 6) C lk_X11_53 (by decide) (kc_X11_in e1) dX11_type_6 rfl rfl (Nat.le_of_ble_eq_true rfl) ?_
  refine k_if_ne (pc := 9) C 19 dX11_type_9 (by decide) h (fun c7 h => ?_) (fun c7 h => ?_)
  · refine k_aload_n (pc := 19) C dX11_type_19 0 rfl ?_
    refine gf_X11_206 (pc := 20) C dX11_type_20 ?_
    refine k_sipush (pc := 23) (v := (150 : Int32)) C dX11_type_23 csipush_150 ?_
    refine k_icmp_ne (pc := 26) C 34 dX11_type_26 (by decide) h (fun c5 h => ?_) (fun c5 h => ?_)
    · refine k_aload_n (pc := 34) C dX11_type_34 0 rfl ?_
      refine gf_X11_36 (pc := 35) C dX11_type_35 ?_
      refine k_aload_n (pc := 38) C dX11_type_38 0 rfl ?_
      refine gf_X11_206 (pc := 39) C dX11_type_39 ?_
      refine k_iload_n (pc := 42) C dX11_type_42 1 rfl ?_
      refine k_iast (pc := 43) C ia_10_8 dX11_type_43 h (fun h => ?_)
      refine k_nT h (fun T2 h => ?_)
      refine k_aload_n (pc := 44) C dX11_type_44 0 rfl ?_
      refine k_dup (pc := 45) C dX11_type_45 rfl ?_
      refine gf_X11_206 (pc := 46) C dX11_type_46 ?_
      refine k_iconst (pc := 49) (v := (1 : Int32)) C dX11_type_49 ciconst_1 ?_
      refine k_iadd (pc := 50) C dX11_type_50 ?_
      refine pf_X11_206 (pc := 51) C dX11_type_51 ?_
      refine k_nT h (fun T3 h => ?_)
      refine k_aload_n (pc := 54) C dX11_type_54 0 rfl ?_
      refine gf_X11_206 (pc := 55) C dX11_type_55 ?_
      exact k_iret (pc := 58) C E (some_1 h) (some_2 h) dX11_type_58
    · refine k_aload_n (pc := 29) C dX11_type_29 0 rfl ?_
      obtain ⟨z4, e4, h⟩ := bnd h
      refine k_callvI (pc := 30) C lk_X11_67 (by decide) ix_X11 wo_X11 rfl rfl (kc_X11_full e4) dX11_type_30 rfl rfl (Nat.le_of_ble_eq_true rfl) ?_
      exact k_iret (pc := 33) C E (some_1 h) (some_2 h) dX11_type_33
  · refine k_aload_n (pc := 12) C dX11_type_12 0 rfl ?_
    refine k_bipush (pc := 13) (v := (-2 : Int32)) C dX11_type_13 cbipush_m2 ?_
    obtain ⟨z6, e6, h⟩ := bnd h
    refine k_callvI (pc := 15) C lk_X11_63 (by decide) ix_X11 wo_X11 rfl rfl (kc_X11_bad e6) dX11_type_15 rfl rfl (Nat.le_of_ble_eq_true rfl) ?_
    exact k_iret (pc := 18) C E (some_1 h) (some_2 h) dX11_type_18
def m_X11_clear (T : TT) : Option (Int32 × TT) := bT (T.2.1 10 13) (fun y1 => bT (sI T 10 13 (0 : Int32)) (fun T2 => some (y1, T2)))
set_option maxHeartbeats 4000000 in
set_option maxRecDepth 100000 in
theorem kc_X11_clear {B : KB} {l : Launch} {T : TT} {res : Int32 × TT} (h : m_X11_clear T = some res) : Kt B l 1 yX11_clear cX11_clear 2 (some .int) T [.ref (B.1 10 0)] (some (.int res.1)) res.2 := by
  refine Kt.of (by decide) (Nat.le_of_ble_eq_true rfl) (fun X hX C E => ?_)
  subst hX
  have C : Cx B X "GriefEngineModel" cX11_clear 2 1 := C
  show Wk B X 2 T 0 [(0, .ref (B.1 10 0))] []
  unfold m_X11_clear at h
  refine k_aload_n (pc := 0) C dX11_clear_0 0 rfl ?_
  refine gf_X11_206 (pc := 1) C dX11_clear_1 ?_
  refine k_nI h (fun y1 h => ?_)
  refine k_istore_n (pc := 4) C [(1, .int y1), (0, .ref (B.1 10 0))] dX11_clear_4 (by decide) rfl ?_
  refine k_aload_n (pc := 5) C dX11_clear_5 1 rfl ?_
  refine k_iconst (pc := 6) (v := (0 : Int32)) C dX11_clear_6 ciconst_0 ?_
  refine pf_X11_206 (pc := 7) C dX11_clear_7 ?_
  refine k_nT h (fun T2 h => ?_)
  refine k_iload_n (pc := 10) C dX11_clear_10 0 rfl ?_
  exact k_iret (pc := 11) C E (some_1 h) (some_2 h) dX11_clear_11
def m_X11_isSmall (x0 : Int32) : Option (Int32) := (m_X11_in (x0.toInt64) (97 : Int64) (122 : Int64)).bind (fun z1 => if z1 = 0 ∨ z1 = 1 then some z1 else none)
set_option maxHeartbeats 4000000 in
set_option maxRecDepth 100000 in
theorem kc_X11_isSmall {B : KB} {l : Launch} {T : TT} {x0 : Int32} {res : Int32} (h : m_X11_isSmall x0 = some res) : Kt B l 2 yX11_isSmall cX11_isSmall 1 (some .boolean) T [.int x0] (some (.int res)) T := by
  refine Kt.of (by decide) (Nat.le_of_ble_eq_true rfl) (fun X hX C E => ?_)
  subst hX
  have C : Cx B X "GriefEngineModel" cX11_isSmall 1 2 := C
  show Wk B X 1 T 0 [(0, .int x0)] []
  unfold m_X11_isSmall at h
  refine k_iload_n (pc := 0) C dX11_isSmall_0 0 rfl ?_
  refine k_i2l (pc := 1) C dX11_isSmall_1 ?_
  refine k_ldc2_w (pc := 2) (v := (97 : Int64)) C dX11_isSmall_2 tw5_117 ?_
  refine k_ldc2_w (pc := 5) (v := (122 : Int64)) C dX11_isSmall_5 tw5_118 ?_
  obtain ⟨z1, e1, h⟩ := bnd h
  refine k_callsI (pc := 8) C lk_X11_53 (by decide) (kc_X11_in e1) dX11_isSmall_8 rfl rfl (Nat.le_of_ble_eq_true rfl) ?_
  by_cases cz : z1 = 0 ∨ z1 = 1
  · rw [if_pos cz] at h
    exact k_zret (pc := 11) C E (bool01 cz) (some_i h) rfl dX11_isSmall_11
  · rw [if_neg cz] at h
    exact no_some h
def m_X11_isFigure (x0 : Int32) : Option (Int32) := (m_X11_in (x0.toInt64) (48 : Int64) (57 : Int64)).bind (fun z1 => if z1 = 0 ∨ z1 = 1 then some z1 else none)
set_option maxHeartbeats 4000000 in
set_option maxRecDepth 100000 in
theorem kc_X11_isFigure {B : KB} {l : Launch} {T : TT} {x0 : Int32} {res : Int32} (h : m_X11_isFigure x0 = some res) : Kt B l 2 yX11_isFigure cX11_isFigure 1 (some .boolean) T [.int x0] (some (.int res)) T := by
  refine Kt.of (by decide) (Nat.le_of_ble_eq_true rfl) (fun X hX C E => ?_)
  subst hX
  have C : Cx B X "GriefEngineModel" cX11_isFigure 1 2 := C
  show Wk B X 1 T 0 [(0, .int x0)] []
  unfold m_X11_isFigure at h
  refine k_iload_n (pc := 0) C dX11_isFigure_0 0 rfl ?_
  refine k_i2l (pc := 1) C dX11_isFigure_1 ?_
  refine k_ldc2_w (pc := 2) (v := (48 : Int64)) C dX11_isFigure_2 tw5_122 ?_
  refine k_ldc2_w (pc := 5) (v := (57 : Int64)) C dX11_isFigure_5 tw5_123 ?_
  obtain ⟨z1, e1, h⟩ := bnd h
  refine k_callsI (pc := 8) C lk_X11_53 (by decide) (kc_X11_in e1) dX11_isFigure_8 rfl rfl (Nat.le_of_ble_eq_true rfl) ?_
  by_cases cz : z1 = 0 ∨ z1 = 1
  · rw [if_pos cz] at h
    exact k_zret (pc := 11) C E (bool01 cz) (some_i h) rfl dX11_isFigure_11
  · rw [if_neg cz] at h
    exact no_some h
