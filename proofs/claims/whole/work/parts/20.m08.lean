def m_X10_digest_b202 (T : TT) (x1 : Int64) : Option (Int64 × TT) := bT (((31 : Int64) * x1) + (T.2.2.1 4 9)) (fun y18 => some ((((31 : Int64) * y18) + (T.2.2.1 4 10)), T))
def m_X10_digest_h154 (rec154 : TT → Int64 → Int32 → Option (Int64 × TT)) (T : TT) (x1 : Int64) (x3 : Int32) : Option (Int64 × TT) := if ((T.2.1 0 10) * (3 : Int32)) ≤ x3 then (m_X10_digest_b202 T x1) else (if (12 : Int32) ≤ x3 then (m_X10_digest_b202 T x1) else (if inb x3 12 then (bT (((31 : Int64) * x1) + ((T.1 0 6 (Int32.toNatClampNeg x3)).toInt64)) (fun y14 => bT (x3 + (1 : Int32)) (fun y15 => rec154 T y14 y15))) else none))
def m_X10_digest_l154 : Nat → TT → Int64 → Int32 → Option (Int64 × TT)
  | 0 => fun _ _ _ => none
  | n + 1 => fun T x1 x3 => m_X10_digest_h154 (m_X10_digest_l154 n) T x1 x3
def m_X10_digest_b152 (T : TT) (x1 : Int64) : Option (Int64 × TT) := m_X10_digest_l154 FU T x1 (0 : Int32)
def m_X10_digest_h103 (rec103 : TT → Int64 → Int32 → Option (Int64 × TT)) (T : TT) (x1 : Int64) (x3 : Int32) : Option (Int64 × TT) := if ((T.2.1 0 9) * (6 : Int32)) ≤ x3 then (m_X10_digest_b152 T x1) else (if (36 : Int32) ≤ x3 then (m_X10_digest_b152 T x1) else (if inb x3 36 then (bT (((31 : Int64) * x1) + ((T.1 0 5 (Int32.toNatClampNeg x3)).toInt64)) (fun y10 => bT (x3 + (1 : Int32)) (fun y11 => rec103 T y10 y11))) else none))
def m_X10_digest_l103 : Nat → TT → Int64 → Int32 → Option (Int64 × TT)
  | 0 => fun _ _ _ => none
  | n + 1 => fun T x1 x3 => m_X10_digest_h103 (m_X10_digest_l103 n) T x1 x3
def m_X10_digest_h33 (rec33 : TT → Int64 → Int32 → Option (Int64 × TT)) (T : TT) (x1 : Int64) (x3 : Int32) : Option (Int64 × TT) := if (T.2.1 0 7) ≤ x3 then (m_X10_digest_l103 FU T x1 (0 : Int32)) else (if inb x3 6 then (bT (((31 : Int64) * x1) + ((T.1 0 2 (Int32.toNatClampNeg x3)).toInt64)) (fun y5 => if inb x3 6 then (bT (((31 : Int64) * y5) + ((T.1 0 3 (Int32.toNatClampNeg x3)).toInt64)) (fun y6 => if inb x3 6 then (bT (((31 : Int64) * y6) + ((T.1 0 4 (Int32.toNatClampNeg x3)).toInt64)) (fun y7 => bT (x3 + (1 : Int32)) (fun y8 => rec33 T y7 y8))) else none)) else none)) else none)
def m_X10_digest_l33 : Nat → TT → Int64 → Int32 → Option (Int64 × TT)
  | 0 => fun _ _ _ => none
  | n + 1 => fun T x1 x3 => m_X10_digest_h33 (m_X10_digest_l33 n) T x1 x3
def m_X10_digest_h6 (rec6 : TT → Int64 → Int32 → Option (Int64 × TT)) (T : TT) (x1 : Int64) (x3 : Int32) : Option (Int64 × TT) := if (8 : Int32) ≤ x3 then (m_X10_digest_l33 FU T x1 (0 : Int32)) else ((m_X10_count T x3).bind (fun z1 => bT (((31 : Int64) * x1) + (z1.1.toInt64)) (fun y2 => bT (x3 + (1 : Int32)) (fun y3 => rec6 z1.2 y2 y3))))
def m_X10_digest_l6 : Nat → TT → Int64 → Int32 → Option (Int64 × TT)
  | 0 => fun _ _ _ => none
  | n + 1 => fun T x1 x3 => m_X10_digest_h6 (m_X10_digest_l6 n) T x1 x3
def m_X10_digest (T : TT) : Option (Int64 × TT) := m_X10_digest_l6 FU T (1433 : Int64) (0 : Int32)
set_option maxHeartbeats 4000000 in
set_option maxRecDepth 100000 in
theorem k_X10_digest_b202 {B : KB} {X : KE} {res : Int64 × TT} (C : Cx B X "GriefEngine" cX10_digest 4 3) (E : Cr B X (some .long) (some (.long res.1)) res.2) (T : TT) (x1 : Int64) (h : m_X10_digest_b202 T x1 = some res) : Wk B X 4 T 202 [(0, .ref (B.1 4 0)), (1, .long x1)] [] := by
  unfold m_X10_digest_b202 at h
  refine k_ldc2_w (pc := 202) (v := (31 : Int64)) C dX10_digest_202 tw4_50 ?_
  refine k_lload_n (pc := 205) C dX10_digest_205 1 rfl ?_
  refine k_lmul (pc := 206) C dX10_digest_206 ?_
  refine k_aload_n (pc := 207) C dX10_digest_207 0 rfl ?_
  refine gf_X10_55 (pc := 208) C dX10_digest_208 ?_
  refine k_ladd (pc := 211) C dX10_digest_211 ?_
  refine k_nL h (fun y18 h => ?_)
  refine k_lstore_n (pc := 212) C [(1, .long y18), (0, .ref (B.1 4 0))] dX10_digest_212 (by decide) rfl ?_
  refine k_ldc2_w (pc := 213) (v := (31 : Int64)) C dX10_digest_213 tw4_50 ?_
  refine k_lload_n (pc := 216) C dX10_digest_216 0 rfl ?_
  refine k_lmul (pc := 217) C dX10_digest_217 ?_
  refine k_aload_n (pc := 218) C dX10_digest_218 1 rfl ?_
  refine gf_X10_59 (pc := 219) C dX10_digest_219 ?_
  refine k_ladd (pc := 222) C dX10_digest_222 ?_
  exact k_lret (pc := 223) C E (some_1 h) (some_2 h) dX10_digest_223
set_option maxHeartbeats 4000000 in
set_option maxRecDepth 100000 in
theorem k_X10_digest_h154 {B : KB} {X : KE} {rec154 : TT → Int64 → Int32 → Option (Int64 × TT)} {res : Int64 × TT} (C : Cx B X "GriefEngine" cX10_digest 4 3) (E : Cr B X (some .long) (some (.long res.1)) res.2) (hrec154 : ∀ (T : TT) (x1 : Int64) (x3 : Int32), rec154 T x1 x3 = some res → Wk B X 4 T 154 [(0, .ref (B.1 4 0)), (1, .long x1), (3, .int x3)] []) (T : TT) (x1 : Int64) (x3 : Int32) (h : m_X10_digest_h154 rec154 T x1 x3 = some res) : Wk B X 4 T 154 [(0, .ref (B.1 4 0)), (1, .long x1), (3, .int x3)] [] := by
  unfold m_X10_digest_h154 at h
  refine k_iload_n (pc := 154) C dX10_digest_154 2 rfl ?_
  refine k_aload_n (pc := 155) C dX10_digest_155 0 rfl ?_
  refine gf_X10_12 (pc := 156) C dX10_digest_156 ?_
  refine gf_X10_206 (pc := 159) C lt4_0 dX10_digest_159 ?_
  refine k_iconst (pc := 162) (v := (3 : Int32)) C dX10_digest_162 ciconst_3 ?_
  refine k_imul (pc := 163) C dX10_digest_163 ?_
  refine k_icmp_ge (pc := 164) C 202 dX10_digest_164 (by decide) h (fun c17 h => ?_) (fun c17 h => ?_)
  · refine k_sub [0, 1] rfl ?_
    exact k_X10_digest_b202 C E T x1 h
  · refine k_iload_n (pc := 167) C dX10_digest_167 2 rfl ?_
    refine k_aload_n (pc := 168) C dX10_digest_168 0 rfl ?_
    refine gf_X10_12 (pc := 169) C dX10_digest_169 ?_
    refine gf_X10_263 (pc := 172) C lt4_0 dX10_digest_172 ?_
    refine k_ilen (pc := 175) C (ia_R6 lt4_0) (12 : Int32) dX10_digest_175 (by decide) ?_
    refine k_icmp_ge (pc := 176) C 202 dX10_digest_176 (by decide) h (fun c16 h => ?_) (fun c16 h => ?_)
    · refine k_sub [0, 1] rfl ?_
      exact k_X10_digest_b202 C E T x1 h
    · refine k_ldc2_w (pc := 179) (v := (31 : Int64)) C dX10_digest_179 tw4_50 ?_
      refine k_lload_n (pc := 182) C dX10_digest_182 1 rfl ?_
      refine k_lmul (pc := 183) C dX10_digest_183 ?_
      refine k_aload_n (pc := 184) C dX10_digest_184 0 rfl ?_
      refine gf_X10_12 (pc := 185) C dX10_digest_185 ?_
      refine gf_X10_263 (pc := 188) C lt4_0 dX10_digest_188 ?_
      refine k_iload_n (pc := 191) C dX10_digest_191 2 rfl ?_
      refine k_iald (pc := 192) C (ia_R6 lt4_0) dX10_digest_192 h (fun h => ?_)
      refine k_i2l (pc := 193) C dX10_digest_193 ?_
      refine k_ladd (pc := 194) C dX10_digest_194 ?_
      refine k_nL h (fun y14 h => ?_)
      refine k_lstore_n (pc := 195) C [(1, .long y14), (0, .ref (B.1 4 0)), (3, .int x3)] dX10_digest_195 (by decide) rfl ?_
      refine k_iincN (pc := 196) (x := x3) (c := (1 : Int32)) C (fun y15 => [(3, .int y15), (1, .long y14), (0, .ref (B.1 4 0))]) dX10_digest_196 2 rfl ciconst_1 (by decide) (fun _ => rfl) h (fun y15 h => ?_)
      refine k_goto (pc := 199) C 154 dX10_digest_199 (by decide) ?_
      refine k_sub [2, 1, 0] rfl ?_
      exact hrec154 T y14 y15 h
set_option maxHeartbeats 4000000 in
set_option maxRecDepth 100000 in
theorem k_X10_digest_l154 {B : KB} {X : KE} {res : Int64 × TT} (C : Cx B X "GriefEngine" cX10_digest 4 3) (E : Cr B X (some .long) (some (.long res.1)) res.2) : ∀ (n : Nat) (T : TT) (x1 : Int64) (x3 : Int32) (h : m_X10_digest_l154 n T x1 x3 = some res), Wk B X 4 T 154 [(0, .ref (B.1 4 0)), (1, .long x1), (3, .int x3)] [] := by
  intro n
  induction n with
  | zero =>
    intro T x1 x3 h
    exact no_some h
  | succ n ih =>
    intro T x1 x3 h
    exact k_X10_digest_h154 C E (fun T x1 x3 h => ih T x1 x3 h) T x1 x3 h
set_option maxHeartbeats 4000000 in
set_option maxRecDepth 100000 in
theorem k_X10_digest_b152 {B : KB} {X : KE} {res : Int64 × TT} (C : Cx B X "GriefEngine" cX10_digest 4 3) (E : Cr B X (some .long) (some (.long res.1)) res.2) (T : TT) (x1 : Int64) (h : m_X10_digest_b152 T x1 = some res) : Wk B X 4 T 152 [(0, .ref (B.1 4 0)), (1, .long x1)] [] := by
  unfold m_X10_digest_b152 at h
  refine k_iconst (pc := 152) (v := (0 : Int32)) C dX10_digest_152 ciconst_0 ?_
  refine k_istore_n (pc := 153) C [(3, .int (0 : Int32)), (0, .ref (B.1 4 0)), (1, .long x1)] dX10_digest_153 (by decide) rfl ?_
  refine k_sub [1, 2, 0] rfl ?_
  exact k_X10_digest_l154 C E FU T x1 (0 : Int32) h
set_option maxHeartbeats 4000000 in
set_option maxRecDepth 100000 in
theorem k_X10_digest_h103 {B : KB} {X : KE} {rec103 : TT → Int64 → Int32 → Option (Int64 × TT)} {res : Int64 × TT} (C : Cx B X "GriefEngine" cX10_digest 4 3) (E : Cr B X (some .long) (some (.long res.1)) res.2) (hrec103 : ∀ (T : TT) (x1 : Int64) (x3 : Int32), rec103 T x1 x3 = some res → Wk B X 4 T 103 [(0, .ref (B.1 4 0)), (1, .long x1), (3, .int x3)] []) (T : TT) (x1 : Int64) (x3 : Int32) (h : m_X10_digest_h103 rec103 T x1 x3 = some res) : Wk B X 4 T 103 [(0, .ref (B.1 4 0)), (1, .long x1), (3, .int x3)] [] := by
  unfold m_X10_digest_h103 at h
  refine k_iload_n (pc := 103) C dX10_digest_103 2 rfl ?_
  refine k_aload_n (pc := 104) C dX10_digest_104 0 rfl ?_
  refine gf_X10_12 (pc := 105) C dX10_digest_105 ?_
  refine gf_X10_203 (pc := 108) C lt4_0 dX10_digest_108 ?_
  refine k_bipush (pc := 111) (v := (6 : Int32)) C dX10_digest_111 cbipush_6 ?_
  refine k_imul (pc := 113) C dX10_digest_113 ?_
  refine k_icmp_ge (pc := 114) C 152 dX10_digest_114 (by decide) h (fun c13 h => ?_) (fun c13 h => ?_)
  · refine k_sub [0, 1] rfl ?_
    exact k_X10_digest_b152 C E T x1 h
  · refine k_iload_n (pc := 117) C dX10_digest_117 2 rfl ?_
    refine k_aload_n (pc := 118) C dX10_digest_118 0 rfl ?_
    refine gf_X10_12 (pc := 119) C dX10_digest_119 ?_
    refine gf_X10_260 (pc := 122) C lt4_0 dX10_digest_122 ?_
    refine k_ilen (pc := 125) C (ia_R5 lt4_0) (36 : Int32) dX10_digest_125 (by decide) ?_
    refine k_icmp_ge (pc := 126) C 152 dX10_digest_126 (by decide) h (fun c12 h => ?_) (fun c12 h => ?_)
    · refine k_sub [0, 1] rfl ?_
      exact k_X10_digest_b152 C E T x1 h
    · refine k_ldc2_w (pc := 129) (v := (31 : Int64)) C dX10_digest_129 tw4_50 ?_
      refine k_lload_n (pc := 132) C dX10_digest_132 1 rfl ?_
      refine k_lmul (pc := 133) C dX10_digest_133 ?_
      refine k_aload_n (pc := 134) C dX10_digest_134 0 rfl ?_
      refine gf_X10_12 (pc := 135) C dX10_digest_135 ?_
      refine gf_X10_260 (pc := 138) C lt4_0 dX10_digest_138 ?_
      refine k_iload_n (pc := 141) C dX10_digest_141 2 rfl ?_
      refine k_iald (pc := 142) C (ia_R5 lt4_0) dX10_digest_142 h (fun h => ?_)
      refine k_i2l (pc := 143) C dX10_digest_143 ?_
      refine k_ladd (pc := 144) C dX10_digest_144 ?_
      refine k_nL h (fun y10 h => ?_)
      refine k_lstore_n (pc := 145) C [(1, .long y10), (0, .ref (B.1 4 0)), (3, .int x3)] dX10_digest_145 (by decide) rfl ?_
      refine k_iincN (pc := 146) (x := x3) (c := (1 : Int32)) C (fun y11 => [(3, .int y11), (1, .long y10), (0, .ref (B.1 4 0))]) dX10_digest_146 2 rfl ciconst_1 (by decide) (fun _ => rfl) h (fun y11 h => ?_)
      refine k_goto (pc := 149) C 103 dX10_digest_149 (by decide) ?_
      refine k_sub [2, 1, 0] rfl ?_
      exact hrec103 T y10 y11 h
set_option maxHeartbeats 4000000 in
set_option maxRecDepth 100000 in
theorem k_X10_digest_l103 {B : KB} {X : KE} {res : Int64 × TT} (C : Cx B X "GriefEngine" cX10_digest 4 3) (E : Cr B X (some .long) (some (.long res.1)) res.2) : ∀ (n : Nat) (T : TT) (x1 : Int64) (x3 : Int32) (h : m_X10_digest_l103 n T x1 x3 = some res), Wk B X 4 T 103 [(0, .ref (B.1 4 0)), (1, .long x1), (3, .int x3)] [] := by
  intro n
  induction n with
  | zero =>
    intro T x1 x3 h
    exact no_some h
  | succ n ih =>
    intro T x1 x3 h
    exact k_X10_digest_h103 C E (fun T x1 x3 h => ih T x1 x3 h) T x1 x3 h
set_option maxHeartbeats 4000000 in
set_option maxRecDepth 100000 in
theorem k_X10_digest_h33 {B : KB} {X : KE} {rec33 : TT → Int64 → Int32 → Option (Int64 × TT)} {res : Int64 × TT} (C : Cx B X "GriefEngine" cX10_digest 4 3) (E : Cr B X (some .long) (some (.long res.1)) res.2) (hrec33 : ∀ (T : TT) (x1 : Int64) (x3 : Int32), rec33 T x1 x3 = some res → Wk B X 4 T 33 [(0, .ref (B.1 4 0)), (1, .long x1), (3, .int x3)] []) (T : TT) (x1 : Int64) (x3 : Int32) (h : m_X10_digest_h33 rec33 T x1 x3 = some res) : Wk B X 4 T 33 [(0, .ref (B.1 4 0)), (1, .long x1), (3, .int x3)] [] := by
  unfold m_X10_digest_h33 at h
  refine k_iload_n (pc := 33) C dX10_digest_33 2 rfl ?_
  refine k_aload_n (pc := 34) C dX10_digest_34 0 rfl ?_
  refine gf_X10_12 (pc := 35) C dX10_digest_35 ?_
  refine gf_X10_62 (pc := 38) C lt4_0 dX10_digest_38 ?_
  refine k_icmp_ge (pc := 41) C 101 dX10_digest_41 (by decide) h (fun c9 h => ?_) (fun c9 h => ?_)
  · refine k_iconst (pc := 101) (v := (0 : Int32)) C dX10_digest_101 ciconst_0 ?_
    refine k_istore_n (pc := 102) C [(3, .int (0 : Int32)), (0, .ref (B.1 4 0)), (1, .long x1)] dX10_digest_102 (by decide) rfl ?_
    refine k_sub [1, 2, 0] rfl ?_
    exact k_X10_digest_l103 C E FU T x1 (0 : Int32) h
  · refine k_ldc2_w (pc := 44) (v := (31 : Int64)) C dX10_digest_44 tw4_50 ?_
    refine k_lload_n (pc := 47) C dX10_digest_47 1 rfl ?_
    refine k_lmul (pc := 48) C dX10_digest_48 ?_
    refine k_aload_n (pc := 49) C dX10_digest_49 0 rfl ?_
    refine gf_X10_12 (pc := 50) C dX10_digest_50 ?_
    refine gf_X10_144 (pc := 53) C lt4_0 dX10_digest_53 ?_
    refine k_iload_n (pc := 56) C dX10_digest_56 2 rfl ?_
    refine k_iald (pc := 57) C (ia_R2 lt4_0) dX10_digest_57 h (fun h => ?_)
    refine k_i2l (pc := 58) C dX10_digest_58 ?_
    refine k_ladd (pc := 59) C dX10_digest_59 ?_
    refine k_nL h (fun y5 h => ?_)
    refine k_lstore_n (pc := 60) C [(1, .long y5), (0, .ref (B.1 4 0)), (3, .int x3)] dX10_digest_60 (by decide) rfl ?_
    refine k_ldc2_w (pc := 61) (v := (31 : Int64)) C dX10_digest_61 tw4_50 ?_
    refine k_lload_n (pc := 64) C dX10_digest_64 0 rfl ?_
    refine k_lmul (pc := 65) C dX10_digest_65 ?_
    refine k_aload_n (pc := 66) C dX10_digest_66 1 rfl ?_
    refine gf_X10_12 (pc := 67) C dX10_digest_67 ?_
    refine gf_X10_147 (pc := 70) C lt4_0 dX10_digest_70 ?_
    refine k_iload_n (pc := 73) C dX10_digest_73 2 rfl ?_
    refine k_iald (pc := 74) C (ia_R3 lt4_0) dX10_digest_74 h (fun h => ?_)
    refine k_i2l (pc := 75) C dX10_digest_75 ?_
    refine k_ladd (pc := 76) C dX10_digest_76 ?_
    refine k_nL h (fun y6 h => ?_)
    refine k_lstore_n (pc := 77) C [(1, .long y6), (0, .ref (B.1 4 0)), (3, .int x3)] dX10_digest_77 (by decide) rfl ?_
    refine k_ldc2_w (pc := 78) (v := (31 : Int64)) C dX10_digest_78 tw4_50 ?_
    refine k_lload_n (pc := 81) C dX10_digest_81 0 rfl ?_
    refine k_lmul (pc := 82) C dX10_digest_82 ?_
    refine k_aload_n (pc := 83) C dX10_digest_83 1 rfl ?_
    refine gf_X10_12 (pc := 84) C dX10_digest_84 ?_
    refine gf_X10_150 (pc := 87) C lt4_0 dX10_digest_87 ?_
    refine k_iload_n (pc := 90) C dX10_digest_90 2 rfl ?_
    refine k_iald (pc := 91) C (ia_R4 lt4_0) dX10_digest_91 h (fun h => ?_)
    refine k_i2l (pc := 92) C dX10_digest_92 ?_
    refine k_ladd (pc := 93) C dX10_digest_93 ?_
    refine k_nL h (fun y7 h => ?_)
    refine k_lstore_n (pc := 94) C [(1, .long y7), (0, .ref (B.1 4 0)), (3, .int x3)] dX10_digest_94 (by decide) rfl ?_
    refine k_iincN (pc := 95) (x := x3) (c := (1 : Int32)) C (fun y8 => [(3, .int y8), (1, .long y7), (0, .ref (B.1 4 0))]) dX10_digest_95 2 rfl ciconst_1 (by decide) (fun _ => rfl) h (fun y8 h => ?_)
    refine k_goto (pc := 98) C 33 dX10_digest_98 (by decide) ?_
    refine k_sub [2, 1, 0] rfl ?_
    exact hrec33 T y7 y8 h
set_option maxHeartbeats 4000000 in
set_option maxRecDepth 100000 in
theorem k_X10_digest_l33 {B : KB} {X : KE} {res : Int64 × TT} (C : Cx B X "GriefEngine" cX10_digest 4 3) (E : Cr B X (some .long) (some (.long res.1)) res.2) : ∀ (n : Nat) (T : TT) (x1 : Int64) (x3 : Int32) (h : m_X10_digest_l33 n T x1 x3 = some res), Wk B X 4 T 33 [(0, .ref (B.1 4 0)), (1, .long x1), (3, .int x3)] [] := by
  intro n
  induction n with
  | zero =>
    intro T x1 x3 h
    exact no_some h
  | succ n ih =>
    intro T x1 x3 h
    exact k_X10_digest_h33 C E (fun T x1 x3 h => ih T x1 x3 h) T x1 x3 h
set_option maxHeartbeats 4000000 in
set_option maxRecDepth 100000 in
theorem k_X10_digest_h6 {B : KB} {X : KE} {rec6 : TT → Int64 → Int32 → Option (Int64 × TT)} {res : Int64 × TT} (C : Cx B X "GriefEngine" cX10_digest 4 3) (E : Cr B X (some .long) (some (.long res.1)) res.2) (hrec6 : ∀ (T : TT) (x1 : Int64) (x3 : Int32), rec6 T x1 x3 = some res → Wk B X 4 T 6 [(0, .ref (B.1 4 0)), (1, .long x1), (3, .int x3)] []) (T : TT) (x1 : Int64) (x3 : Int32) (h : m_X10_digest_h6 rec6 T x1 x3 = some res) : Wk B X 4 T 6 [(0, .ref (B.1 4 0)), (1, .long x1), (3, .int x3)] [] := by
  unfold m_X10_digest_h6 at h
  refine k_iload_n (pc := 6) C dX10_digest_6 2 rfl ?_
  refine k_bipush (pc := 7) (v := (8 : Int32)) C dX10_digest_7 cbipush_8 ?_
  refine k_icmp_ge (pc := 9) C 31 dX10_digest_9 (by decide) h (fun c4 h => ?_) (fun c4 h => ?_)
  · refine k_iconst (pc := 31) (v := (0 : Int32)) C dX10_digest_31 ciconst_0 ?_
    refine k_istore_n (pc := 32) C [(3, .int (0 : Int32)), (0, .ref (B.1 4 0)), (1, .long x1)] dX10_digest_32 (by decide) rfl ?_
    refine k_sub [1, 2, 0] rfl ?_
    exact k_X10_digest_l33 C E FU T x1 (0 : Int32) h
  · refine k_ldc2_w (pc := 12) (v := (31 : Int64)) C dX10_digest_12 tw4_50 ?_
    refine k_lload_n (pc := 15) C dX10_digest_15 1 rfl ?_
    refine k_lmul (pc := 16) C dX10_digest_16 ?_
    refine k_aload_n (pc := 17) C dX10_digest_17 0 rfl ?_
    refine k_iload_n (pc := 18) C dX10_digest_18 2 rfl ?_
    obtain ⟨z1, e1, h⟩ := bnd h
    refine k_callvI (pc := 19) C lk_X10_257 (by decide) ix_X10 wo_X10 rfl rfl (kc_X10_count e1) dX10_digest_19 rfl rfl (Nat.le_of_ble_eq_true rfl) ?_
    refine k_i2l (pc := 22) C dX10_digest_22 ?_
    refine k_ladd (pc := 23) C dX10_digest_23 ?_
    refine k_nL h (fun y2 h => ?_)
    refine k_lstore_n (pc := 24) C [(1, .long y2), (0, .ref (B.1 4 0)), (3, .int x3)] dX10_digest_24 (by decide) rfl ?_
    refine k_iincN (pc := 25) (x := x3) (c := (1 : Int32)) C (fun y3 => [(3, .int y3), (1, .long y2), (0, .ref (B.1 4 0))]) dX10_digest_25 2 rfl ciconst_1 (by decide) (fun _ => rfl) h (fun y3 h => ?_)
    refine k_goto (pc := 28) C 6 dX10_digest_28 (by decide) ?_
    refine k_sub [2, 1, 0] rfl ?_
    exact hrec6 z1.2 y2 y3 h
set_option maxHeartbeats 4000000 in
set_option maxRecDepth 100000 in
theorem k_X10_digest_l6 {B : KB} {X : KE} {res : Int64 × TT} (C : Cx B X "GriefEngine" cX10_digest 4 3) (E : Cr B X (some .long) (some (.long res.1)) res.2) : ∀ (n : Nat) (T : TT) (x1 : Int64) (x3 : Int32) (h : m_X10_digest_l6 n T x1 x3 = some res), Wk B X 4 T 6 [(0, .ref (B.1 4 0)), (1, .long x1), (3, .int x3)] [] := by
  intro n
  induction n with
  | zero =>
    intro T x1 x3 h
    exact no_some h
  | succ n ih =>
    intro T x1 x3 h
    exact k_X10_digest_h6 C E (fun T x1 x3 h => ih T x1 x3 h) T x1 x3 h
set_option maxHeartbeats 4000000 in
set_option maxRecDepth 100000 in
theorem kc_X10_digest {B : KB} {l : Launch} {T : TT} {res : Int64 × TT} (h : m_X10_digest T = some res) : Kt B l 3 yX10_digest cX10_digest 4 (some .long) T [.ref (B.1 4 0)] (some (.long res.1)) res.2 := by
  refine Kt.of (by decide) (Nat.le_of_ble_eq_true rfl) (fun X hX C E => ?_)
  subst hX
  have C : Cx B X "GriefEngine" cX10_digest 4 3 := C
  show Wk B X 4 T 0 [(0, .ref (B.1 4 0))] []
  unfold m_X10_digest at h
  refine k_ldc2_w (pc := 0) (v := (1433 : Int64)) C dX10_digest_0 tw4_49 ?_
  refine k_lstore_n (pc := 3) C [(1, .long (1433 : Int64)), (0, .ref (B.1 4 0))] dX10_digest_3 (by decide) rfl ?_
  refine k_iconst (pc := 4) (v := (0 : Int32)) C dX10_digest_4 ciconst_0 ?_
  refine k_istore_n (pc := 5) C [(3, .int (0 : Int32)), (1, .long (1433 : Int64)), (0, .ref (B.1 4 0))] dX10_digest_5 (by decide) rfl ?_
  refine k_sub [2, 1, 0] rfl ?_
  exact k_X10_digest_l6 C E FU T (1433 : Int64) (0 : Int32) h
def m_X11_in (x0 : Int64) (x2 : Int64) (x4 : Int64) : Option (Int32) := if (lg_cmp x0 x2) < 0 then (some (0 : Int32)) else (if 0 < (lg_cmp x0 x4) then (some (0 : Int32)) else (some (1 : Int32)))
set_option maxHeartbeats 4000000 in
set_option maxRecDepth 100000 in
theorem kc_X11_in {B : KB} {l : Launch} {T : TT} {x0 : Int64} {x2 : Int64} {x4 : Int64} {res : Int32} (h : m_X11_in x0 x2 x4 = some res) : Kt B l 1 yX11_in cX11_in 6 (some .boolean) T [.long x0, .long x2, .long x4] (some (.int res)) T := by
  refine Kt.of (by decide) (Nat.le_of_ble_eq_true rfl) (fun X hX C E => ?_)
  subst hX
  have C : Cx B X "GriefEngineModel" cX11_in 6 1 := C
  show Wk B X 6 T 0 [(0, .long x0), (2, .long x2), (4, .long x4)] []
  unfold m_X11_in at h
  refine k_lload_n (pc := 0) C dX11_in_0 0 rfl ?_
  refine k_lload_n (pc := 1) C dX11_in_1 1 rfl ?_
  refine k_lcmp (pc := 2) C dX11_in_2 ?_
  refine k_if_lt (pc := 3) C 17 dX11_in_3 (by decide) h (fun c2 h => ?_) (fun c2 h => ?_)
  · refine k_iconst (pc := 17) (v := (0 : Int32)) C dX11_in_17 ciconst_0 ?_
    exact k_zret (pc := 18) C E rfl (some_i h) rfl dX11_in_18
  · refine k_lload_n (pc := 6) C dX11_in_6 0 rfl ?_
    refine k_lload (pc := 7) C dX11_in_7 2 rfl ?_
    refine k_lcmp (pc := 9) C dX11_in_9 ?_
    refine k_if_gt (pc := 10) C 17 dX11_in_10 (by decide) h (fun c1 h => ?_) (fun c1 h => ?_)
    · refine k_iconst (pc := 17) (v := (0 : Int32)) C dX11_in_17 ciconst_0 ?_
      exact k_zret (pc := 18) C E rfl (some_i h) rfl dX11_in_18
    · refine k_iconst (pc := 13) (v := (1 : Int32)) C dX11_in_13 ciconst_1 ?_
      refine k_goto (pc := 14) C 18 dX11_in_14 (by decide) ?_
      exact k_zret (pc := 18) C E rfl (some_i h) rfl dX11_in_18
def m_X11_bad (T : TT) (x1 : Int32) : Option (Int32 × TT) := bT (sA T 10 4 0 ((T.1 10 4 0) + (1 : Int32))) (fun T1 => some (x1, T1))
set_option maxHeartbeats 4000000 in
set_option maxRecDepth 100000 in
theorem kc_X11_bad {B : KB} {l : Launch} {T : TT} {x1 : Int32} {res : Int32 × TT} (h : m_X11_bad T x1 = some res) : Kt B l 1 yX11_bad cX11_bad 2 (some .int) T [.ref (B.1 10 0), .int x1] (some (.int res.1)) res.2 := by
  refine Kt.of (by decide) (Nat.le_of_ble_eq_true rfl) (fun X hX C E => ?_)
  subst hX
  have C : Cx B X "GriefEngineModel" cX11_bad 2 1 := C
  show Wk B X 2 T 0 [(0, .ref (B.1 10 0)), (1, .int x1)] []
  unfold m_X11_bad at h
  refine k_aload_n (pc := 0) C dX11_bad_0 0 rfl ?_
  refine gf_X11_20 (pc := 1) C dX11_bad_1 ?_
  refine k_iconst (pc := 4) (v := (0 : Int32)) C dX11_bad_4 ciconst_0 ?_
  refine k_dup2 (pc := 5) C dX11_bad_5 rfl rfl ?_
  refine k_ialdc (pc := 6) C ia_10_4 0 dX11_bad_6 (by decide) (by decide) ?_
  refine k_iconst (pc := 7) (v := (1 : Int32)) C dX11_bad_7 ciconst_1 ?_
  refine k_iadd (pc := 8) C dX11_bad_8 ?_
  refine k_iastc (pc := 9) C ia_10_4 0 dX11_bad_9 (by decide) (by decide) ?_
  refine k_nT h (fun T1 h => ?_)
  refine k_iload_n (pc := 10) C dX11_bad_10 1 rfl ?_
  exact k_iret (pc := 11) C E (some_1 h) (some_2 h) dX11_bad_11
def m_X11_no (T : TT) : Option (Int32 × TT) := bT (sA T 10 4 1 ((T.1 10 4 1) + (1 : Int32))) (fun T1 => some ((-3 : Int32), T1))
set_option maxHeartbeats 4000000 in
set_option maxRecDepth 100000 in
theorem kc_X11_no {B : KB} {l : Launch} {T : TT} {res : Int32 × TT} (h : m_X11_no T = some res) : Kt B l 1 yX11_no cX11_no 1 (some .int) T [.ref (B.1 10 0)] (some (.int res.1)) res.2 := by
  refine Kt.of (by decide) (Nat.le_of_ble_eq_true rfl) (fun X hX C E => ?_)
  subst hX
  have C : Cx B X "GriefEngineModel" cX11_no 1 1 := C
  show Wk B X 1 T 0 [(0, .ref (B.1 10 0))] []
  unfold m_X11_no at h
  refine k_aload_n (pc := 0) C dX11_no_0 0 rfl ?_
  refine gf_X11_20 (pc := 1) C dX11_no_1 ?_
  refine k_iconst (pc := 4) (v := (1 : Int32)) C dX11_no_4 ciconst_1 ?_
  refine k_dup2 (pc := 5) C dX11_no_5 rfl rfl ?_
  refine k_ialdc (pc := 6) C ia_10_4 1 dX11_no_6 (by decide) (by decide) ?_
  refine k_iconst (pc := 7) (v := (1 : Int32)) C dX11_no_7 ciconst_1 ?_
  refine k_iadd (pc := 8) C dX11_no_8 ?_
  refine k_iastc (pc := 9) C ia_10_4 1 dX11_no_9 (by decide) (by decide) ?_
  refine k_nT h (fun T1 h => ?_)
  refine k_bipush (pc := 10) (v := (-3 : Int32)) C dX11_no_10 cbipush_m3 ?_
  exact k_iret (pc := 12) C E (some_1 h) (some_2 h) dX11_no_12
def m_X11_full (T : TT) : Option (Int32 × TT) := bT (sA T 10 4 2 ((T.1 10 4 2) + (1 : Int32))) (fun T1 => some ((-4 : Int32), T1))
set_option maxHeartbeats 4000000 in
set_option maxRecDepth 100000 in
theorem kc_X11_full {B : KB} {l : Launch} {T : TT} {res : Int32 × TT} (h : m_X11_full T = some res) : Kt B l 1 yX11_full cX11_full 1 (some .int) T [.ref (B.1 10 0)] (some (.int res.1)) res.2 := by
  refine Kt.of (by decide) (Nat.le_of_ble_eq_true rfl) (fun X hX C E => ?_)
  subst hX
  have C : Cx B X "GriefEngineModel" cX11_full 1 1 := C
  show Wk B X 1 T 0 [(0, .ref (B.1 10 0))] []
  unfold m_X11_full at h
  refine k_aload_n (pc := 0) C dX11_full_0 0 rfl ?_
  refine gf_X11_20 (pc := 1) C dX11_full_1 ?_
  refine k_iconst (pc := 4) (v := (2 : Int32)) C dX11_full_4 ciconst_2 ?_
  refine k_dup2 (pc := 5) C dX11_full_5 rfl rfl ?_
  refine k_ialdc (pc := 6) C ia_10_4 2 dX11_full_6 (by decide) (by decide) ?_
  refine k_iconst (pc := 7) (v := (1 : Int32)) C dX11_full_7 ciconst_1 ?_
  refine k_iadd (pc := 8) C dX11_full_8 ?_
  refine k_iastc (pc := 9) C ia_10_4 2 dX11_full_9 (by decide) (by decide) ?_
  refine k_nT h (fun T1 h => ?_)
  refine k_bipush (pc := 10) (v := (-4 : Int32)) C dX11_full_10 cbipush_m4 ?_
  exact k_iret (pc := 12) C E (some_1 h) (some_2 h) dX11_full_12
def m_X11_has (x0 : Int32) (x1 : Int32) : Option (Int32) := if ((x0 >>> (x1 &&& 31)) &&& (1 : Int32)) = (1 : Int32) then (some (1 : Int32)) else (some (0 : Int32))
set_option maxHeartbeats 4000000 in
set_option maxRecDepth 100000 in
theorem kc_X11_has {B : KB} {l : Launch} {T : TT} {x0 : Int32} {x1 : Int32} {res : Int32} (h : m_X11_has x0 x1 = some res) : Kt B l 1 yX11_has cX11_has 2 (some .boolean) T [.int x0, .int x1] (some (.int res)) T := by
  refine Kt.of (by decide) (Nat.le_of_ble_eq_true rfl) (fun X hX C E => ?_)
  subst hX
  have C : Cx B X "GriefEngineModel" cX11_has 2 1 := C
  show Wk B X 2 T 0 [(0, .int x0), (1, .int x1)] []
  unfold m_X11_has at h
  refine k_iload_n (pc := 0) C dX11_has_0 0 rfl ?_
  refine k_iload_n (pc := 1) C dX11_has_1 1 rfl ?_
  refine k_ishr (pc := 2) C dX11_has_2 ?_
  refine k_iconst (pc := 3) (v := (1 : Int32)) C dX11_has_3 ciconst_1 ?_
  refine k_iand (pc := 4) C dX11_has_4 ?_
  refine k_iconst (pc := 5) (v := (1 : Int32)) C dX11_has_5 ciconst_1 ?_
  refine k_icmp_ne (pc := 6) C 13 dX11_has_6 (by decide) h (fun c1 h => ?_) (fun c1 h => ?_)
  · refine k_iconst (pc := 13) (v := (0 : Int32)) C dX11_has_13 ciconst_0 ?_
    exact k_zret (pc := 14) C E rfl (some_i h) rfl dX11_has_14
  · refine k_iconst (pc := 9) (v := (1 : Int32)) C dX11_has_9 ciconst_1 ?_
    refine k_goto (pc := 10) C 14 dX11_has_10 (by decide) ?_
    exact k_zret (pc := 14) C E rfl (some_i h) rfl dX11_has_14
def m_X11_begin_h2 (ag af an : Nat) (rec2 : TT → Int32 → Option (TT)) (T : TT) (x1 : Int32) : Option (TT) := if (71 : Int32) ≤ x1 then (some T) else (if inb x1 an then bT (sA T ag af (Int32.toNatClampNeg x1) (0 : Int32)) (fun T1 => bT (x1 + (1 : Int32)) (fun y2 => rec2 T1 y2)) else none)
def m_X11_begin_l2 (ag af an : Nat) : Nat → TT → Int32 → Option (TT)
  | 0 => fun _ _ => none
  | n + 1 => fun T x1 => m_X11_begin_h2 ag af an (m_X11_begin_l2 ag af an n) T x1
def m_X11_begin (T : TT) (ag af an : Nat) : Option (TT) := m_X11_begin_l2 ag af an FU T (0 : Int32)
set_option maxHeartbeats 4000000 in
set_option maxRecDepth 100000 in
theorem k_X11_begin_h2 {B : KB} {X : KE} {ag af an : Nat} {rec2 : TT → Int32 → Option (TT)} {res : TT} (C : Cx B X "GriefEngineModel" cX11_begin 2 1) (E : Cr B X none none res) (hI : isI B ag af an) (hrec2 : ∀ (T : TT) (x1 : Int32), rec2 T x1 = some res → Wk B X 2 T 2 [(0, .ref (B.1 ag af)), (1, .int x1)] []) (T : TT) (x1 : Int32) (h : m_X11_begin_h2 ag af an rec2 T x1 = some res) : Wk B X 2 T 2 [(0, .ref (B.1 ag af)), (1, .int x1)] [] := by
  unfold m_X11_begin_h2 at h
  refine k_iload_n (pc := 2) C dX11_begin_2 1 rfl ?_
  refine k_bipush (pc := 3) (v := (71 : Int32)) C dX11_begin_3 cbipush_71 ?_
  refine k_icmp_ge (pc := 5) C 18 dX11_begin_5 (by decide) h (fun c3 h => ?_) (fun c3 h => ?_)
  · exact k_vret (pc := 18) C E (some_i h) dX11_begin_18
  · refine k_aload_n (pc := 8) C dX11_begin_8 0 rfl ?_
    refine k_iload_n (pc := 9) C dX11_begin_9 1 rfl ?_
    refine k_iconst (pc := 10) (v := (0 : Int32)) C dX11_begin_10 ciconst_0 ?_
    refine k_iast (pc := 11) C hI dX11_begin_11 h (fun h => ?_)
    refine k_nT h (fun T1 h => ?_)
    refine k_iincN (pc := 12) (x := x1) (c := (1 : Int32)) C (fun y2 => [(1, .int y2), (0, .ref (B.1 ag af))]) dX11_begin_12 1 rfl ciconst_1 (by decide) (fun _ => rfl) h (fun y2 h => ?_)
    refine k_goto (pc := 15) C 2 dX11_begin_15 (by decide) ?_
    refine k_sub [1, 0] rfl ?_
    exact hrec2 T1 y2 h
set_option maxHeartbeats 4000000 in
set_option maxRecDepth 100000 in
theorem k_X11_begin_l2 {B : KB} {X : KE} {ag af an : Nat} {res : TT} (C : Cx B X "GriefEngineModel" cX11_begin 2 1) (E : Cr B X none none res) (hI : isI B ag af an) : ∀ (n : Nat) (T : TT) (x1 : Int32) (h : m_X11_begin_l2 ag af an n T x1 = some res), Wk B X 2 T 2 [(0, .ref (B.1 ag af)), (1, .int x1)] [] := by
  intro n
  induction n with
  | zero =>
    intro T x1 h
    exact no_some h
  | succ n ih =>
    intro T x1 h
    exact k_X11_begin_h2 C E hI (fun T x1 h => ih T x1 h) T x1 h
set_option maxHeartbeats 4000000 in
set_option maxRecDepth 100000 in
theorem kc_X11_begin {B : KB} {l : Launch} {T : TT} {ag af an : Nat} {res : TT} (hI : isI B ag af an) (h : m_X11_begin T ag af an = some res) : Kt B l 1 yX11_begin cX11_begin 2 none T [.ref (B.1 ag af)] none res := by
  refine Kt.of (by decide) (Nat.le_of_ble_eq_true rfl) (fun X hX C E => ?_)
  subst hX
  have C : Cx B X "GriefEngineModel" cX11_begin 2 1 := C
  show Wk B X 2 T 0 [(0, .ref (B.1 ag af))] []
  unfold m_X11_begin at h
  refine k_iconst (pc := 0) (v := (0 : Int32)) C dX11_begin_0 ciconst_0 ?_
  refine k_istore_n (pc := 1) C [(1, .int (0 : Int32)), (0, .ref (B.1 ag af))] dX11_begin_1 (by decide) rfl ?_
  refine k_sub [1, 0] rfl ?_
  exact k_X11_begin_l2 C E hI FU T (0 : Int32) h
def m_X11_many (T : TT) : Option (Int32) := some (T.1 10 1 0)
set_option maxHeartbeats 4000000 in
set_option maxRecDepth 100000 in
theorem kc_X11_many {B : KB} {l : Launch} {T : TT} {res : Int32} (h : m_X11_many T = some res) : Kt B l 1 yX11_many cX11_many 1 (some .int) T [.ref (B.1 10 0)] (some (.int res)) T := by
  refine Kt.of (by decide) (Nat.le_of_ble_eq_true rfl) (fun X hX C E => ?_)
  subst hX
  have C : Cx B X "GriefEngineModel" cX11_many 1 1 := C
  show Wk B X 1 T 0 [(0, .ref (B.1 10 0))] []
  unfold m_X11_many at h
  refine k_aload_n (pc := 0) C dX11_many_0 0 rfl ?_
  refine gf_X11_7 (pc := 1) C dX11_many_1 ?_
  refine k_iconst (pc := 4) (v := (0 : Int32)) C dX11_many_4 ciconst_0 ?_
  refine k_ialdc (pc := 5) C ia_10_1 0 dX11_many_5 (by decide) (by decide) ?_
  exact k_iret (pc := 6) C E (some_i h) rfl dX11_many_6
def m_X11_isDriver (T : TT) (x1 : Int32) : Option (Int32) := (m_X11_many T).bind (fun z1 => (m_X11_in (x1.toInt64) (0 : Int64) ((z1 - (1 : Int32)).toInt64)).bind (fun z2 => if z2 = 0 ∨ z2 = 1 then some z2 else none))
set_option maxHeartbeats 4000000 in
set_option maxRecDepth 100000 in
theorem kc_X11_isDriver {B : KB} {l : Launch} {T : TT} {x1 : Int32} {res : Int32} (h : m_X11_isDriver T x1 = some res) : Kt B l 2 yX11_isDriver cX11_isDriver 2 (some .boolean) T [.ref (B.1 10 0), .int x1] (some (.int res)) T := by
  refine Kt.of (by decide) (Nat.le_of_ble_eq_true rfl) (fun X hX C E => ?_)
  subst hX
  have C : Cx B X "GriefEngineModel" cX11_isDriver 2 2 := C
  show Wk B X 2 T 0 [(0, .ref (B.1 10 0)), (1, .int x1)] []
  unfold m_X11_isDriver at h
  refine k_iload_n (pc := 0) C dX11_isDriver_0 1 rfl ?_
  refine k_i2l (pc := 1) C dX11_isDriver_1 ?_
  refine k_lconst (pc := 2) (v := (0 : Int64)) C dX11_isDriver_2 (by decide) ?_
  refine k_aload_n (pc := 3) C dX11_isDriver_3 0 rfl ?_
  obtain ⟨z1, e1, h⟩ := bnd h
  refine k_callvI (pc := 4) C lk_X11_49 (by decide) ix_X11 wo_X11 rfl rfl (kc_X11_many e1) dX11_isDriver_4 rfl rfl (Nat.le_of_ble_eq_true rfl) ?_
  refine k_iconst (pc := 7) (v := (1 : Int32)) C dX11_isDriver_7 ciconst_1 ?_
  refine k_isub (pc := 8) C dX11_isDriver_8 ?_
  refine k_i2l (pc := 9) C dX11_isDriver_9 ?_
  obtain ⟨z2, e2, h⟩ := bnd h
  refine k_callsI (pc := 10) C lk_X11_53 (by decide) (kc_X11_in e2) dX11_isDriver_10 rfl rfl (Nat.le_of_ble_eq_true rfl) ?_
  by_cases cz : z2 = 0 ∨ z2 = 1
  · rw [if_pos cz] at h
    exact k_zret (pc := 13) C E (bool01 cz) (some_i h) rfl dX11_isDriver_13
  · rw [if_neg cz] at h
    exact no_some h
def m_X11_isChoice (x0 : Int32) : Option (Int32) := (m_X11_in (x0.toInt64) (0 : Int64) (2 : Int64)).bind (fun z1 => if z1 = 0 ∨ z1 = 1 then some z1 else none)
set_option maxHeartbeats 4000000 in
set_option maxRecDepth 100000 in
theorem kc_X11_isChoice {B : KB} {l : Launch} {T : TT} {x0 : Int32} {res : Int32} (h : m_X11_isChoice x0 = some res) : Kt B l 2 yX11_isChoice cX11_isChoice 1 (some .boolean) T [.int x0] (some (.int res)) T := by
  refine Kt.of (by decide) (Nat.le_of_ble_eq_true rfl) (fun X hX C E => ?_)
  subst hX
  have C : Cx B X "GriefEngineModel" cX11_isChoice 1 2 := C
  show Wk B X 1 T 0 [(0, .int x0)] []
  unfold m_X11_isChoice at h
  refine k_iload_n (pc := 0) C dX11_isChoice_0 0 rfl ?_
  refine k_i2l (pc := 1) C dX11_isChoice_1 ?_
  refine k_lconst (pc := 2) (v := (0 : Int64)) C dX11_isChoice_2 (by decide) ?_
  refine k_ldc2_w (pc := 3) (v := (2 : Int64)) C dX11_isChoice_3 tw4_157 ?_
  obtain ⟨z1, e1, h⟩ := bnd h
  refine k_callsI (pc := 6) C lk_X11_53 (by decide) (kc_X11_in e1) dX11_isChoice_6 rfl rfl (Nat.le_of_ble_eq_true rfl) ?_
  by_cases cz : z1 = 0 ∨ z1 = 1
  · rw [if_pos cz] at h
    exact k_zret (pc := 9) C E (bool01 cz) (some_i h) rfl dX11_isChoice_9
  · rw [if_neg cz] at h
    exact no_some h
def m_X11_rank (T : TT) : Option (Int32 × TT) := (m_X11_many T).bind (fun z1 => (m_X11_begin T 10 1 175).bind (fun z2 => some (z1, z2)))
set_option maxHeartbeats 4000000 in
set_option maxRecDepth 100000 in
theorem kc_X11_rank {B : KB} {l : Launch} {T : TT} {res : Int32 × TT} (h : m_X11_rank T = some res) : Kt B l 2 yX11_rank cX11_rank 2 (some .int) T [.ref (B.1 10 0)] (some (.int res.1)) res.2 := by
  refine Kt.of (by decide) (Nat.le_of_ble_eq_true rfl) (fun X hX C E => ?_)
  subst hX
  have C : Cx B X "GriefEngineModel" cX11_rank 2 2 := C
  show Wk B X 2 T 0 [(0, .ref (B.1 10 0))] []
  unfold m_X11_rank at h
  refine k_aload_n (pc := 0) C dX11_rank_0 0 rfl ?_
  obtain ⟨z1, e1, h⟩ := bnd h
  refine k_callvI (pc := 1) C lk_X11_49 (by decide) ix_X11 wo_X11 rfl rfl (kc_X11_many e1) dX11_rank_1 rfl rfl (Nat.le_of_ble_eq_true rfl) ?_
  refine k_istore_n (pc := 4) C [(1, .int z1), (0, .ref (B.1 10 0))] dX11_rank_4 (by decide) rfl ?_
  refine k_aload_n (pc := 5) C dX11_rank_5 1 rfl ?_
  refine gf_X11_7 (pc := 6) C dX11_rank_6 ?_
  obtain ⟨z2, e2, h⟩ := bnd h
  refine k_callsV (pc := 9) C lk_X11_45 (by decide) (kc_X11_begin ia_10_1 e2) dX11_rank_9 rfl rfl (Nat.le_of_ble_eq_true rfl) ?_
  refine k_iload_n (pc := 12) C dX11_rank_12 0 rfl ?_
  exact k_iret (pc := 13) C E (some_1 h) (some_2 h) dX11_rank_13
def m_X11_layDriver (T : TT) (ag af an : Nat) (x1 : Int32) (x2 : Int32) : Option (TT) := if inb (0 : Int32) an then (bT (T.1 ag af (Int32.toNatClampNeg (0 : Int32))) (fun y1 => if inb ((17 : Int32) + y1) an then bT (sA T ag af (Int32.toNatClampNeg ((17 : Int32) + y1)) x1) (fun T2 => if inb ((4 : Int32) + y1) an then bT (sA T2 ag af (Int32.toNatClampNeg ((4 : Int32) + y1)) x2) (fun T3 => if inb ((10 : Int32) + y1) an then bT (sA T3 ag af (Int32.toNatClampNeg ((10 : Int32) + y1)) (0 : Int32)) (fun T4 => if inb (0 : Int32) an then (if inb (0 : Int32) an then bT (sA T4 ag af (Int32.toNatClampNeg (0 : Int32)) ((T4.1 ag af (Int32.toNatClampNeg (0 : Int32))) + (1 : Int32))) (fun T5 => some T5) else none) else none) else none) else none) else none)) else none
set_option maxHeartbeats 4000000 in
set_option maxRecDepth 100000 in
theorem kc_X11_layDriver {B : KB} {l : Launch} {T : TT} {ag af an : Nat} {x1 : Int32} {x2 : Int32} {res : TT} (hI : isI B ag af an) (h : m_X11_layDriver T ag af an x1 x2 = some res) : Kt B l 1 yX11_layDriver cX11_layDriver 4 none T [.ref (B.1 ag af), .int x1, .int x2] none res := by
  refine Kt.of (by decide) (Nat.le_of_ble_eq_true rfl) (fun X hX C E => ?_)
  subst hX
  have C : Cx B X "GriefEngineModel" cX11_layDriver 4 1 := C
  show Wk B X 4 T 0 [(0, .ref (B.1 ag af)), (1, .int x1), (2, .int x2)] []
  unfold m_X11_layDriver at h
  refine k_aload_n (pc := 0) C dX11_layDriver_0 0 rfl ?_
  refine k_iconst (pc := 1) (v := (0 : Int32)) C dX11_layDriver_1 ciconst_0 ?_
  refine k_iald (pc := 2) C hI dX11_layDriver_2 h (fun h => ?_)
  refine k_nI h (fun y1 h => ?_)
  refine k_istore_n (pc := 3) C [(3, .int y1), (0, .ref (B.1 ag af)), (1, .int x1), (2, .int x2)] dX11_layDriver_3 (by decide) rfl ?_
  refine k_aload_n (pc := 4) C dX11_layDriver_4 1 rfl ?_
  refine k_bipush (pc := 5) (v := (17 : Int32)) C dX11_layDriver_5 cbipush_17 ?_
  refine k_iload_n (pc := 7) C dX11_layDriver_7 0 rfl ?_
  refine k_iadd (pc := 8) C dX11_layDriver_8 ?_
  refine k_iload_n (pc := 9) C dX11_layDriver_9 2 rfl ?_
  refine k_iast (pc := 10) C hI dX11_layDriver_10 h (fun h => ?_)
  refine k_nT h (fun T2 h => ?_)
  refine k_aload_n (pc := 11) C dX11_layDriver_11 1 rfl ?_
  refine k_iconst (pc := 12) (v := (4 : Int32)) C dX11_layDriver_12 ciconst_4 ?_
  refine k_iload_n (pc := 13) C dX11_layDriver_13 0 rfl ?_
  refine k_iadd (pc := 14) C dX11_layDriver_14 ?_
  refine k_iload_n (pc := 15) C dX11_layDriver_15 3 rfl ?_
  refine k_iast (pc := 16) C hI dX11_layDriver_16 h (fun h => ?_)
  refine k_nT h (fun T3 h => ?_)
  refine k_aload_n (pc := 17) C dX11_layDriver_17 1 rfl ?_
  refine k_bipush (pc := 18) (v := (10 : Int32)) C dX11_layDriver_18 cbipush_10 ?_
  refine k_iload_n (pc := 20) C dX11_layDriver_20 0 rfl ?_
  refine k_iadd (pc := 21) C dX11_layDriver_21 ?_
  refine k_iconst (pc := 22) (v := (0 : Int32)) C dX11_layDriver_22 ciconst_0 ?_
  refine k_iast (pc := 23) C hI dX11_layDriver_23 h (fun h => ?_)
  refine k_nT h (fun T4 h => ?_)
  refine k_aload_n (pc := 24) C dX11_layDriver_24 1 rfl ?_
  refine k_iconst (pc := 25) (v := (0 : Int32)) C dX11_layDriver_25 ciconst_0 ?_
  refine k_dup2 (pc := 26) C dX11_layDriver_26 rfl rfl ?_
  refine k_iald (pc := 27) C hI dX11_layDriver_27 h (fun h => ?_)
  refine k_iconst (pc := 28) (v := (1 : Int32)) C dX11_layDriver_28 ciconst_1 ?_
  refine k_iadd (pc := 29) C dX11_layDriver_29 ?_
  refine k_iast (pc := 30) C hI dX11_layDriver_30 h (fun h => ?_)
  refine k_nT h (fun T5 h => ?_)
  exact k_vret (pc := 31) C E (some_i h) dX11_layDriver_31
def m_X11_driver_b24 (T : TT) : Option (Int32 × TT) := (m_X11_bad T (-2 : Int32)).bind (fun z11 => some (z11.1, z11.2))
def m_X11_driver (T : TT) (x1 : Int32) (x2 : Int32) : Option (Int32 × TT) := (m_X11_in (x1.toInt64) (0 : Int64) (5 : Int64)).bind (fun z1 => if z1 = 0 then (m_X11_driver_b24 T) else ((m_X11_in (x2.toInt64) (0 : Int64) (99 : Int64)).bind (fun z2 => if z2 = 0 then (m_X11_driver_b24 T) else ((m_X11_many T).bind (fun z3 => if z3 = (6 : Int32) then ((m_X11_full T).bind (fun z7 => some (z7.1, z7.2))) else ((m_X11_layDriver T 10 1 175 x1 x2).bind (fun z4 => bT (sA z4 10 1 3 (0 : Int32)) (fun T5 => (m_X11_many T5).bind (fun z6 => some ((z6 - (1 : Int32)), T5))))))))))
set_option maxHeartbeats 4000000 in
set_option maxRecDepth 100000 in
theorem k_X11_driver_b24 {B : KB} {X : KE} {res : Int32 × TT} (C : Cx B X "GriefEngineModel" cX11_driver 3 2) (E : Cr B X (some .int) (some (.int res.1)) res.2) (T : TT) (h : m_X11_driver_b24 T = some res) : Wk B X 3 T 24 [(0, .ref (B.1 10 0))] [] := by
  unfold m_X11_driver_b24 at h
  refine k_aload_n (pc := 24) C dX11_driver_24 0 rfl ?_
  refine k_bipush (pc := 25) (v := (-2 : Int32)) C dX11_driver_25 cbipush_m2 ?_
  obtain ⟨z11, e11, h⟩ := bnd h
  refine k_callvI (pc := 27) C lk_X11_63 (by decide) ix_X11 wo_X11 rfl rfl (kc_X11_bad e11) dX11_driver_27 rfl rfl (Nat.le_of_ble_eq_true rfl) ?_
  exact k_iret (pc := 30) C E (some_1 h) (some_2 h) dX11_driver_30
set_option maxHeartbeats 4000000 in
set_option maxRecDepth 100000 in
theorem kc_X11_driver {B : KB} {l : Launch} {T : TT} {x1 : Int32} {x2 : Int32} {res : Int32 × TT} (h : m_X11_driver T x1 x2 = some res) : Kt B l 2 yX11_driver cX11_driver 3 (some .int) T [.ref (B.1 10 0), .int x1, .int x2] (some (.int res.1)) res.2 := by
  refine Kt.of (by decide) (Nat.le_of_ble_eq_true rfl) (fun X hX C E => ?_)
  subst hX
  have C : Cx B X "GriefEngineModel" cX11_driver 3 2 := C
  show Wk B X 3 T 0 [(0, .ref (B.1 10 0)), (1, .int x1), (2, .int x2)] []
  unfold m_X11_driver at h
  refine k_iload_n (pc := 0) C dX11_driver_0 1 rfl ?_
  refine k_i2l (pc := 1) C dX11_driver_1 ?_
  refine k_lconst (pc := 2) (v := (0 : Int64)) C dX11_driver_2 (by decide) ?_
  refine k_ldc2_w (pc := 3) (v := (5 : Int64)) C dX11_driver_3 tw4_134 ?_
  obtain ⟨z1, e1, h⟩ := bnd h
  refine k_callsI (pc := 6) C lk_X11_53 (by decide) (kc_X11_in e1) dX11_driver_6 rfl rfl (Nat.le_of_ble_eq_true rfl) ?_
  refine k_if_eq (pc := 9) C 24 dX11_driver_9 (by decide) h (fun c10 h => ?_) (fun c10 h => ?_)
  · refine k_sub [0] rfl ?_
    exact k_X11_driver_b24 C E T h
  · refine k_iload_n (pc := 12) C dX11_driver_12 2 rfl ?_
    refine k_i2l (pc := 13) C dX11_driver_13 ?_
    refine k_lconst (pc := 14) (v := (0 : Int64)) C dX11_driver_14 (by decide) ?_
    refine k_ldc2_w (pc := 15) (v := (99 : Int64)) C dX11_driver_15 tw4_138 ?_
    obtain ⟨z2, e2, h⟩ := bnd h
    refine k_callsI (pc := 18) C lk_X11_53 (by decide) (kc_X11_in e2) dX11_driver_18 rfl rfl (Nat.le_of_ble_eq_true rfl) ?_
    refine k_if_ne (pc := 21) C 31 dX11_driver_21 (by decide) h (fun c9 h => ?_) (fun c9 h => ?_)
    · refine k_aload_n (pc := 31) C dX11_driver_31 0 rfl ?_
      obtain ⟨z3, e3, h⟩ := bnd h
      refine k_callvI (pc := 32) C lk_X11_49 (by decide) ix_X11 wo_X11 rfl rfl (kc_X11_many e3) dX11_driver_32 rfl rfl (Nat.le_of_ble_eq_true rfl) ?_
      refine k_bipush (pc := 35) (v := (6 : Int32)) C dX11_driver_35 cbipush_6 ?_
      refine k_icmp_ne (pc := 37) C 45 dX11_driver_37 (by decide) h (fun c8 h => ?_) (fun c8 h => ?_)
      · refine k_aload_n (pc := 45) C dX11_driver_45 0 rfl ?_
        refine gf_X11_7 (pc := 46) C dX11_driver_46 ?_
        refine k_iload_n (pc := 49) C dX11_driver_49 1 rfl ?_
        refine k_iload_n (pc := 50) C dX11_driver_50 2 rfl ?_
        obtain ⟨z4, e4, h⟩ := bnd h
        refine k_callsV (pc := 51) C lk_X11_70 (by decide) (kc_X11_layDriver ia_10_1 e4) dX11_driver_51 rfl rfl (Nat.le_of_ble_eq_true rfl) ?_
        refine k_aload_n (pc := 54) C dX11_driver_54 0 rfl ?_
        refine gf_X11_7 (pc := 55) C dX11_driver_55 ?_
        refine k_iconst (pc := 58) (v := (3 : Int32)) C dX11_driver_58 ciconst_3 ?_
        refine k_iconst (pc := 59) (v := (0 : Int32)) C dX11_driver_59 ciconst_0 ?_
        refine k_iastc (pc := 60) C ia_10_1 3 dX11_driver_60 (by decide) (by decide) ?_
        refine k_nT h (fun T5 h => ?_)
        refine k_aload_n (pc := 61) C dX11_driver_61 0 rfl ?_
        obtain ⟨z6, e6, h⟩ := bnd h
        refine k_callvI (pc := 62) C lk_X11_49 (by decide) ix_X11 wo_X11 rfl rfl (kc_X11_many e6) dX11_driver_62 rfl rfl (Nat.le_of_ble_eq_true rfl) ?_
        refine k_iconst (pc := 65) (v := (1 : Int32)) C dX11_driver_65 ciconst_1 ?_
        refine k_isub (pc := 66) C dX11_driver_66 ?_
        exact k_iret (pc := 67) C E (some_1 h) (some_2 h) dX11_driver_67
      · refine k_aload_n (pc := 40) C dX11_driver_40 0 rfl ?_
        obtain ⟨z7, e7, h⟩ := bnd h
        refine k_callvI (pc := 41) C lk_X11_67 (by decide) ix_X11 wo_X11 rfl rfl (kc_X11_full e7) dX11_driver_41 rfl rfl (Nat.le_of_ble_eq_true rfl) ?_
        exact k_iret (pc := 44) C E (some_1 h) (some_2 h) dX11_driver_44
    · refine k_sub [0] rfl ?_
      exact k_X11_driver_b24 C E T h
def m_X11_seasonOf (x0 : Int32) : Option (Int32) := some ((x0 / (20 : Int32)) - (x0 / (20 : Int32)) / (4 : Int32) * (4 : Int32))
set_option maxHeartbeats 4000000 in
set_option maxRecDepth 100000 in
theorem kc_X11_seasonOf {B : KB} {l : Launch} {T : TT} {x0 : Int32} {res : Int32} (h : m_X11_seasonOf x0 = some res) : Kt B l 1 yX11_seasonOf cX11_seasonOf 1 (some .int) T [.int x0] (some (.int res)) T := by
  refine Kt.of (by decide) (Nat.le_of_ble_eq_true rfl) (fun X hX C E => ?_)
  subst hX
  have C : Cx B X "GriefEngineModel" cX11_seasonOf 1 1 := C
  show Wk B X 1 T 0 [(0, .int x0)] []
  unfold m_X11_seasonOf at h
  refine k_iload_n (pc := 0) C dX11_seasonOf_0 0 rfl ?_
  refine k_bipush (pc := 1) (v := (20 : Int32)) C dX11_seasonOf_1 cbipush_20 ?_
  refine k_idivc (pc := 3) C dX11_seasonOf_3 (by decide) ?_
  refine k_iconst (pc := 4) (v := (4 : Int32)) C dX11_seasonOf_4 ciconst_4 ?_
  refine k_iremc (pc := 5) C dX11_seasonOf_5 (by decide) ?_
  exact k_iret (pc := 6) C E (some_i h) rfl dX11_seasonOf_6
def m_X11_runsAs_b22 (x0 : Int32) (x3 : Int32) (s0 : Int32) : Option (Int32) := if x0 = (2 : Int32) then (some (x3 / (3 : Int32))) else (if x0 = (3 : Int32) then (some s0) else (if x0 = (4 : Int32) then (some x3) else (if x0 = (5 : Int32) then (if s0 ≤ (30 : Int32) then (some s0) else (some (30 : Int32))) else (some x3))))
def m_X11_runsAs_b11 (x0 : Int32) (x2 : Int32) (s0 : Int32) : Option (Int32) := if x2 = (1 : Int32) then (m_X11_runsAs_b22 x0 s0 (0 : Int32)) else (m_X11_runsAs_b22 x0 s0 s0)
def m_X11_runsAs (x0 : Int32) (x1 : Int32) (x2 : Int32) : Option (Int32) := if x2 = 0 then (m_X11_runsAs_b11 x0 x2 x1) else (m_X11_runsAs_b11 x0 x2 ((2 : Int32) * x1))
set_option maxHeartbeats 4000000 in
set_option maxRecDepth 100000 in
theorem k_X11_runsAs_b22 {B : KB} {X : KE} {T0 : TT} {res : Int32} (C : Cx B X "GriefEngineModel" cX11_runsAs 5 1) (E : Cr B X (some .int) (some (.int res)) T0) (x0 : Int32) (x3 : Int32) (s0 : Int32) (h : m_X11_runsAs_b22 x0 x3 s0 = some res) : Wk B X 5 T0 22 [(0, .int x0), (3, .int x3)] [.int s0] := by
  unfold m_X11_runsAs_b22 at h
  refine k_istore (pc := 22) C [(4, .int s0), (0, .int x0), (3, .int x3)] dX11_runsAs_22 (by decide) rfl ?_
  refine k_iload_n (pc := 24) C dX11_runsAs_24 1 rfl ?_
  by_cases c3 : x0 = (2 : Int32)
  · rw [if_pos c3] at h
    refine k_tabIn (pc := 25) C 56 (2 : Int32) dX11_runsAs_25 c3 (by decide) (by decide) rfl (by decide) ?_
    refine k_iload_n (pc := 56) C dX11_runsAs_56 2 rfl ?_
    refine k_iconst (pc := 57) (v := (3 : Int32)) C dX11_runsAs_57 ciconst_3 ?_
    refine k_idivc (pc := 58) C dX11_runsAs_58 (by decide) ?_
    exact k_iret (pc := 59) C E (some_i h) rfl dX11_runsAs_59
  · rw [if_neg c3] at h
    by_cases c4 : x0 = (3 : Int32)
    · rw [if_pos c4] at h
      refine k_tabIn (pc := 25) C 60 (3 : Int32) dX11_runsAs_25 c4 (by decide) (by decide) rfl (by decide) ?_
      refine k_iload (pc := 60) C dX11_runsAs_60 0 rfl ?_
      exact k_iret (pc := 62) C E (some_i h) rfl dX11_runsAs_62
    · rw [if_neg c4] at h
      by_cases c5 : x0 = (4 : Int32)
      · rw [if_pos c5] at h
        refine k_tabIn (pc := 25) C 78 (4 : Int32) dX11_runsAs_25 c5 (by decide) (by decide) rfl (by decide) ?_
        refine k_iload_n (pc := 78) C dX11_runsAs_78 2 rfl ?_
        exact k_iret (pc := 79) C E (some_i h) rfl dX11_runsAs_79
      · rw [if_neg c5] at h
        by_cases c6 : x0 = (5 : Int32)
        · rw [if_pos c6] at h
          refine k_tabIn (pc := 25) C 63 (5 : Int32) dX11_runsAs_25 c6 (by decide) (by decide) rfl (by decide) ?_
          refine k_iload (pc := 63) C dX11_runsAs_63 0 rfl ?_
          refine k_bipush (pc := 65) (v := (30 : Int32)) C dX11_runsAs_65 cbipush_30 ?_
          refine k_icmp_le (pc := 67) C 75 dX11_runsAs_67 (by decide) h (fun c7 h => ?_) (fun c7 h => ?_)
          · refine k_iload (pc := 75) C dX11_runsAs_75 0 rfl ?_
            exact k_iret (pc := 77) C E (some_i h) rfl dX11_runsAs_77
          · refine k_bipush (pc := 70) (v := (30 : Int32)) C dX11_runsAs_70 cbipush_30 ?_
            refine k_goto (pc := 72) C 77 dX11_runsAs_72 (by decide) ?_
            exact k_iret (pc := 77) C E (some_i h) rfl dX11_runsAs_77
        · rw [if_neg c6] at h
          have n3 : x0.toInt ≠ 2 := ne_toInt c3
          have n4 : x0.toInt ≠ 3 := ne_toInt c4
          have n5 : x0.toInt ≠ 4 := ne_toInt c5
          have n6 : x0.toInt ≠ 5 := ne_toInt c6
          refine k_tabOut (pc := 25) C 78 dX11_runsAs_25 (by omega) (by decide) ?_
          refine k_iload_n (pc := 78) C dX11_runsAs_78 2 rfl ?_
          exact k_iret (pc := 79) C E (some_i h) rfl dX11_runsAs_79
set_option maxHeartbeats 4000000 in
set_option maxRecDepth 100000 in
theorem k_X11_runsAs_b11 {B : KB} {X : KE} {T0 : TT} {res : Int32} (C : Cx B X "GriefEngineModel" cX11_runsAs 5 1) (E : Cr B X (some .int) (some (.int res)) T0) (x0 : Int32) (x2 : Int32) (s0 : Int32) (h : m_X11_runsAs_b11 x0 x2 s0 = some res) : Wk B X 5 T0 11 [(0, .int x0), (2, .int x2)] [.int s0] := by
  unfold m_X11_runsAs_b11 at h
  refine k_istore_n (pc := 11) C [(3, .int s0), (0, .int x0), (2, .int x2)] dX11_runsAs_11 (by decide) rfl ?_
  refine k_iload_n (pc := 12) C dX11_runsAs_12 2 rfl ?_
  refine k_iconst (pc := 13) (v := (1 : Int32)) C dX11_runsAs_13 ciconst_1 ?_
  refine k_icmp_ne (pc := 14) C 21 dX11_runsAs_14 (by decide) h (fun c2 h => ?_) (fun c2 h => ?_)
  · refine k_iload_n (pc := 21) C dX11_runsAs_21 0 rfl ?_
    refine k_sub [1, 0] rfl ?_
    exact k_X11_runsAs_b22 C E x0 s0 s0 h
  · refine k_iconst (pc := 17) (v := (0 : Int32)) C dX11_runsAs_17 ciconst_0 ?_
    refine k_goto (pc := 18) C 22 dX11_runsAs_18 (by decide) ?_
    refine k_sub [1, 0] rfl ?_
    exact k_X11_runsAs_b22 C E x0 s0 (0 : Int32) h
set_option maxHeartbeats 4000000 in
set_option maxRecDepth 100000 in
theorem kc_X11_runsAs {B : KB} {l : Launch} {T : TT} {x0 : Int32} {x1 : Int32} {x2 : Int32} {res : Int32} (h : m_X11_runsAs x0 x1 x2 = some res) : Kt B l 1 yX11_runsAs cX11_runsAs 5 (some .int) T [.int x0, .int x1, .int x2] (some (.int res)) T := by
  refine Kt.of (by decide) (Nat.le_of_ble_eq_true rfl) (fun X hX C E => ?_)
  subst hX
  have C : Cx B X "GriefEngineModel" cX11_runsAs 5 1 := C
  show Wk B X 5 T 0 [(0, .int x0), (1, .int x1), (2, .int x2)] []
  unfold m_X11_runsAs at h
  refine k_iload_n (pc := 0) C dX11_runsAs_0 2 rfl ?_
  refine k_if_ne (pc := 1) C 8 dX11_runsAs_1 (by decide) h (fun c1 h => ?_) (fun c1 h => ?_)
  · refine k_iconst (pc := 8) (v := (2 : Int32)) C dX11_runsAs_8 ciconst_2 ?_
    refine k_iload_n (pc := 9) C dX11_runsAs_9 1 rfl ?_
    refine k_imul (pc := 10) C dX11_runsAs_10 ?_
    refine k_sub [0, 2] rfl ?_
    exact k_X11_runsAs_b11 C E x0 x2 ((2 : Int32) * x1) h
  · refine k_iload_n (pc := 4) C dX11_runsAs_4 1 rfl ?_
    refine k_goto (pc := 5) C 11 dX11_runsAs_5 (by decide) ?_
    refine k_sub [0, 2] rfl ?_
    exact k_X11_runsAs_b11 C E x0 x2 x1 h
def m_X11_droveAs_b34 (x3 : Int32) : Option (Int32) := some x3
def m_X11_droveAs_b23 (x0 : Int32) (x2 : Int32) (s0 : Int32) : Option (Int32) := if x0 = (1 : Int32) then (m_X11_droveAs_b34 s0) else (if x0 = (4 : Int32) then (m_X11_droveAs_b34 s0) else (some x2))
def m_X11_droveAs (x0 : Int32) (x1 : Int32) : Option (Int32) := bT ((x1 - (1 : Int32)) - (x1 / (10 : Int32))) (fun y1 => if x1 ≤ (y1 + (1 : Int32)) then (m_X11_droveAs_b23 x0 y1 x1) else (m_X11_droveAs_b23 x0 y1 (y1 + (1 : Int32))))
set_option maxHeartbeats 4000000 in
set_option maxRecDepth 100000 in
theorem k_X11_droveAs_b34 {B : KB} {X : KE} {T0 : TT} {res : Int32} (C : Cx B X "GriefEngineModel" cX11_droveAs 4 1) (E : Cr B X (some .int) (some (.int res)) T0) (x3 : Int32) (h : m_X11_droveAs_b34 x3 = some res) : Wk B X 4 T0 34 [(3, .int x3)] [] := by
  unfold m_X11_droveAs_b34 at h
  refine k_iload_n (pc := 34) C dX11_droveAs_34 0 rfl ?_
  refine k_goto (pc := 35) C 39 dX11_droveAs_35 (by decide) ?_
  exact k_iret (pc := 39) C E (some_i h) rfl dX11_droveAs_39
set_option maxHeartbeats 4000000 in
set_option maxRecDepth 100000 in
theorem k_X11_droveAs_b23 {B : KB} {X : KE} {T0 : TT} {res : Int32} (C : Cx B X "GriefEngineModel" cX11_droveAs 4 1) (E : Cr B X (some .int) (some (.int res)) T0) (x0 : Int32) (x2 : Int32) (s0 : Int32) (h : m_X11_droveAs_b23 x0 x2 s0 = some res) : Wk B X 4 T0 23 [(0, .int x0), (2, .int x2)] [.int s0] := by
  unfold m_X11_droveAs_b23 at h
  refine k_istore_n (pc := 23) C [(3, .int s0), (0, .int x0), (2, .int x2)] dX11_droveAs_23 (by decide) rfl ?_
  refine k_iload_n (pc := 24) C dX11_droveAs_24 1 rfl ?_
  refine k_iconst (pc := 25) (v := (1 : Int32)) C dX11_droveAs_25 ciconst_1 ?_
  refine k_icmp_eq (pc := 26) C 34 dX11_droveAs_26 (by decide) h (fun c4 h => ?_) (fun c4 h => ?_)
  · refine k_sub [0] rfl ?_
    exact k_X11_droveAs_b34 C E s0 h
  · refine k_iload_n (pc := 29) C dX11_droveAs_29 1 rfl ?_
    refine k_iconst (pc := 30) (v := (4 : Int32)) C dX11_droveAs_30 ciconst_4 ?_
    refine k_icmp_ne (pc := 31) C 38 dX11_droveAs_31 (by decide) h (fun c3 h => ?_) (fun c3 h => ?_)
    · refine k_iload_n (pc := 38) C dX11_droveAs_38 2 rfl ?_
      exact k_iret (pc := 39) C E (some_i h) rfl dX11_droveAs_39
    · refine k_sub [0] rfl ?_
      exact k_X11_droveAs_b34 C E s0 h
set_option maxHeartbeats 4000000 in
set_option maxRecDepth 100000 in
theorem kc_X11_droveAs {B : KB} {l : Launch} {T : TT} {x0 : Int32} {x1 : Int32} {res : Int32} (h : m_X11_droveAs x0 x1 = some res) : Kt B l 1 yX11_droveAs cX11_droveAs 4 (some .int) T [.int x0, .int x1] (some (.int res)) T := by
  refine Kt.of (by decide) (Nat.le_of_ble_eq_true rfl) (fun X hX C E => ?_)
  subst hX
  have C : Cx B X "GriefEngineModel" cX11_droveAs 4 1 := C
  show Wk B X 4 T 0 [(0, .int x0), (1, .int x1)] []
  unfold m_X11_droveAs at h
  refine k_iload_n (pc := 0) C dX11_droveAs_0 1 rfl ?_
  refine k_iconst (pc := 1) (v := (1 : Int32)) C dX11_droveAs_1 ciconst_1 ?_
  refine k_isub (pc := 2) C dX11_droveAs_2 ?_
  refine k_iload_n (pc := 3) C dX11_droveAs_3 1 rfl ?_
  refine k_bipush (pc := 4) (v := (10 : Int32)) C dX11_droveAs_4 cbipush_10 ?_
  refine k_idivc (pc := 6) C dX11_droveAs_6 (by decide) ?_
  refine k_isub (pc := 7) C dX11_droveAs_7 ?_
  refine k_nI h (fun y1 h => ?_)
  refine k_istore_n (pc := 8) C [(2, .int y1), (0, .int x0), (1, .int x1)] dX11_droveAs_8 (by decide) rfl ?_
  refine k_iload_n (pc := 9) C dX11_droveAs_9 0 rfl ?_
  refine k_iconst (pc := 10) (v := (1 : Int32)) C dX11_droveAs_10 ciconst_1 ?_
  refine k_iadd (pc := 11) C dX11_droveAs_11 ?_
  refine k_iload_n (pc := 12) C dX11_droveAs_12 2 rfl ?_
  refine k_icmp_ge (pc := 13) C 22 dX11_droveAs_13 (by decide) h (fun c2 h => ?_) (fun c2 h => ?_)
  · refine k_iload_n (pc := 22) C dX11_droveAs_22 2 rfl ?_
    refine k_sub [1, 0] rfl ?_
    exact k_X11_droveAs_b23 C E x0 y1 x1 h
  · refine k_iload_n (pc := 16) C dX11_droveAs_16 0 rfl ?_
    refine k_iconst (pc := 17) (v := (1 : Int32)) C dX11_droveAs_17 ciconst_1 ?_
    refine k_iadd (pc := 18) C dX11_droveAs_18 ?_
    refine k_goto (pc := 19) C 23 dX11_droveAs_19 (by decide) ?_
    refine k_sub [1, 0] rfl ?_
    exact k_X11_droveAs_b23 C E x0 y1 (y1 + (1 : Int32)) h
def m_X11_toldAs (x0 : Int32) (x1 : Int32) : Option (Int32) := bT (x1 + (4 : Int32)) (fun y1 => if x0 = (2 : Int32) then (some (y1 / (2 : Int32))) else (if x0 = (4 : Int32) then (some (y1 + (4 : Int32))) else (some y1)))
set_option maxHeartbeats 4000000 in
set_option maxRecDepth 100000 in
theorem kc_X11_toldAs {B : KB} {l : Launch} {T : TT} {x0 : Int32} {x1 : Int32} {res : Int32} (h : m_X11_toldAs x0 x1 = some res) : Kt B l 1 yX11_toldAs cX11_toldAs 3 (some .int) T [.int x0, .int x1] (some (.int res)) T := by
  refine Kt.of (by decide) (Nat.le_of_ble_eq_true rfl) (fun X hX C E => ?_)
  subst hX
  have C : Cx B X "GriefEngineModel" cX11_toldAs 3 1 := C
  show Wk B X 3 T 0 [(0, .int x0), (1, .int x1)] []
  unfold m_X11_toldAs at h
  refine k_iload_n (pc := 0) C dX11_toldAs_0 1 rfl ?_
  refine k_iconst (pc := 1) (v := (4 : Int32)) C dX11_toldAs_1 ciconst_4 ?_
  refine k_iadd (pc := 2) C dX11_toldAs_2 ?_
  refine k_nI h (fun y1 h => ?_)
  refine k_istore_n (pc := 3) C [(2, .int y1), (0, .int x0), (1, .int x1)] dX11_toldAs_3 (by decide) rfl ?_
  refine k_iload_n (pc := 4) C dX11_toldAs_4 1 rfl ?_
  refine k_iconst (pc := 5) (v := (2 : Int32)) C dX11_toldAs_5 ciconst_2 ?_
  refine k_icmp_ne (pc := 6) C 15 dX11_toldAs_6 (by decide) h (fun c3 h => ?_) (fun c3 h => ?_)
  · refine k_iload_n (pc := 15) C dX11_toldAs_15 1 rfl ?_
    refine k_iconst (pc := 16) (v := (4 : Int32)) C dX11_toldAs_16 ciconst_4 ?_
    refine k_icmp_ne (pc := 17) C 26 dX11_toldAs_17 (by decide) h (fun c2 h => ?_) (fun c2 h => ?_)
    · refine k_iload_n (pc := 26) C dX11_toldAs_26 0 rfl ?_
      exact k_iret (pc := 27) C E (some_i h) rfl dX11_toldAs_27
    · refine k_iload_n (pc := 20) C dX11_toldAs_20 0 rfl ?_
      refine k_iconst (pc := 21) (v := (4 : Int32)) C dX11_toldAs_21 ciconst_4 ?_
      refine k_iadd (pc := 22) C dX11_toldAs_22 ?_
      refine k_goto (pc := 23) C 27 dX11_toldAs_23 (by decide) ?_
      exact k_iret (pc := 27) C E (some_i h) rfl dX11_toldAs_27
  · refine k_iload_n (pc := 9) C dX11_toldAs_9 0 rfl ?_
    refine k_iconst (pc := 10) (v := (2 : Int32)) C dX11_toldAs_10 ciconst_2 ?_
    refine k_idivc (pc := 11) C dX11_toldAs_11 (by decide) ?_
    refine k_goto (pc := 12) C 27 dX11_toldAs_12 (by decide) ?_
    exact k_iret (pc := 27) C E (some_i h) rfl dX11_toldAs_27
def m_X11_restedAs (x0 : Int32) (x1 : Int32) : Option (Int32) := bT (x1 - (1 : Int32)) (fun y1 => if x0 = (5 : Int32) then (some x1) else (if x0 = (4 : Int32) then (some (y1 - (2 : Int32))) else (some y1)))
set_option maxHeartbeats 4000000 in
set_option maxRecDepth 100000 in
theorem kc_X11_restedAs {B : KB} {l : Launch} {T : TT} {x0 : Int32} {x1 : Int32} {res : Int32} (h : m_X11_restedAs x0 x1 = some res) : Kt B l 1 yX11_restedAs cX11_restedAs 3 (some .int) T [.int x0, .int x1] (some (.int res)) T := by
  refine Kt.of (by decide) (Nat.le_of_ble_eq_true rfl) (fun X hX C E => ?_)
  subst hX
  have C : Cx B X "GriefEngineModel" cX11_restedAs 3 1 := C
  show Wk B X 3 T 0 [(0, .int x0), (1, .int x1)] []
  unfold m_X11_restedAs at h
  refine k_iload_n (pc := 0) C dX11_restedAs_0 1 rfl ?_
  refine k_iconst (pc := 1) (v := (1 : Int32)) C dX11_restedAs_1 ciconst_1 ?_
  refine k_isub (pc := 2) C dX11_restedAs_2 ?_
  refine k_nI h (fun y1 h => ?_)
  refine k_istore_n (pc := 3) C [(2, .int y1), (0, .int x0), (1, .int x1)] dX11_restedAs_3 (by decide) rfl ?_
  refine k_iload_n (pc := 4) C dX11_restedAs_4 1 rfl ?_
  refine k_iconst (pc := 5) (v := (5 : Int32)) C dX11_restedAs_5 ciconst_5 ?_
  refine k_icmp_ne (pc := 6) C 13 dX11_restedAs_6 (by decide) h (fun c3 h => ?_) (fun c3 h => ?_)
  · refine k_iload_n (pc := 13) C dX11_restedAs_13 1 rfl ?_
    refine k_iconst (pc := 14) (v := (4 : Int32)) C dX11_restedAs_14 ciconst_4 ?_
    refine k_icmp_ne (pc := 15) C 24 dX11_restedAs_15 (by decide) h (fun c2 h => ?_) (fun c2 h => ?_)
    · refine k_iload_n (pc := 24) C dX11_restedAs_24 0 rfl ?_
      exact k_iret (pc := 25) C E (some_i h) rfl dX11_restedAs_25
    · refine k_iload_n (pc := 18) C dX11_restedAs_18 0 rfl ?_
      refine k_iconst (pc := 19) (v := (2 : Int32)) C dX11_restedAs_19 ciconst_2 ?_
      refine k_isub (pc := 20) C dX11_restedAs_20 ?_
      refine k_goto (pc := 21) C 25 dX11_restedAs_21 (by decide) ?_
      exact k_iret (pc := 25) C E (some_i h) rfl dX11_restedAs_25
  · refine k_iload_n (pc := 9) C dX11_restedAs_9 2 rfl ?_
    refine k_goto (pc := 10) C 25 dX11_restedAs_10 (by decide) ?_
    exact k_iret (pc := 25) C E (some_i h) rfl dX11_restedAs_25
def m_X11_leftAs_b30 (s0 : Int32) : Option (Int32) := if 0 ≤ s0 then (if s0 ≤ (99 : Int32) then (some s0) else (some (99 : Int32))) else (some (0 : Int32))
def m_X11_leftAs (x0 : Int32) (x1 : Int32) (x2 : Int32) : Option (Int32) := if x2 = 0 then ((m_X11_droveAs x0 x1).bind (fun z4 => m_X11_leftAs_b30 z4)) else (if x2 = (1 : Int32) then ((m_X11_toldAs x0 x1).bind (fun z2 => m_X11_leftAs_b30 z2)) else ((m_X11_restedAs x0 x1).bind (fun z1 => m_X11_leftAs_b30 z1)))
set_option maxHeartbeats 4000000 in
set_option maxRecDepth 100000 in
theorem k_X11_leftAs_b30 {B : KB} {X : KE} {T0 : TT} {res : Int32} (C : Cx B X "GriefEngineModel" cX11_leftAs 4 2) (E : Cr B X (some .int) (some (.int res)) T0) (s0 : Int32) (h : m_X11_leftAs_b30 s0 = some res) : Wk B X 4 T0 30 [] [.int s0] := by
  unfold m_X11_leftAs_b30 at h
  refine k_istore_n (pc := 30) C [(3, .int s0)] dX11_leftAs_30 (by decide) rfl ?_
  refine k_iload_n (pc := 31) C dX11_leftAs_31 0 rfl ?_
  refine k_if_ge (pc := 32) C 39 dX11_leftAs_32 (by decide) h (fun c7 h => ?_) (fun c7 h => ?_)
  · refine k_iload_n (pc := 39) C dX11_leftAs_39 0 rfl ?_
    refine k_bipush (pc := 40) (v := (99 : Int32)) C dX11_leftAs_40 cbipush_99 ?_
    refine k_icmp_le (pc := 42) C 50 dX11_leftAs_42 (by decide) h (fun c6 h => ?_) (fun c6 h => ?_)
    · refine k_iload_n (pc := 50) C dX11_leftAs_50 0 rfl ?_
      exact k_iret (pc := 51) C E (some_i h) rfl dX11_leftAs_51
    · refine k_bipush (pc := 45) (v := (99 : Int32)) C dX11_leftAs_45 cbipush_99 ?_
      refine k_goto (pc := 47) C 51 dX11_leftAs_47 (by decide) ?_
      exact k_iret (pc := 51) C E (some_i h) rfl dX11_leftAs_51
  · refine k_iconst (pc := 35) (v := (0 : Int32)) C dX11_leftAs_35 ciconst_0 ?_
    refine k_goto (pc := 36) C 51 dX11_leftAs_36 (by decide) ?_
    exact k_iret (pc := 51) C E (some_i h) rfl dX11_leftAs_51
set_option maxHeartbeats 4000000 in
set_option maxRecDepth 100000 in
theorem kc_X11_leftAs {B : KB} {l : Launch} {T : TT} {x0 : Int32} {x1 : Int32} {x2 : Int32} {res : Int32} (h : m_X11_leftAs x0 x1 x2 = some res) : Kt B l 2 yX11_leftAs cX11_leftAs 4 (some .int) T [.int x0, .int x1, .int x2] (some (.int res)) T := by
  refine Kt.of (by decide) (Nat.le_of_ble_eq_true rfl) (fun X hX C E => ?_)
  subst hX
  have C : Cx B X "GriefEngineModel" cX11_leftAs 4 2 := C
  show Wk B X 4 T 0 [(0, .int x0), (1, .int x1), (2, .int x2)] []
  unfold m_X11_leftAs at h
  refine k_iload_n (pc := 0) C dX11_leftAs_0 2 rfl ?_
  refine k_if_ne (pc := 1) C 12 dX11_leftAs_1 (by decide) h (fun c5 h => ?_) (fun c5 h => ?_)
  · refine k_iload_n (pc := 12) C dX11_leftAs_12 2 rfl ?_
    refine k_iconst (pc := 13) (v := (1 : Int32)) C dX11_leftAs_13 ciconst_1 ?_
    refine k_icmp_ne (pc := 14) C 25 dX11_leftAs_14 (by decide) h (fun c3 h => ?_) (fun c3 h => ?_)
    · refine k_iload_n (pc := 25) C dX11_leftAs_25 0 rfl ?_
      refine k_iload_n (pc := 26) C dX11_leftAs_26 1 rfl ?_
      obtain ⟨z1, e1, h⟩ := bnd h
      refine k_callsI (pc := 27) C lk_X11_81 (by decide) (kc_X11_restedAs e1) dX11_leftAs_27 rfl rfl (Nat.le_of_ble_eq_true rfl) ?_
      refine k_sub [] rfl ?_
      exact k_X11_leftAs_b30 C E z1 h
    · refine k_iload_n (pc := 17) C dX11_leftAs_17 0 rfl ?_
      refine k_iload_n (pc := 18) C dX11_leftAs_18 1 rfl ?_
      obtain ⟨z2, e2, h⟩ := bnd h
      refine k_callsI (pc := 19) C lk_X11_78 (by decide) (kc_X11_toldAs e2) dX11_leftAs_19 rfl rfl (Nat.le_of_ble_eq_true rfl) ?_
      refine k_goto (pc := 22) C 30 dX11_leftAs_22 (by decide) ?_
      refine k_sub [] rfl ?_
      exact k_X11_leftAs_b30 C E z2 h
  · refine k_iload_n (pc := 4) C dX11_leftAs_4 0 rfl ?_
    refine k_iload_n (pc := 5) C dX11_leftAs_5 1 rfl ?_
    obtain ⟨z4, e4, h⟩ := bnd h
    refine k_callsI (pc := 6) C lk_X11_74 (by decide) (kc_X11_droveAs e4) dX11_leftAs_6 rfl rfl (Nat.le_of_ble_eq_true rfl) ?_
    refine k_goto (pc := 9) C 30 dX11_leftAs_9 (by decide) ?_
    refine k_sub [] rfl ?_
    exact k_X11_leftAs_b30 C E z4 h
def m_X11_kindOf (T : TT) (x1 : Int32) : Option (Int32) := if inb ((17 : Int32) + x1) 175 then (some (T.1 10 1 (Int32.toNatClampNeg ((17 : Int32) + x1)))) else none
set_option maxHeartbeats 4000000 in
set_option maxRecDepth 100000 in
theorem kc_X11_kindOf {B : KB} {l : Launch} {T : TT} {x1 : Int32} {res : Int32} (h : m_X11_kindOf T x1 = some res) : Kt B l 1 yX11_kindOf cX11_kindOf 2 (some .int) T [.ref (B.1 10 0), .int x1] (some (.int res)) T := by
  refine Kt.of (by decide) (Nat.le_of_ble_eq_true rfl) (fun X hX C E => ?_)
  subst hX
  have C : Cx B X "GriefEngineModel" cX11_kindOf 2 1 := C
  show Wk B X 2 T 0 [(0, .ref (B.1 10 0)), (1, .int x1)] []
  unfold m_X11_kindOf at h
  refine k_aload_n (pc := 0) C dX11_kindOf_0 0 rfl ?_
  refine gf_X11_7 (pc := 1) C dX11_kindOf_1 ?_
  refine k_bipush (pc := 4) (v := (17 : Int32)) C dX11_kindOf_4 cbipush_17 ?_
  refine k_iload_n (pc := 6) C dX11_kindOf_6 1 rfl ?_
  refine k_iadd (pc := 7) C dX11_kindOf_7 ?_
  refine k_iald (pc := 8) C ia_10_1 dX11_kindOf_8 h (fun h => ?_)
  exact k_iret (pc := 9) C E (some_i h) rfl dX11_kindOf_9
def m_X11_goDay_b25 (T : TT) (x1 : Int32) (x3 : Int32) (s1 : Int32) (s2 : Int32) : Option (TT) := bT (sI T 10 7 (s1 + s2)) (fun T4 => (m_X11_leftAs x1 (T4.2.1 10 6) x3).bind (fun z5 => bT (sI T4 10 6 z5) (fun T6 => some T6)))
def m_X11_goDay (T : TT) (x1 : Int32) (x2 : Int32) (x3 : Int32) : Option (TT) := if x3 = 0 then ((m_X11_seasonOf x2).bind (fun z1 => (m_X11_runsAs x1 (T.2.1 10 6) z1).bind (fun z2 => m_X11_goDay_b25 T x1 x3 (T.2.1 10 7) z2))) else (m_X11_goDay_b25 T x1 x3 (T.2.1 10 7) (0 : Int32))
set_option maxHeartbeats 4000000 in
set_option maxRecDepth 100000 in
theorem k_X11_goDay_b25 {B : KB} {X : KE} {res : TT} (C : Cx B X "GriefEngineModel" cX11_goDay 4 3) (E : Cr B X none none res) (T : TT) (x1 : Int32) (x3 : Int32) (s1 : Int32) (s2 : Int32) (h : m_X11_goDay_b25 T x1 x3 s1 s2 = some res) : Wk B X 4 T 25 [(0, .ref (B.1 10 0)), (1, .int x1), (3, .int x3)] [.int s2, .int s1, .ref (B.1 10 0)] := by
  unfold m_X11_goDay_b25 at h
  refine k_iadd (pc := 25) C dX11_goDay_25 ?_
  refine pf_X11_84 (pc := 26) C dX11_goDay_26 ?_
  refine k_nT h (fun T4 h => ?_)
  refine k_aload_n (pc := 29) C dX11_goDay_29 0 rfl ?_
  refine k_iload_n (pc := 30) C dX11_goDay_30 1 rfl ?_
  refine k_aload_n (pc := 31) C dX11_goDay_31 0 rfl ?_
  refine gf_X11_88 (pc := 32) C dX11_goDay_32 ?_
  refine k_iload_n (pc := 35) C dX11_goDay_35 2 rfl ?_
  obtain ⟨z5, e5, h⟩ := bnd h
  refine k_callsI (pc := 36) C lk_X11_98 (by decide) (kc_X11_leftAs e5) dX11_goDay_36 rfl rfl (Nat.le_of_ble_eq_true rfl) ?_
  refine pf_X11_88 (pc := 39) C dX11_goDay_39 ?_
  refine k_nT h (fun T6 h => ?_)
  exact k_vret (pc := 42) C E (some_i h) dX11_goDay_42
set_option maxHeartbeats 4000000 in
set_option maxRecDepth 100000 in
theorem kc_X11_goDay {B : KB} {l : Launch} {T : TT} {x1 : Int32} {x2 : Int32} {x3 : Int32} {res : TT} (h : m_X11_goDay T x1 x2 x3 = some res) : Kt B l 3 yX11_goDay cX11_goDay 4 none T [.ref (B.1 10 0), .int x1, .int x2, .int x3] none res := by
  refine Kt.of (by decide) (Nat.le_of_ble_eq_true rfl) (fun X hX C E => ?_)
  subst hX
  have C : Cx B X "GriefEngineModel" cX11_goDay 4 3 := C
  show Wk B X 4 T 0 [(0, .ref (B.1 10 0)), (1, .int x1), (2, .int x2), (3, .int x3)] []
  unfold m_X11_goDay at h
  refine k_aload_n (pc := 0) C dX11_goDay_0 0 rfl ?_
  refine k_dup (pc := 1) C dX11_goDay_1 rfl ?_
  refine gf_X11_84 (pc := 2) C dX11_goDay_2 ?_
  refine k_iload_n (pc := 5) C dX11_goDay_5 3 rfl ?_
  refine k_if_ne (pc := 6) C 24 dX11_goDay_6 (by decide) h (fun c3 h => ?_) (fun c3 h => ?_)
  · refine k_iconst (pc := 24) (v := (0 : Int32)) C dX11_goDay_24 ciconst_0 ?_
    refine k_sub [0, 1, 3] rfl ?_
    exact k_X11_goDay_b25 C E T x1 x3 (T.2.1 10 7) (0 : Int32) h
  · refine k_iload_n (pc := 9) C dX11_goDay_9 1 rfl ?_
    refine k_aload_n (pc := 10) C dX11_goDay_10 0 rfl ?_
    refine gf_X11_88 (pc := 11) C dX11_goDay_11 ?_
    refine k_iload_n (pc := 14) C dX11_goDay_14 2 rfl ?_
    obtain ⟨z1, e1, h⟩ := bnd h
    refine k_callsI (pc := 15) C lk_X11_91 (by decide) (kc_X11_seasonOf e1) dX11_goDay_15 rfl rfl (Nat.le_of_ble_eq_true rfl) ?_
    obtain ⟨z2, e2, h⟩ := bnd h
    refine k_callsI (pc := 18) C lk_X11_94 (by decide) (kc_X11_runsAs e2) dX11_goDay_18 rfl rfl (Nat.le_of_ble_eq_true rfl) ?_
    refine k_goto (pc := 21) C 25 dX11_goDay_21 (by decide) ?_
    refine k_sub [0, 1, 3] rfl ?_
    exact k_X11_goDay_b25 C E T x1 x3 (T.2.1 10 7) z2 h
def m_X11_layOne (T : TT) (x1 : Int32) : Option (TT) := if inb ((4 : Int32) + x1) 175 then (bT (sI T 10 6 (T.1 10 1 (Int32.toNatClampNeg ((4 : Int32) + x1)))) (fun T1 => bT (sI T1 10 7 (0 : Int32)) (fun T2 => some T2))) else none
set_option maxHeartbeats 4000000 in
set_option maxRecDepth 100000 in
theorem kc_X11_layOne {B : KB} {l : Launch} {T : TT} {x1 : Int32} {res : TT} (h : m_X11_layOne T x1 = some res) : Kt B l 1 yX11_layOne cX11_layOne 2 none T [.ref (B.1 10 0), .int x1] none res := by
  refine Kt.of (by decide) (Nat.le_of_ble_eq_true rfl) (fun X hX C E => ?_)
  subst hX
  have C : Cx B X "GriefEngineModel" cX11_layOne 2 1 := C
  show Wk B X 2 T 0 [(0, .ref (B.1 10 0)), (1, .int x1)] []
  unfold m_X11_layOne at h
  refine k_aload_n (pc := 0) C dX11_layOne_0 0 rfl ?_
  refine k_aload_n (pc := 1) C dX11_layOne_1 0 rfl ?_
  refine gf_X11_7 (pc := 2) C dX11_layOne_2 ?_
  refine k_iconst (pc := 5) (v := (4 : Int32)) C dX11_layOne_5 ciconst_4 ?_
  refine k_iload_n (pc := 6) C dX11_layOne_6 1 rfl ?_
  refine k_iadd (pc := 7) C dX11_layOne_7 ?_
  refine k_iald (pc := 8) C ia_10_1 dX11_layOne_8 h (fun h => ?_)
  refine pf_X11_88 (pc := 9) C dX11_layOne_9 ?_
  refine k_nT h (fun T1 h => ?_)
  refine k_aload_n (pc := 12) C dX11_layOne_12 0 rfl ?_
  refine k_iconst (pc := 13) (v := (0 : Int32)) C dX11_layOne_13 ciconst_0 ?_
  refine pf_X11_84 (pc := 14) C dX11_layOne_14 ?_
  refine k_nT h (fun T2 h => ?_)
  exact k_vret (pc := 17) C E (some_i h) dX11_layOne_17
