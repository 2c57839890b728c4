def m_X11_note_b66 (T : TT) : Option (Int32 × TT) := (m_X11_bad T (-2 : Int32)).bind (fun z23 => some (z23.1, z23.2))
def m_X11_note (T : TT) (x1 : Int32) (x2 : Int32) (x3 : Int32) (x4 : Int32) (x5 : Int32) (x6 : Int32) : Option (Int32 × TT) := (m_X11_isDriver T x1).bind (fun z1 => if z1 = 0 then (m_X11_note_b66 T) else ((m_X11_in (x2.toInt64) (0 : Int64) (99 : Int64)).bind (fun z2 => if z2 = 0 then (m_X11_note_b66 T) else ((m_X11_in (x3.toInt64) (0 : Int64) (3 : Int64)).bind (fun z3 => if z3 = 0 then (m_X11_note_b66 T) else ((m_X11_in (x4.toInt64) (0 : Int64) (200 : Int64)).bind (fun z4 => if z4 = 0 then (m_X11_note_b66 T) else ((m_X11_isChoice x5).bind (fun z5 => if z5 = 0 then (m_X11_note_b66 T) else ((m_X11_in (x6.toInt64) (0 : Int64) (99 : Int64)).bind (fun z6 => if z6 = 0 then (m_X11_note_b66 T) else (if (T.1 10 1 1) = (6 : Int32) then ((m_X11_full T).bind (fun z15 => some (z15.1, z15.2))) else (bT ((23 : Int32) + ((6 : Int32) * (T.1 10 1 1))) (fun y7 => if inb y7 175 then bT (sA T 10 1 (Int32.toNatClampNeg y7) x1) (fun T8 => if inb (y7 + (1 : Int32)) 175 then bT (sA T8 10 1 (Int32.toNatClampNeg (y7 + (1 : Int32))) x2) (fun T9 => if inb (y7 + (2 : Int32)) 175 then bT (sA T9 10 1 (Int32.toNatClampNeg (y7 + (2 : Int32))) x3) (fun T10 => if inb (y7 + (3 : Int32)) 175 then bT (sA T10 10 1 (Int32.toNatClampNeg (y7 + (3 : Int32))) x4) (fun T11 => if inb (y7 + (4 : Int32)) 175 then bT (sA T11 10 1 (Int32.toNatClampNeg (y7 + (4 : Int32))) x5) (fun T12 => if inb (y7 + (5 : Int32)) 175 then bT (sA T12 10 1 (Int32.toNatClampNeg (y7 + (5 : Int32))) x6) (fun T13 => bT (sA T13 10 1 1 ((T13.1 10 1 1) + (1 : Int32))) (fun T14 => some ((T14.1 10 1 1), T14))) else none) else none) else none) else none) else none) else none))))))))))))))
set_option maxHeartbeats 4000000 in
set_option maxRecDepth 100000 in
theorem k_X11_note_b66 {B : KB} {X : KE} {res : Int32 × TT} (C : Cx B X "GriefEngineModel" cX11_note 8 3) (E : Cr B X (some .int) (some (.int res.1)) res.2) (T : TT) (h : m_X11_note_b66 T = some res) : Wk B X 8 T 66 [(0, .ref (B.1 10 0))] [] := by
  unfold m_X11_note_b66 at h
  refine k_aload_n (pc := 66) C dX11_note_66 0 rfl ?_
  refine k_bipush (pc := 67) (v := (-2 : Int32)) C dX11_note_67 cbipush_m2 ?_
  obtain ⟨z23, e23, h⟩ := bnd h
  refine k_callvI (pc := 69) C lk_X11_63 (by decide) ix_X11 wo_X11 rfl rfl (kc_X11_bad e23) dX11_note_69 rfl rfl (Nat.le_of_ble_eq_true rfl) ?_
  exact k_iret (pc := 72) C E (some_1 h) (some_2 h) dX11_note_72
set_option maxHeartbeats 4000000 in
set_option maxRecDepth 100000 in
theorem kc_X11_note {B : KB} {l : Launch} {T : TT} {x1 : Int32} {x2 : Int32} {x3 : Int32} {x4 : Int32} {x5 : Int32} {x6 : Int32} {res : Int32 × TT} (h : m_X11_note T x1 x2 x3 x4 x5 x6 = some res) : Kt B l 3 yX11_note cX11_note 8 (some .int) T [.ref (B.1 10 0), .int x1, .int x2, .int x3, .int x4, .int x5, .int x6] (some (.int res.1)) res.2 := by
  refine Kt.of (by decide) (Nat.le_of_ble_eq_true rfl) (fun X hX C E => ?_)
  subst hX
  have C : Cx B X "GriefEngineModel" cX11_note 8 3 := C
  show Wk B X 8 T 0 [(0, .ref (B.1 10 0)), (1, .int x1), (2, .int x2), (3, .int x3), (4, .int x4), (5, .int x5), (6, .int x6)] []
  unfold m_X11_note at h
  refine k_aload_n (pc := 0) C dX11_note_0 0 rfl ?_
  refine k_iload_n (pc := 1) C dX11_note_1 1 rfl ?_
  obtain ⟨z1, e1, h⟩ := bnd h
  refine k_callvI (pc := 2) C lk_X11_116 (by decide) ix_X11 wo_X11 rfl rfl (kc_X11_isDriver e1) dX11_note_2 rfl rfl (Nat.le_of_ble_eq_true rfl) ?_
  refine k_if_eq (pc := 5) C 66 dX11_note_5 (by decide) h (fun c22 h => ?_) (fun c22 h => ?_)
  · refine k_sub [0] rfl ?_
    exact k_X11_note_b66 C E T h
  · refine k_iload_n (pc := 8) C dX11_note_8 2 rfl ?_
    refine k_i2l (pc := 9) C dX11_note_9 ?_
    refine k_lconst (pc := 10) (v := (0 : Int64)) C dX11_note_10 (by decide) ?_
    refine k_ldc2_w (pc := 11) (v := (99 : Int64)) C dX11_note_11 tw4_138 ?_
    obtain ⟨z2, e2, h⟩ := bnd h
    refine k_callsI (pc := 14) C lk_X11_53 (by decide) (kc_X11_in e2) dX11_note_14 rfl rfl (Nat.le_of_ble_eq_true rfl) ?_
    refine k_if_eq (pc := 17) C 66 dX11_note_17 (by decide) h (fun c21 h => ?_) (fun c21 h => ?_)
    · refine k_sub [0] rfl ?_
      exact k_X11_note_b66 C E T h
    · refine k_iload_n (pc := 20) C dX11_note_20 3 rfl ?_
      refine k_i2l (pc := 21) C dX11_note_21 ?_
      refine k_lconst (pc := 22) (v := (0 : Int64)) C dX11_note_22 (by decide) ?_
      refine k_ldc2_w (pc := 23) (v := (3 : Int64)) C dX11_note_23 tw5_30 ?_
      obtain ⟨z3, e3, h⟩ := bnd h
      refine k_callsI (pc := 26) C lk_X11_53 (by decide) (kc_X11_in e3) dX11_note_26 rfl rfl (Nat.le_of_ble_eq_true rfl) ?_
      refine k_if_eq (pc := 29) C 66 dX11_note_29 (by decide) h (fun c20 h => ?_) (fun c20 h => ?_)
      · refine k_sub [0] rfl ?_
        exact k_X11_note_b66 C E T h
      · refine k_iload (pc := 32) C dX11_note_32 4 rfl ?_
        refine k_i2l (pc := 34) C dX11_note_34 ?_
        refine k_lconst (pc := 35) (v := (0 : Int64)) C dX11_note_35 (by decide) ?_
        refine k_ldc2_w (pc := 36) (v := (200 : Int64)) C dX11_note_36 tw5_31 ?_
        obtain ⟨z4, e4, h⟩ := bnd h
        refine k_callsI (pc := 39) C lk_X11_53 (by decide) (kc_X11_in e4) dX11_note_39 rfl rfl (Nat.le_of_ble_eq_true rfl) ?_
        refine k_if_eq (pc := 42) C 66 dX11_note_42 (by decide) h (fun c19 h => ?_) (fun c19 h => ?_)
        · refine k_sub [0] rfl ?_
          exact k_X11_note_b66 C E T h
        · refine k_iload (pc := 45) C dX11_note_45 5 rfl ?_
          obtain ⟨z5, e5, h⟩ := bnd h
          refine k_callsI (pc := 47) C lk_X11_105 (by decide) (kc_X11_isChoice e5) dX11_note_47 rfl rfl (Nat.le_of_ble_eq_true rfl) ?_
          refine k_if_eq (pc := 50) C 66 dX11_note_50 (by decide) h (fun c18 h => ?_) (fun c18 h => ?_)
          · refine k_sub [0] rfl ?_
            exact k_X11_note_b66 C E T h
          · refine k_iload (pc := 53) C dX11_note_53 6 rfl ?_
            refine k_i2l (pc := 55) C dX11_note_55 ?_
            refine k_lconst (pc := 56) (v := (0 : Int64)) C dX11_note_56 (by decide) ?_
            refine k_ldc2_w (pc := 57) (v := (99 : Int64)) C dX11_note_57 tw4_138 ?_
            obtain ⟨z6, e6, h⟩ := bnd h
            refine k_callsI (pc := 60) C lk_X11_53 (by decide) (kc_X11_in e6) dX11_note_60 rfl rfl (Nat.le_of_ble_eq_true rfl) ?_
            refine k_if_ne (pc := 63) C 73 dX11_note_63 (by decide) h (fun c17 h => ?_) (fun c17 h => ?_)
            · refine k_aload_n (pc := 73) C dX11_note_73 0 rfl ?_
              refine gf_X11_7 (pc := 74) C dX11_note_74 ?_
              refine k_iconst (pc := 77) (v := (1 : Int32)) C dX11_note_77 ciconst_1 ?_
              refine k_ialdc (pc := 78) C ia_10_1 1 dX11_note_78 (by decide) (by decide) ?_
              refine k_bipush (pc := 79) (v := (6 : Int32)) C dX11_note_79 cbipush_6 ?_
              refine k_icmp_ne (pc := 81) C 89 dX11_note_81 (by decide) h (fun c16 h => ?_) (fun c16 h => ?_)
              · refine k_bipush (pc := 89) (v := (23 : Int32)) C dX11_note_89 cbipush_23 ?_
                refine k_bipush (pc := 91) (v := (6 : Int32)) C dX11_note_91 cbipush_6 ?_
                refine k_aload_n (pc := 93) C dX11_note_93 0 rfl ?_
                refine gf_X11_7 (pc := 94) C dX11_note_94 ?_
                refine k_iconst (pc := 97) (v := (1 : Int32)) C dX11_note_97 ciconst_1 ?_
                refine k_ialdc (pc := 98) C ia_10_1 1 dX11_note_98 (by decide) (by decide) ?_
                refine k_imul (pc := 99) C dX11_note_99 ?_
                refine k_iadd (pc := 100) C dX11_note_100 ?_
                refine k_nI h (fun y7 h => ?_)
                refine k_istore (pc := 101) C [(7, .int y7), (0, .ref (B.1 10 0)), (1, .int x1), (2, .int x2), (3, .int x3), (4, .int x4), (5, .int x5), (6, .int x6)] dX11_note_101 (by decide) rfl ?_
                refine k_aload_n (pc := 103) C dX11_note_103 1 rfl ?_
                refine gf_X11_7 (pc := 104) C dX11_note_104 ?_
                refine k_iload (pc := 107) C dX11_note_107 0 rfl ?_
                refine k_iload_n (pc := 109) C dX11_note_109 2 rfl ?_
                refine k_iast (pc := 110) C ia_10_1 dX11_note_110 h (fun h => ?_)
                refine k_nT h (fun T8 h => ?_)
                refine k_aload_n (pc := 111) C dX11_note_111 1 rfl ?_
                refine gf_X11_7 (pc := 112) C dX11_note_112 ?_
                refine k_iload (pc := 115) C dX11_note_115 0 rfl ?_
                refine k_iconst (pc := 117) (v := (1 : Int32)) C dX11_note_117 ciconst_1 ?_
                refine k_iadd (pc := 118) C dX11_note_118 ?_
                refine k_iload_n (pc := 119) C dX11_note_119 3 rfl ?_
                refine k_iast (pc := 120) C ia_10_1 dX11_note_120 h (fun h => ?_)
                refine k_nT h (fun T9 h => ?_)
                refine k_aload_n (pc := 121) C dX11_note_121 1 rfl ?_
                refine gf_X11_7 (pc := 122) C dX11_note_122 ?_
                refine k_iload (pc := 125) C dX11_note_125 0 rfl ?_
                refine k_iconst (pc := 127) (v := (2 : Int32)) C dX11_note_127 ciconst_2 ?_
                refine k_iadd (pc := 128) C dX11_note_128 ?_
                refine k_iload_n (pc := 129) C dX11_note_129 4 rfl ?_
                refine k_iast (pc := 130) C ia_10_1 dX11_note_130 h (fun h => ?_)
                refine k_nT h (fun T10 h => ?_)
                refine k_aload_n (pc := 131) C dX11_note_131 1 rfl ?_
                refine gf_X11_7 (pc := 132) C dX11_note_132 ?_
                refine k_iload (pc := 135) C dX11_note_135 0 rfl ?_
                refine k_iconst (pc := 137) (v := (3 : Int32)) C dX11_note_137 ciconst_3 ?_
                refine k_iadd (pc := 138) C dX11_note_138 ?_
                refine k_iload (pc := 139) C dX11_note_139 5 rfl ?_
                refine k_iast (pc := 141) C ia_10_1 dX11_note_141 h (fun h => ?_)
                refine k_nT h (fun T11 h => ?_)
                refine k_aload_n (pc := 142) C dX11_note_142 1 rfl ?_
                refine gf_X11_7 (pc := 143) C dX11_note_143 ?_
                refine k_iload (pc := 146) C dX11_note_146 0 rfl ?_
                refine k_iconst (pc := 148) (v := (4 : Int32)) C dX11_note_148 ciconst_4 ?_
                refine k_iadd (pc := 149) C dX11_note_149 ?_
                refine k_iload (pc := 150) C dX11_note_150 6 rfl ?_
                refine k_iast (pc := 152) C ia_10_1 dX11_note_152 h (fun h => ?_)
                refine k_nT h (fun T12 h => ?_)
                refine k_aload_n (pc := 153) C dX11_note_153 1 rfl ?_
                refine gf_X11_7 (pc := 154) C dX11_note_154 ?_
                refine k_iload (pc := 157) C dX11_note_157 0 rfl ?_
                refine k_iconst (pc := 159) (v := (5 : Int32)) C dX11_note_159 ciconst_5 ?_
                refine k_iadd (pc := 160) C dX11_note_160 ?_
                refine k_iload (pc := 161) C dX11_note_161 7 rfl ?_
                refine k_iast (pc := 163) C ia_10_1 dX11_note_163 h (fun h => ?_)
                refine k_nT h (fun T13 h => ?_)
                refine k_aload_n (pc := 164) C dX11_note_164 1 rfl ?_
                refine gf_X11_7 (pc := 165) C dX11_note_165 ?_
                refine k_iconst (pc := 168) (v := (1 : Int32)) C dX11_note_168 ciconst_1 ?_
                refine k_dup2 (pc := 169) C dX11_note_169 rfl rfl ?_
                refine k_ialdc (pc := 170) C ia_10_1 1 dX11_note_170 (by decide) (by decide) ?_
                refine k_iconst (pc := 171) (v := (1 : Int32)) C dX11_note_171 ciconst_1 ?_
                refine k_iadd (pc := 172) C dX11_note_172 ?_
                refine k_iastc (pc := 173) C ia_10_1 1 dX11_note_173 (by decide) (by decide) ?_
                refine k_nT h (fun T14 h => ?_)
                refine k_aload_n (pc := 174) C dX11_note_174 1 rfl ?_
                refine gf_X11_7 (pc := 175) C dX11_note_175 ?_
                refine k_iconst (pc := 178) (v := (1 : Int32)) C dX11_note_178 ciconst_1 ?_
                refine k_ialdc (pc := 179) C ia_10_1 1 dX11_note_179 (by decide) (by decide) ?_
                exact k_iret (pc := 180) C E (some_1 h) (some_2 h) dX11_note_180
              · refine k_aload_n (pc := 84) C dX11_note_84 0 rfl ?_
                obtain ⟨z15, e15, h⟩ := bnd h
                refine k_callvI (pc := 85) C lk_X11_67 (by decide) ix_X11 wo_X11 rfl rfl (kc_X11_full e15) dX11_note_85 rfl rfl (Nat.le_of_ble_eq_true rfl) ?_
                exact k_iret (pc := 88) C E (some_1 h) (some_2 h) dX11_note_88
            · refine k_sub [0] rfl ?_
              exact k_X11_note_b66 C E T h
def m_X11_gone_b32 (T : TT) : Option (Int32 × TT) := (m_X11_bad T (-2 : Int32)).bind (fun z14 => some (z14.1, z14.2))
def m_X11_gone (T : TT) (x1 : Int32) (x2 : Int32) (x3 : Int32) : Option (Int32 × TT) := (m_X11_isDriver T x1).bind (fun z1 => if z1 = 0 then (m_X11_gone_b32 T) else ((m_X11_in (x2.toInt64) (1 : Int64) (30 : Int64)).bind (fun z2 => if z2 = 0 then (m_X11_gone_b32 T) else ((m_X11_in (x3.toInt64) (0 : Int64) (6000 : Int64)).bind (fun z3 => if z3 = 0 then (m_X11_gone_b32 T) else (if (T.1 10 1 2) = (4 : Int32) then ((m_X11_full T).bind (fun z9 => some (z9.1, z9.2))) else (bT ((59 : Int32) + ((3 : Int32) * (T.1 10 1 2))) (fun y4 => if inb y4 175 then bT (sA T 10 1 (Int32.toNatClampNeg y4) x1) (fun T5 => if inb (y4 + (1 : Int32)) 175 then bT (sA T5 10 1 (Int32.toNatClampNeg (y4 + (1 : Int32))) x2) (fun T6 => if inb (y4 + (2 : Int32)) 175 then bT (sA T6 10 1 (Int32.toNatClampNeg (y4 + (2 : Int32))) x3) (fun T7 => bT (sA T7 10 1 2 ((T7.1 10 1 2) + (1 : Int32))) (fun T8 => some ((T8.1 10 1 2), T8))) else none) else none) else none))))))))
set_option maxHeartbeats 4000000 in
set_option maxRecDepth 100000 in
theorem k_X11_gone_b32 {B : KB} {X : KE} {res : Int32 × TT} (C : Cx B X "GriefEngineModel" cX11_gone 5 3) (E : Cr B X (some .int) (some (.int res.1)) res.2) (T : TT) (h : m_X11_gone_b32 T = some res) : Wk B X 5 T 32 [(0, .ref (B.1 10 0))] [] := by
  unfold m_X11_gone_b32 at h
  refine k_aload_n (pc := 32) C dX11_gone_32 0 rfl ?_
  refine k_bipush (pc := 33) (v := (-2 : Int32)) C dX11_gone_33 cbipush_m2 ?_
  obtain ⟨z14, e14, h⟩ := bnd h
  refine k_callvI (pc := 35) C lk_X11_63 (by decide) ix_X11 wo_X11 rfl rfl (kc_X11_bad e14) dX11_gone_35 rfl rfl (Nat.le_of_ble_eq_true rfl) ?_
  exact k_iret (pc := 38) C E (some_1 h) (some_2 h) dX11_gone_38
set_option maxHeartbeats 4000000 in
set_option maxRecDepth 100000 in
theorem kc_X11_gone {B : KB} {l : Launch} {T : TT} {x1 : Int32} {x2 : Int32} {x3 : Int32} {res : Int32 × TT} (h : m_X11_gone T x1 x2 x3 = some res) : Kt B l 3 yX11_gone cX11_gone 5 (some .int) T [.ref (B.1 10 0), .int x1, .int x2, .int x3] (some (.int res.1)) res.2 := by
  refine Kt.of (by decide) (Nat.le_of_ble_eq_true rfl) (fun X hX C E => ?_)
  subst hX
  have C : Cx B X "GriefEngineModel" cX11_gone 5 3 := C
  show Wk B X 5 T 0 [(0, .ref (B.1 10 0)), (1, .int x1), (2, .int x2), (3, .int x3)] []
  unfold m_X11_gone at h
  refine k_aload_n (pc := 0) C dX11_gone_0 0 rfl ?_
  refine k_iload_n (pc := 1) C dX11_gone_1 1 rfl ?_
  obtain ⟨z1, e1, h⟩ := bnd h
  refine k_callvI (pc := 2) C lk_X11_116 (by decide) ix_X11 wo_X11 rfl rfl (kc_X11_isDriver e1) dX11_gone_2 rfl rfl (Nat.le_of_ble_eq_true rfl) ?_
  refine k_if_eq (pc := 5) C 32 dX11_gone_5 (by decide) h (fun c13 h => ?_) (fun c13 h => ?_)
  · refine k_sub [0] rfl ?_
    exact k_X11_gone_b32 C E T h
  · refine k_iload_n (pc := 8) C dX11_gone_8 2 rfl ?_
    refine k_i2l (pc := 9) C dX11_gone_9 ?_
    refine k_lconst (pc := 10) (v := (1 : Int64)) C dX11_gone_10 (by decide) ?_
    refine k_ldc2_w (pc := 11) (v := (30 : Int64)) C dX11_gone_11 tw5_36 ?_
    obtain ⟨z2, e2, h⟩ := bnd h
    refine k_callsI (pc := 14) C lk_X11_53 (by decide) (kc_X11_in e2) dX11_gone_14 rfl rfl (Nat.le_of_ble_eq_true rfl) ?_
    refine k_if_eq (pc := 17) C 32 dX11_gone_17 (by decide) h (fun c12 h => ?_) (fun c12 h => ?_)
    · refine k_sub [0] rfl ?_
      exact k_X11_gone_b32 C E T h
    · refine k_iload_n (pc := 20) C dX11_gone_20 3 rfl ?_
      refine k_i2l (pc := 21) C dX11_gone_21 ?_
      refine k_lconst (pc := 22) (v := (0 : Int64)) C dX11_gone_22 (by decide) ?_
      refine k_ldc2_w (pc := 23) (v := (6000 : Int64)) C dX11_gone_23 tw5_37 ?_
      obtain ⟨z3, e3, h⟩ := bnd h
      refine k_callsI (pc := 26) C lk_X11_53 (by decide) (kc_X11_in e3) dX11_gone_26 rfl rfl (Nat.le_of_ble_eq_true rfl) ?_
      refine k_if_ne (pc := 29) C 39 dX11_gone_29 (by decide) h (fun c11 h => ?_) (fun c11 h => ?_)
      · refine k_aload_n (pc := 39) C dX11_gone_39 0 rfl ?_
        refine gf_X11_7 (pc := 40) C dX11_gone_40 ?_
        refine k_iconst (pc := 43) (v := (2 : Int32)) C dX11_gone_43 ciconst_2 ?_
        refine k_ialdc (pc := 44) C ia_10_1 2 dX11_gone_44 (by decide) (by decide) ?_
        refine k_iconst (pc := 45) (v := (4 : Int32)) C dX11_gone_45 ciconst_4 ?_
        refine k_icmp_ne (pc := 46) C 54 dX11_gone_46 (by decide) h (fun c10 h => ?_) (fun c10 h => ?_)
        · refine k_bipush (pc := 54) (v := (59 : Int32)) C dX11_gone_54 cbipush_59 ?_
          refine k_iconst (pc := 56) (v := (3 : Int32)) C dX11_gone_56 ciconst_3 ?_
          refine k_aload_n (pc := 57) C dX11_gone_57 0 rfl ?_
          refine gf_X11_7 (pc := 58) C dX11_gone_58 ?_
          refine k_iconst (pc := 61) (v := (2 : Int32)) C dX11_gone_61 ciconst_2 ?_
          refine k_ialdc (pc := 62) C ia_10_1 2 dX11_gone_62 (by decide) (by decide) ?_
          refine k_imul (pc := 63) C dX11_gone_63 ?_
          refine k_iadd (pc := 64) C dX11_gone_64 ?_
          refine k_nI h (fun y4 h => ?_)
          refine k_istore (pc := 65) C [(4, .int y4), (0, .ref (B.1 10 0)), (1, .int x1), (2, .int x2), (3, .int x3)] dX11_gone_65 (by decide) rfl ?_
          refine k_aload_n (pc := 67) C dX11_gone_67 1 rfl ?_
          refine gf_X11_7 (pc := 68) C dX11_gone_68 ?_
          refine k_iload (pc := 71) C dX11_gone_71 0 rfl ?_
          refine k_iload_n (pc := 73) C dX11_gone_73 2 rfl ?_
          refine k_iast (pc := 74) C ia_10_1 dX11_gone_74 h (fun h => ?_)
          refine k_nT h (fun T5 h => ?_)
          refine k_aload_n (pc := 75) C dX11_gone_75 1 rfl ?_
          refine gf_X11_7 (pc := 76) C dX11_gone_76 ?_
          refine k_iload (pc := 79) C dX11_gone_79 0 rfl ?_
          refine k_iconst (pc := 81) (v := (1 : Int32)) C dX11_gone_81 ciconst_1 ?_
          refine k_iadd (pc := 82) C dX11_gone_82 ?_
          refine k_iload_n (pc := 83) C dX11_gone_83 3 rfl ?_
          refine k_iast (pc := 84) C ia_10_1 dX11_gone_84 h (fun h => ?_)
          refine k_nT h (fun T6 h => ?_)
          refine k_aload_n (pc := 85) C dX11_gone_85 1 rfl ?_
          refine gf_X11_7 (pc := 86) C dX11_gone_86 ?_
          refine k_iload (pc := 89) C dX11_gone_89 0 rfl ?_
          refine k_iconst (pc := 91) (v := (2 : Int32)) C dX11_gone_91 ciconst_2 ?_
          refine k_iadd (pc := 92) C dX11_gone_92 ?_
          refine k_iload_n (pc := 93) C dX11_gone_93 4 rfl ?_
          refine k_iast (pc := 94) C ia_10_1 dX11_gone_94 h (fun h => ?_)
          refine k_nT h (fun T7 h => ?_)
          refine k_aload_n (pc := 95) C dX11_gone_95 1 rfl ?_
          refine gf_X11_7 (pc := 96) C dX11_gone_96 ?_
          refine k_iconst (pc := 99) (v := (2 : Int32)) C dX11_gone_99 ciconst_2 ?_
          refine k_dup2 (pc := 100) C dX11_gone_100 rfl rfl ?_
          refine k_ialdc (pc := 101) C ia_10_1 2 dX11_gone_101 (by decide) (by decide) ?_
          refine k_iconst (pc := 102) (v := (1 : Int32)) C dX11_gone_102 ciconst_1 ?_
          refine k_iadd (pc := 103) C dX11_gone_103 ?_
          refine k_iastc (pc := 104) C ia_10_1 2 dX11_gone_104 (by decide) (by decide) ?_
          refine k_nT h (fun T8 h => ?_)
          refine k_aload_n (pc := 105) C dX11_gone_105 1 rfl ?_
          refine gf_X11_7 (pc := 106) C dX11_gone_106 ?_
          refine k_iconst (pc := 109) (v := (2 : Int32)) C dX11_gone_109 ciconst_2 ?_
          refine k_ialdc (pc := 110) C ia_10_1 2 dX11_gone_110 (by decide) (by decide) ?_
          exact k_iret (pc := 111) C E (some_1 h) (some_2 h) dX11_gone_111
        · refine k_aload_n (pc := 49) C dX11_gone_49 0 rfl ?_
          obtain ⟨z9, e9, h⟩ := bnd h
          refine k_callvI (pc := 50) C lk_X11_67 (by decide) ix_X11 wo_X11 rfl rfl (kc_X11_full e9) dX11_gone_50 rfl rfl (Nat.le_of_ble_eq_true rfl) ?_
          exact k_iret (pc := 53) C E (some_1 h) (some_2 h) dX11_gone_53
      · refine k_sub [0] rfl ?_
        exact k_X11_gone_b32 C E T h
def m_X11_forget (T : TT) (x1 : Int32) : Option (Int32 × TT) := (m_X11_in (x1.toInt64) (0 : Int64) (1 : Int64)).bind (fun z1 => if z1 = 0 then ((m_X11_bad T (-2 : Int32)).bind (fun z4 => some (z4.1, z4.2))) else (if inb ((1 : Int32) + x1) 175 then (bT (T.1 10 1 (Int32.toNatClampNeg ((1 : Int32) + x1))) (fun y2 => if inb ((1 : Int32) + x1) 175 then bT (sA T 10 1 (Int32.toNatClampNeg ((1 : Int32) + x1)) (0 : Int32)) (fun T3 => some (y2, T3)) else none)) else none))
set_option maxHeartbeats 4000000 in
set_option maxRecDepth 100000 in
theorem kc_X11_forget {B : KB} {l : Launch} {T : TT} {x1 : Int32} {res : Int32 × TT} (h : m_X11_forget T x1 = some res) : Kt B l 2 yX11_forget cX11_forget 3 (some .int) T [.ref (B.1 10 0), .int x1] (some (.int res.1)) res.2 := by
  refine Kt.of (by decide) (Nat.le_of_ble_eq_true rfl) (fun X hX C E => ?_)
  subst hX
  have C : Cx B X "GriefEngineModel" cX11_forget 3 2 := C
  show Wk B X 3 T 0 [(0, .ref (B.1 10 0)), (1, .int x1)] []
  unfold m_X11_forget at h
  refine k_iload_n (pc := 0) C dX11_forget_0 1 rfl ?_
  refine k_i2l (pc := 1) C dX11_forget_1 ?_
  refine k_lconst (pc := 2) (v := (0 : Int64)) C dX11_forget_2 (by decide) ?_
  refine k_lconst (pc := 3) (v := (1 : Int64)) C dX11_forget_3 (by decide) ?_
  obtain ⟨z1, e1, h⟩ := bnd h
  refine k_callsI (pc := 4) C lk_X11_53 (by decide) (kc_X11_in e1) dX11_forget_4 rfl rfl (Nat.le_of_ble_eq_true rfl) ?_
  refine k_if_ne (pc := 7) C 17 dX11_forget_7 (by decide) h (fun c5 h => ?_) (fun c5 h => ?_)
  · refine k_aload_n (pc := 17) C dX11_forget_17 0 rfl ?_
    refine gf_X11_7 (pc := 18) C dX11_forget_18 ?_
    refine k_iconst (pc := 21) (v := (1 : Int32)) C dX11_forget_21 ciconst_1 ?_
    refine k_iload_n (pc := 22) C dX11_forget_22 1 rfl ?_
    refine k_iadd (pc := 23) C dX11_forget_23 ?_
    refine k_iald (pc := 24) C ia_10_1 dX11_forget_24 h (fun h => ?_)
    refine k_nI h (fun y2 h => ?_)
    refine k_istore_n (pc := 25) C [(2, .int y2), (0, .ref (B.1 10 0)), (1, .int x1)] dX11_forget_25 (by decide) rfl ?_
    refine k_aload_n (pc := 26) C dX11_forget_26 1 rfl ?_
    refine gf_X11_7 (pc := 27) C dX11_forget_27 ?_
    refine k_iconst (pc := 30) (v := (1 : Int32)) C dX11_forget_30 ciconst_1 ?_
    refine k_iload_n (pc := 31) C dX11_forget_31 2 rfl ?_
    refine k_iadd (pc := 32) C dX11_forget_32 ?_
    refine k_iconst (pc := 33) (v := (0 : Int32)) C dX11_forget_33 ciconst_0 ?_
    refine k_iast (pc := 34) C ia_10_1 dX11_forget_34 h (fun h => ?_)
    refine k_nT h (fun T3 h => ?_)
    refine k_iload_n (pc := 35) C dX11_forget_35 0 rfl ?_
    exact k_iret (pc := 36) C E (some_1 h) (some_2 h) dX11_forget_36
  · refine k_aload_n (pc := 10) C dX11_forget_10 0 rfl ?_
    refine k_bipush (pc := 11) (v := (-2 : Int32)) C dX11_forget_11 cbipush_m2 ?_
    obtain ⟨z4, e4, h⟩ := bnd h
    refine k_callvI (pc := 13) C lk_X11_63 (by decide) ix_X11 wo_X11 rfl rfl (kc_X11_bad e4) dX11_forget_13 rfl rfl (Nat.le_of_ble_eq_true rfl) ?_
    exact k_iret (pc := 16) C E (some_1 h) (some_2 h) dX11_forget_16
def m_X11_kindsOf_b159 (T : TT) (rec4 : Int32 → Int32 → Int32 → Option (Int32)) (x1 : Int32) (x3 : Int32) (s0 : Int32) (s1 : Int32) : Option (Int32) := bT (s0 ||| s1) (fun y13 => bT (x3 + (1 : Int32)) (fun y14 => rec4 x1 y13 y14))
def m_X11_kindsOf_b138 (T : TT) (rec4 : Int32 → Int32 → Int32 → Option (Int32)) (rec16 : Int32 → Int32 → Int32 → Int32 → Int32 → Option (Int32)) (x1 : Int32) (x2 : Int32) (x3 : Int32) (x5 : Int32) (s0 : Int32) : Option (Int32) := bT (x5 + (1 : Int32)) (fun y12 => rec16 x1 x2 x3 s0 y12)
def m_X11_kindsOf_b137 (T : TT) (rec4 : Int32 → Int32 → Int32 → Option (Int32)) (rec16 : Int32 → Int32 → Int32 → Int32 → Int32 → Option (Int32)) (x1 : Int32) (x2 : Int32) (x3 : Int32) (x5 : Int32) : Option (Int32) := m_X11_kindsOf_b138 T rec4 rec16 x1 x2 x3 x5 (0 : Int32)
def m_X11_kindsOf_b133 (T : TT) (rec4 : Int32 → Int32 → Int32 → Option (Int32)) (rec16 : Int32 → Int32 → Int32 → Int32 → Int32 → Option (Int32)) (x1 : Int32) (x2 : Int32) (x3 : Int32) (x5 : Int32) : Option (Int32) := m_X11_kindsOf_b138 T rec4 rec16 x1 x2 x3 x5 (1 : Int32)
def m_X11_kindsOf_b110 (T : TT) (rec4 : Int32 → Int32 → Int32 → Option (Int32)) (rec16 : Int32 → Int32 → Int32 → Int32 → Int32 → Option (Int32)) (x1 : Int32) (x2 : Int32) (x3 : Int32) (x4 : Int32) (x5 : Int32) (x6 : Int32) (s0 : Int32) : Option (Int32) := if x4 = 0 then (m_X11_kindsOf_b137 T rec4 rec16 x1 x2 x3 x5) else (if inb x6 175 then (if (T.1 10 1 (Int32.toNatClampNeg x6)) = x1 then (if s0 = 0 then (m_X11_kindsOf_b137 T rec4 rec16 x1 x2 x3 x5) else (m_X11_kindsOf_b133 T rec4 rec16 x1 x2 x3 x5)) else (m_X11_kindsOf_b133 T rec4 rec16 x1 x2 x3 x5)) else none)
def m_X11_kindsOf_b109 (T : TT) (rec4 : Int32 → Int32 → Int32 → Option (Int32)) (rec16 : Int32 → Int32 → Int32 → Int32 → Int32 → Option (Int32)) (x1 : Int32) (x2 : Int32) (x3 : Int32) (x4 : Int32) (x5 : Int32) (x6 : Int32) : Option (Int32) := m_X11_kindsOf_b110 T rec4 rec16 x1 x2 x3 x4 x5 x6 (0 : Int32)
def m_X11_kindsOf_h16 (T : TT) (rec4 : Int32 → Int32 → Int32 → Option (Int32)) (rec16 : Int32 → Int32 → Int32 → Int32 → Int32 → Option (Int32)) (x1 : Int32) (x2 : Int32) (x3 : Int32) (x4 : Int32) (x5 : Int32) : Option (Int32) := if (T.1 10 1 1) ≤ x5 then (if x4 = 0 then (m_X11_kindsOf_b159 T rec4 x1 x3 x2 (0 : Int32)) else (m_X11_kindsOf_b159 T rec4 x1 x3 x2 ((1 : Int32) <<< (x3 &&& 31)))) else (bT ((23 : Int32) + ((6 : Int32) * x5)) (fun y3 => if inb (y3 + (1 : Int32)) 175 then (if inb (y3 + (2 : Int32)) 175 then ((m_X11_runsAs x3 (T.1 10 1 (Int32.toNatClampNeg (y3 + (1 : Int32)))) (T.1 10 1 (Int32.toNatClampNeg (y3 + (2 : Int32))))).bind (fun z4 => if inb (y3 + (3 : Int32)) 175 then (if z4 = (T.1 10 1 (Int32.toNatClampNeg (y3 + (3 : Int32)))) then (if inb (y3 + (1 : Int32)) 175 then (if inb (y3 + (4 : Int32)) 175 then ((m_X11_leftAs x3 (T.1 10 1 (Int32.toNatClampNeg (y3 + (1 : Int32)))) (T.1 10 1 (Int32.toNatClampNeg (y3 + (4 : Int32))))).bind (fun z5 => if inb (y3 + (5 : Int32)) 175 then (if z5 = (T.1 10 1 (Int32.toNatClampNeg (y3 + (5 : Int32)))) then (m_X11_kindsOf_b110 T rec4 rec16 x1 x2 x3 x4 x5 y3 (1 : Int32)) else (m_X11_kindsOf_b109 T rec4 rec16 x1 x2 x3 x4 x5 y3)) else none)) else none) else none) else (m_X11_kindsOf_b109 T rec4 rec16 x1 x2 x3 x4 x5 y3)) else none)) else none) else none))
def m_X11_kindsOf_l16 (T : TT) (rec4 : Int32 → Int32 → Int32 → Option (Int32)) : Nat → Int32 → Int32 → Int32 → Int32 → Int32 → Option (Int32)
  | 0 => fun _ _ _ _ _ => none
  | n + 1 => fun x1 x2 x3 x4 x5 => m_X11_kindsOf_h16 T rec4 (m_X11_kindsOf_l16 T rec4 n) x1 x2 x3 x4 x5
def m_X11_kindsOf_h4 (T : TT) (rec4 : Int32 → Int32 → Int32 → Option (Int32)) (x1 : Int32) (x2 : Int32) (x3 : Int32) : Option (Int32) := if (6 : Int32) ≤ x3 then (some x2) else (m_X11_kindsOf_l16 T rec4 FU x1 x2 x3 (1 : Int32) (0 : Int32))
def m_X11_kindsOf_l4 (T : TT) : Nat → Int32 → Int32 → Int32 → Option (Int32)
  | 0 => fun _ _ _ => none
  | n + 1 => fun x1 x2 x3 => m_X11_kindsOf_h4 T (m_X11_kindsOf_l4 T n) x1 x2 x3
def m_X11_kindsOf (T : TT) (x1 : Int32) : Option (Int32) := m_X11_kindsOf_l4 T FU x1 (0 : Int32) (0 : Int32)
set_option maxHeartbeats 4000000 in
set_option maxRecDepth 100000 in
theorem k_X11_kindsOf_b159 {B : KB} {X : KE} {T : TT} {rec4 : Int32 → Int32 → Int32 → Option (Int32)} {res : Int32} (C : Cx B X "GriefEngineModel" cX11_kindsOf 8 3) (E : Cr B X (some .int) (some (.int res)) T) (hrec4 : ∀ (x1 : Int32) (x2 : Int32) (x3 : Int32), rec4 x1 x2 x3 = some res → Wk B X 8 T 4 [(0, .ref (B.1 10 0)), (1, .int x1), (2, .int x2), (3, .int x3)] []) (x1 : Int32) (x3 : Int32) (s0 : Int32) (s1 : Int32) (h : m_X11_kindsOf_b159 T rec4 x1 x3 s0 s1 = some res) : Wk B X 8 T 159 [(0, .ref (B.1 10 0)), (1, .int x1), (3, .int x3)] [.int s1, .int s0] := by
  unfold m_X11_kindsOf_b159 at h
  refine k_ior (pc := 159) C dX11_kindsOf_159 ?_
  refine k_nI h (fun y13 h => ?_)
  refine k_istore_n (pc := 160) C [(2, .int y13), (0, .ref (B.1 10 0)), (1, .int x1), (3, .int x3)] dX11_kindsOf_160 (by decide) rfl ?_
  refine k_iincN (pc := 161) (x := x3) (c := (1 : Int32)) C (fun y14 => [(3, .int y14), (2, .int y13), (0, .ref (B.1 10 0)), (1, .int x1)]) dX11_kindsOf_161 3 rfl ciconst_1 (by decide) (fun _ => rfl) h (fun y14 h => ?_)
  refine k_goto (pc := 164) C 4 dX11_kindsOf_164 (by decide) ?_
  refine k_sub [2, 3, 1, 0] rfl ?_
  exact hrec4 x1 y13 y14 h
set_option maxHeartbeats 4000000 in
set_option maxRecDepth 100000 in
theorem k_X11_kindsOf_b138 {B : KB} {X : KE} {T : TT} {rec4 : Int32 → Int32 → Int32 → Option (Int32)} {rec16 : Int32 → Int32 → Int32 → Int32 → Int32 → Option (Int32)} {res : Int32} (C : Cx B X "GriefEngineModel" cX11_kindsOf 8 3) (E : Cr B X (some .int) (some (.int res)) T) (hrec4 : ∀ (x1 : Int32) (x2 : Int32) (x3 : Int32), rec4 x1 x2 x3 = some res → Wk B X 8 T 4 [(0, .ref (B.1 10 0)), (1, .int x1), (2, .int x2), (3, .int x3)] []) (hrec16 : ∀ (x1 : Int32) (x2 : Int32) (x3 : Int32) (x4 : Int32) (x5 : Int32), rec16 x1 x2 x3 x4 x5 = some res → Wk B X 8 T 16 [(0, .ref (B.1 10 0)), (1, .int x1), (2, .int x2), (3, .int x3), (4, .int x4), (5, .int x5)] []) (x1 : Int32) (x2 : Int32) (x3 : Int32) (x5 : Int32) (s0 : Int32) (h : m_X11_kindsOf_b138 T rec4 rec16 x1 x2 x3 x5 s0 = some res) : Wk B X 8 T 138 [(0, .ref (B.1 10 0)), (1, .int x1), (2, .int x2), (3, .int x3), (5, .int x5)] [.int s0] := by
  unfold m_X11_kindsOf_b138 at h
  refine k_istore (pc := 138) C [(4, .int s0), (0, .ref (B.1 10 0)), (1, .int x1), (2, .int x2), (3, .int x3), (5, .int x5)] dX11_kindsOf_138 (by decide) rfl ?_
  refine k_iincN (pc := 140) (x := x5) (c := (1 : Int32)) C (fun y12 => [(5, .int y12), (4, .int s0), (0, .ref (B.1 10 0)), (1, .int x1), (2, .int x2), (3, .int x3)]) dX11_kindsOf_140 5 rfl ciconst_1 (by decide) (fun _ => rfl) h (fun y12 h => ?_)
  refine k_goto (pc := 143) C 16 dX11_kindsOf_143 (by decide) ?_
  refine k_sub [2, 3, 4, 5, 1, 0] rfl ?_
  exact hrec16 x1 x2 x3 s0 y12 h
set_option maxHeartbeats 4000000 in
set_option maxRecDepth 100000 in
theorem k_X11_kindsOf_b137 {B : KB} {X : KE} {T : TT} {rec4 : Int32 → Int32 → Int32 → Option (Int32)} {rec16 : Int32 → Int32 → Int32 → Int32 → Int32 → Option (Int32)} {res : Int32} (C : Cx B X "GriefEngineModel" cX11_kindsOf 8 3) (E : Cr B X (some .int) (some (.int res)) T) (hrec4 : ∀ (x1 : Int32) (x2 : Int32) (x3 : Int32), rec4 x1 x2 x3 = some res → Wk B X 8 T 4 [(0, .ref (B.1 10 0)), (1, .int x1), (2, .int x2), (3, .int x3)] []) (hrec16 : ∀ (x1 : Int32) (x2 : Int32) (x3 : Int32) (x4 : Int32) (x5 : Int32), rec16 x1 x2 x3 x4 x5 = some res → Wk B X 8 T 16 [(0, .ref (B.1 10 0)), (1, .int x1), (2, .int x2), (3, .int x3), (4, .int x4), (5, .int x5)] []) (x1 : Int32) (x2 : Int32) (x3 : Int32) (x5 : Int32) (h : m_X11_kindsOf_b137 T rec4 rec16 x1 x2 x3 x5 = some res) : Wk B X 8 T 137 [(0, .ref (B.1 10 0)), (1, .int x1), (2, .int x2), (3, .int x3), (5, .int x5)] [] := by
  unfold m_X11_kindsOf_b137 at h
  refine k_iconst (pc := 137) (v := (0 : Int32)) C dX11_kindsOf_137 ciconst_0 ?_
  refine k_sub [0, 1, 2, 3, 4] rfl ?_
  exact k_X11_kindsOf_b138 C E hrec4 hrec16 x1 x2 x3 x5 (0 : Int32) h
set_option maxHeartbeats 4000000 in
set_option maxRecDepth 100000 in
theorem k_X11_kindsOf_b133 {B : KB} {X : KE} {T : TT} {rec4 : Int32 → Int32 → Int32 → Option (Int32)} {rec16 : Int32 → Int32 → Int32 → Int32 → Int32 → Option (Int32)} {res : Int32} (C : Cx B X "GriefEngineModel" cX11_kindsOf 8 3) (E : Cr B X (some .int) (some (.int res)) T) (hrec4 : ∀ (x1 : Int32) (x2 : Int32) (x3 : Int32), rec4 x1 x2 x3 = some res → Wk B X 8 T 4 [(0, .ref (B.1 10 0)), (1, .int x1), (2, .int x2), (3, .int x3)] []) (hrec16 : ∀ (x1 : Int32) (x2 : Int32) (x3 : Int32) (x4 : Int32) (x5 : Int32), rec16 x1 x2 x3 x4 x5 = some res → Wk B X 8 T 16 [(0, .ref (B.1 10 0)), (1, .int x1), (2, .int x2), (3, .int x3), (4, .int x4), (5, .int x5)] []) (x1 : Int32) (x2 : Int32) (x3 : Int32) (x5 : Int32) (h : m_X11_kindsOf_b133 T rec4 rec16 x1 x2 x3 x5 = some res) : Wk B X 8 T 133 [(0, .ref (B.1 10 0)), (1, .int x1), (2, .int x2), (3, .int x3), (5, .int x5)] [] := by
  unfold m_X11_kindsOf_b133 at h
  refine k_iconst (pc := 133) (v := (1 : Int32)) C dX11_kindsOf_133 ciconst_1 ?_
  refine k_goto (pc := 134) C 138 dX11_kindsOf_134 (by decide) ?_
  refine k_sub [0, 1, 2, 3, 4] rfl ?_
  exact k_X11_kindsOf_b138 C E hrec4 hrec16 x1 x2 x3 x5 (1 : Int32) h
set_option maxHeartbeats 4000000 in
set_option maxRecDepth 100000 in
theorem k_X11_kindsOf_b110 {B : KB} {X : KE} {T : TT} {rec4 : Int32 → Int32 → Int32 → Option (Int32)} {rec16 : Int32 → Int32 → Int32 → Int32 → Int32 → Option (Int32)} {res : Int32} (C : Cx B X "GriefEngineModel" cX11_kindsOf 8 3) (E : Cr B X (some .int) (some (.int res)) T) (hrec4 : ∀ (x1 : Int32) (x2 : Int32) (x3 : Int32), rec4 x1 x2 x3 = some res → Wk B X 8 T 4 [(0, .ref (B.1 10 0)), (1, .int x1), (2, .int x2), (3, .int x3)] []) (hrec16 : ∀ (x1 : Int32) (x2 : Int32) (x3 : Int32) (x4 : Int32) (x5 : Int32), rec16 x1 x2 x3 x4 x5 = some res → Wk B X 8 T 16 [(0, .ref (B.1 10 0)), (1, .int x1), (2, .int x2), (3, .int x3), (4, .int x4), (5, .int x5)] []) (x1 : Int32) (x2 : Int32) (x3 : Int32) (x4 : Int32) (x5 : Int32) (x6 : Int32) (s0 : Int32) (h : m_X11_kindsOf_b110 T rec4 rec16 x1 x2 x3 x4 x5 x6 s0 = some res) : Wk B X 8 T 110 [(0, .ref (B.1 10 0)), (1, .int x1), (2, .int x2), (3, .int x3), (4, .int x4), (5, .int x5), (6, .int x6)] [.int s0] := by
  unfold m_X11_kindsOf_b110 at h
  refine k_istore (pc := 110) C [(7, .int s0), (0, .ref (B.1 10 0)), (1, .int x1), (2, .int x2), (3, .int x3), (4, .int x4), (5, .int x5), (6, .int x6)] dX11_kindsOf_110 (by decide) rfl ?_
  refine k_iload (pc := 112) C dX11_kindsOf_112 5 rfl ?_
  refine k_if_eq (pc := 114) C 137 dX11_kindsOf_114 (by decide) h (fun c11 h => ?_) (fun c11 h => ?_)
  · refine k_sub [1, 2, 3, 4, 6] rfl ?_
    exact k_X11_kindsOf_b137 C E hrec4 hrec16 x1 x2 x3 x5 h
  · refine k_aload_n (pc := 117) C dX11_kindsOf_117 1 rfl ?_
    refine gf_X11_7 (pc := 118) C dX11_kindsOf_118 ?_
    refine k_iload (pc := 121) C dX11_kindsOf_121 7 rfl ?_
    refine k_iald (pc := 123) C ia_10_1 dX11_kindsOf_123 h (fun h => ?_)
    refine k_iload_n (pc := 124) C dX11_kindsOf_124 2 rfl ?_
    refine k_icmp_ne (pc := 125) C 133 dX11_kindsOf_125 (by decide) h (fun c10 h => ?_) (fun c10 h => ?_)
    · refine k_sub [1, 2, 3, 4, 6] rfl ?_
      exact k_X11_kindsOf_b133 C E hrec4 hrec16 x1 x2 x3 x5 h
    · refine k_iload (pc := 128) C dX11_kindsOf_128 0 rfl ?_
      refine k_if_eq (pc := 130) C 137 dX11_kindsOf_130 (by decide) h (fun c9 h => ?_) (fun c9 h => ?_)
      · refine k_sub [1, 2, 3, 4, 6] rfl ?_
        exact k_X11_kindsOf_b137 C E hrec4 hrec16 x1 x2 x3 x5 h
      · refine k_sub [1, 2, 3, 4, 6] rfl ?_
        exact k_X11_kindsOf_b133 C E hrec4 hrec16 x1 x2 x3 x5 h
set_option maxHeartbeats 4000000 in
set_option maxRecDepth 100000 in
theorem k_X11_kindsOf_b109 {B : KB} {X : KE} {T : TT} {rec4 : Int32 → Int32 → Int32 → Option (Int32)} {rec16 : Int32 → Int32 → Int32 → Int32 → Int32 → Option (Int32)} {res : Int32} (C : Cx B X "GriefEngineModel" cX11_kindsOf 8 3) (E : Cr B X (some .int) (some (.int res)) T) (hrec4 : ∀ (x1 : Int32) (x2 : Int32) (x3 : Int32), rec4 x1 x2 x3 = some res → Wk B X 8 T 4 [(0, .ref (B.1 10 0)), (1, .int x1), (2, .int x2), (3, .int x3)] []) (hrec16 : ∀ (x1 : Int32) (x2 : Int32) (x3 : Int32) (x4 : Int32) (x5 : Int32), rec16 x1 x2 x3 x4 x5 = some res → Wk B X 8 T 16 [(0, .ref (B.1 10 0)), (1, .int x1), (2, .int x2), (3, .int x3), (4, .int x4), (5, .int x5)] []) (x1 : Int32) (x2 : Int32) (x3 : Int32) (x4 : Int32) (x5 : Int32) (x6 : Int32) (h : m_X11_kindsOf_b109 T rec4 rec16 x1 x2 x3 x4 x5 x6 = some res) : Wk B X 8 T 109 [(0, .ref (B.1 10 0)), (1, .int x1), (2, .int x2), (3, .int x3), (4, .int x4), (5, .int x5), (6, .int x6)] [] := by
  unfold m_X11_kindsOf_b109 at h
  refine k_iconst (pc := 109) (v := (0 : Int32)) C dX11_kindsOf_109 ciconst_0 ?_
  refine k_sub [0, 1, 2, 3, 4, 5, 6] rfl ?_
  exact k_X11_kindsOf_b110 C E hrec4 hrec16 x1 x2 x3 x4 x5 x6 (0 : Int32) h
set_option maxHeartbeats 4000000 in
set_option maxRecDepth 100000 in
theorem k_X11_kindsOf_h16 {B : KB} {X : KE} {T : TT} {rec4 : Int32 → Int32 → Int32 → Option (Int32)} {rec16 : Int32 → Int32 → Int32 → Int32 → Int32 → Option (Int32)} {res : Int32} (C : Cx B X "GriefEngineModel" cX11_kindsOf 8 3) (E : Cr B X (some .int) (some (.int res)) T) (hrec4 : ∀ (x1 : Int32) (x2 : Int32) (x3 : Int32), rec4 x1 x2 x3 = some res → Wk B X 8 T 4 [(0, .ref (B.1 10 0)), (1, .int x1), (2, .int x2), (3, .int x3)] []) (hrec16 : ∀ (x1 : Int32) (x2 : Int32) (x3 : Int32) (x4 : Int32) (x5 : Int32), rec16 x1 x2 x3 x4 x5 = some res → Wk B X 8 T 16 [(0, .ref (B.1 10 0)), (1, .int x1), (2, .int x2), (3, .int x3), (4, .int x4), (5, .int x5)] []) (x1 : Int32) (x2 : Int32) (x3 : Int32) (x4 : Int32) (x5 : Int32) (h : m_X11_kindsOf_h16 T rec4 rec16 x1 x2 x3 x4 x5 = some res) : Wk B X 8 T 16 [(0, .ref (B.1 10 0)), (1, .int x1), (2, .int x2), (3, .int x3), (4, .int x4), (5, .int x5)] [] := by
  unfold m_X11_kindsOf_h16 at h
  refine k_iload (pc := 16) C dX11_kindsOf_16 5 rfl ?_
  refine k_aload_n (pc := 18) C dX11_kindsOf_18 0 rfl ?_
  refine gf_X11_7 (pc := 19) C dX11_kindsOf_19 ?_
  refine k_iconst (pc := 22) (v := (1 : Int32)) C dX11_kindsOf_22 ciconst_1 ?_
  refine k_ialdc (pc := 23) C ia_10_1 1 dX11_kindsOf_23 (by decide) (by decide) ?_
  refine k_icmp_ge (pc := 24) C 146 dX11_kindsOf_24 (by decide) h (fun c8 h => ?_) (fun c8 h => ?_)
  · refine k_iload_n (pc := 146) C dX11_kindsOf_146 2 rfl ?_
    refine k_iload (pc := 147) C dX11_kindsOf_147 4 rfl ?_
    refine k_if_eq (pc := 149) C 158 dX11_kindsOf_149 (by decide) h (fun c2 h => ?_) (fun c2 h => ?_)
    · refine k_iconst (pc := 158) (v := (0 : Int32)) C dX11_kindsOf_158 ciconst_0 ?_
      refine k_sub [0, 1, 3] rfl ?_
      exact k_X11_kindsOf_b159 C E hrec4 x1 x3 x2 (0 : Int32) h
    · refine k_iconst (pc := 152) (v := (1 : Int32)) C dX11_kindsOf_152 ciconst_1 ?_
      refine k_iload_n (pc := 153) C dX11_kindsOf_153 3 rfl ?_
      refine k_ishl (pc := 154) C dX11_kindsOf_154 ?_
      refine k_goto (pc := 155) C 159 dX11_kindsOf_155 (by decide) ?_
      refine k_sub [0, 1, 3] rfl ?_
      exact k_X11_kindsOf_b159 C E hrec4 x1 x3 x2 ((1 : Int32) <<< (x3 &&& 31)) h
  · refine k_bipush (pc := 27) (v := (23 : Int32)) C dX11_kindsOf_27 cbipush_23 ?_
    refine k_bipush (pc := 29) (v := (6 : Int32)) C dX11_kindsOf_29 cbipush_6 ?_
    refine k_iload (pc := 31) C dX11_kindsOf_31 5 rfl ?_
    refine k_imul (pc := 33) C dX11_kindsOf_33 ?_
    refine k_iadd (pc := 34) C dX11_kindsOf_34 ?_
    refine k_nI h (fun y3 h => ?_)
    refine k_istore (pc := 35) C [(6, .int y3), (0, .ref (B.1 10 0)), (1, .int x1), (2, .int x2), (3, .int x3), (4, .int x4), (5, .int x5)] dX11_kindsOf_35 (by decide) rfl ?_
    refine k_iload_n (pc := 37) C dX11_kindsOf_37 4 rfl ?_
    refine k_aload_n (pc := 38) C dX11_kindsOf_38 1 rfl ?_
    refine gf_X11_7 (pc := 39) C dX11_kindsOf_39 ?_
    refine k_iload (pc := 42) C dX11_kindsOf_42 0 rfl ?_
    refine k_iconst (pc := 44) (v := (1 : Int32)) C dX11_kindsOf_44 ciconst_1 ?_
    refine k_iadd (pc := 45) C dX11_kindsOf_45 ?_
    refine k_iald (pc := 46) C ia_10_1 dX11_kindsOf_46 h (fun h => ?_)
    refine k_aload_n (pc := 47) C dX11_kindsOf_47 1 rfl ?_
    refine gf_X11_7 (pc := 48) C dX11_kindsOf_48 ?_
    refine k_iload (pc := 51) C dX11_kindsOf_51 0 rfl ?_
    refine k_iconst (pc := 53) (v := (2 : Int32)) C dX11_kindsOf_53 ciconst_2 ?_
    refine k_iadd (pc := 54) C dX11_kindsOf_54 ?_
    refine k_iald (pc := 55) C ia_10_1 dX11_kindsOf_55 h (fun h => ?_)
    obtain ⟨z4, e4, h⟩ := bnd h
    refine k_callsI (pc := 56) C lk_X11_94 (by decide) (kc_X11_runsAs e4) dX11_kindsOf_56 rfl rfl (Nat.le_of_ble_eq_true rfl) ?_
    refine k_aload_n (pc := 59) C dX11_kindsOf_59 1 rfl ?_
    refine gf_X11_7 (pc := 60) C dX11_kindsOf_60 ?_
    refine k_iload (pc := 63) C dX11_kindsOf_63 0 rfl ?_
    refine k_iconst (pc := 65) (v := (3 : Int32)) C dX11_kindsOf_65 ciconst_3 ?_
    refine k_iadd (pc := 66) C dX11_kindsOf_66 ?_
    refine k_iald (pc := 67) C ia_10_1 dX11_kindsOf_67 h (fun h => ?_)
    refine k_icmp_ne (pc := 68) C 109 dX11_kindsOf_68 (by decide) h (fun c7 h => ?_) (fun c7 h => ?_)
    · refine k_sub [1, 2, 3, 4, 5, 6, 0] rfl ?_
      exact k_X11_kindsOf_b109 C E hrec4 hrec16 x1 x2 x3 x4 x5 y3 h
    · refine k_iload_n (pc := 71) C dX11_kindsOf_71 4 rfl ?_
      refine k_aload_n (pc := 72) C dX11_kindsOf_72 1 rfl ?_
      refine gf_X11_7 (pc := 73) C dX11_kindsOf_73 ?_
      refine k_iload (pc := 76) C dX11_kindsOf_76 0 rfl ?_
      refine k_iconst (pc := 78) (v := (1 : Int32)) C dX11_kindsOf_78 ciconst_1 ?_
      refine k_iadd (pc := 79) C dX11_kindsOf_79 ?_
      refine k_iald (pc := 80) C ia_10_1 dX11_kindsOf_80 h (fun h => ?_)
      refine k_aload_n (pc := 81) C dX11_kindsOf_81 1 rfl ?_
      refine gf_X11_7 (pc := 82) C dX11_kindsOf_82 ?_
      refine k_iload (pc := 85) C dX11_kindsOf_85 0 rfl ?_
      refine k_iconst (pc := 87) (v := (4 : Int32)) C dX11_kindsOf_87 ciconst_4 ?_
      refine k_iadd (pc := 88) C dX11_kindsOf_88 ?_
      refine k_iald (pc := 89) C ia_10_1 dX11_kindsOf_89 h (fun h => ?_)
      obtain ⟨z5, e5, h⟩ := bnd h
      refine k_callsI (pc := 90) C lk_X11_98 (by decide) (kc_X11_leftAs e5) dX11_kindsOf_90 rfl rfl (Nat.le_of_ble_eq_true rfl) ?_
      refine k_aload_n (pc := 93) C dX11_kindsOf_93 1 rfl ?_
      refine gf_X11_7 (pc := 94) C dX11_kindsOf_94 ?_
      refine k_iload (pc := 97) C dX11_kindsOf_97 0 rfl ?_
      refine k_iconst (pc := 99) (v := (5 : Int32)) C dX11_kindsOf_99 ciconst_5 ?_
      refine k_iadd (pc := 100) C dX11_kindsOf_100 ?_
      refine k_iald (pc := 101) C ia_10_1 dX11_kindsOf_101 h (fun h => ?_)
      refine k_icmp_ne (pc := 102) C 109 dX11_kindsOf_102 (by decide) h (fun c6 h => ?_) (fun c6 h => ?_)
      · refine k_sub [1, 2, 3, 4, 5, 6, 0] rfl ?_
        exact k_X11_kindsOf_b109 C E hrec4 hrec16 x1 x2 x3 x4 x5 y3 h
      · refine k_iconst (pc := 105) (v := (1 : Int32)) C dX11_kindsOf_105 ciconst_1 ?_
        refine k_goto (pc := 106) C 110 dX11_kindsOf_106 (by decide) ?_
        refine k_sub [1, 2, 3, 4, 5, 6, 0] rfl ?_
        exact k_X11_kindsOf_b110 C E hrec4 hrec16 x1 x2 x3 x4 x5 y3 (1 : Int32) h
set_option maxHeartbeats 4000000 in
set_option maxRecDepth 100000 in
theorem k_X11_kindsOf_l16 {B : KB} {X : KE} {T : TT} {rec4 : Int32 → Int32 → Int32 → Option (Int32)} {res : Int32} (C : Cx B X "GriefEngineModel" cX11_kindsOf 8 3) (E : Cr B X (some .int) (some (.int res)) T) (hrec4 : ∀ (x1 : Int32) (x2 : Int32) (x3 : Int32), rec4 x1 x2 x3 = some res → Wk B X 8 T 4 [(0, .ref (B.1 10 0)), (1, .int x1), (2, .int x2), (3, .int x3)] []) : ∀ (n : Nat) (x1 : Int32) (x2 : Int32) (x3 : Int32) (x4 : Int32) (x5 : Int32) (h : m_X11_kindsOf_l16 T rec4 n x1 x2 x3 x4 x5 = some res), Wk B X 8 T 16 [(0, .ref (B.1 10 0)), (1, .int x1), (2, .int x2), (3, .int x3), (4, .int x4), (5, .int x5)] [] := by
  intro n
  induction n with
  | zero =>
    intro x1 x2 x3 x4 x5 h
    exact no_some h
  | succ n ih =>
    intro x1 x2 x3 x4 x5 h
    exact k_X11_kindsOf_h16 C E hrec4 (fun x1 x2 x3 x4 x5 h => ih x1 x2 x3 x4 x5 h) x1 x2 x3 x4 x5 h
set_option maxHeartbeats 4000000 in
set_option maxRecDepth 100000 in
theorem k_X11_kindsOf_h4 {B : KB} {X : KE} {T : TT} {rec4 : Int32 → Int32 → Int32 → Option (Int32)} {res : Int32} (C : Cx B X "GriefEngineModel" cX11_kindsOf 8 3) (E : Cr B X (some .int) (some (.int res)) T) (hrec4 : ∀ (x1 : Int32) (x2 : Int32) (x3 : Int32), rec4 x1 x2 x3 = some res → Wk B X 8 T 4 [(0, .ref (B.1 10 0)), (1, .int x1), (2, .int x2), (3, .int x3)] []) (x1 : Int32) (x2 : Int32) (x3 : Int32) (h : m_X11_kindsOf_h4 T rec4 x1 x2 x3 = some res) : Wk B X 8 T 4 [(0, .ref (B.1 10 0)), (1, .int x1), (2, .int x2), (3, .int x3)] [] := by
  unfold m_X11_kindsOf_h4 at h
  refine k_iload_n (pc := 4) C dX11_kindsOf_4 3 rfl ?_
  refine k_bipush (pc := 5) (v := (6 : Int32)) C dX11_kindsOf_5 cbipush_6 ?_
  refine k_icmp_ge (pc := 7) C 167 dX11_kindsOf_7 (by decide) h (fun c1 h => ?_) (fun c1 h => ?_)
  · refine k_iload_n (pc := 167) C dX11_kindsOf_167 2 rfl ?_
    exact k_iret (pc := 168) C E (some_i h) rfl dX11_kindsOf_168
  · refine k_iconst (pc := 10) (v := (1 : Int32)) C dX11_kindsOf_10 ciconst_1 ?_
    refine k_istore (pc := 11) C [(4, .int (1 : Int32)), (0, .ref (B.1 10 0)), (1, .int x1), (2, .int x2), (3, .int x3)] dX11_kindsOf_11 (by decide) rfl ?_
    refine k_iconst (pc := 13) (v := (0 : Int32)) C dX11_kindsOf_13 ciconst_0 ?_
    refine k_istore (pc := 14) C [(5, .int (0 : Int32)), (4, .int (1 : Int32)), (0, .ref (B.1 10 0)), (1, .int x1), (2, .int x2), (3, .int x3)] dX11_kindsOf_14 (by decide) rfl ?_
    refine k_sub [2, 3, 4, 5, 1, 0] rfl ?_
    exact k_X11_kindsOf_l16 C E hrec4 FU x1 x2 x3 (1 : Int32) (0 : Int32) h
set_option maxHeartbeats 4000000 in
set_option maxRecDepth 100000 in
theorem k_X11_kindsOf_l4 {B : KB} {X : KE} {T : TT} {res : Int32} (C : Cx B X "GriefEngineModel" cX11_kindsOf 8 3) (E : Cr B X (some .int) (some (.int res)) T) : ∀ (n : Nat) (x1 : Int32) (x2 : Int32) (x3 : Int32) (h : m_X11_kindsOf_l4 T n x1 x2 x3 = some res), Wk B X 8 T 4 [(0, .ref (B.1 10 0)), (1, .int x1), (2, .int x2), (3, .int x3)] [] := by
  intro n
  induction n with
  | zero =>
    intro x1 x2 x3 h
    exact no_some h
  | succ n ih =>
    intro x1 x2 x3 h
    exact k_X11_kindsOf_h4 C E (fun x1 x2 x3 h => ih x1 x2 x3 h) x1 x2 x3 h
set_option maxHeartbeats 4000000 in
set_option maxRecDepth 100000 in
theorem kc_X11_kindsOf {B : KB} {l : Launch} {T : TT} {x1 : Int32} {res : Int32} (h : m_X11_kindsOf T x1 = some res) : Kt B l 3 yX11_kindsOf cX11_kindsOf 8 (some .int) T [.ref (B.1 10 0), .int x1] (some (.int res)) T := by
  refine Kt.of (by decide) (Nat.le_of_ble_eq_true rfl) (fun X hX C E => ?_)
  subst hX
  have C : Cx B X "GriefEngineModel" cX11_kindsOf 8 3 := C
  show Wk B X 8 T 0 [(0, .ref (B.1 10 0)), (1, .int x1)] []
  unfold m_X11_kindsOf at h
  refine k_iconst (pc := 0) (v := (0 : Int32)) C dX11_kindsOf_0 ciconst_0 ?_
  refine k_istore_n (pc := 1) C [(2, .int (0 : Int32)), (0, .ref (B.1 10 0)), (1, .int x1)] dX11_kindsOf_1 (by decide) rfl ?_
  refine k_iconst (pc := 2) (v := (0 : Int32)) C dX11_kindsOf_2 ciconst_0 ?_
  refine k_istore_n (pc := 3) C [(3, .int (0 : Int32)), (2, .int (0 : Int32)), (0, .ref (B.1 10 0)), (1, .int x1)] dX11_kindsOf_3 (by decide) rfl ?_
  refine k_sub [2, 3, 1, 0] rfl ?_
  exact k_X11_kindsOf_l4 C E FU x1 (0 : Int32) (0 : Int32) h
def m_X11_is (T : TT) (x1 : Int32) : Option (Int32 × TT) := (m_X11_isDriver T x1).bind (fun z1 => if z1 = 0 then ((m_X11_bad T (-2 : Int32)).bind (fun z2 => some (z2.1, z2.2))) else ((m_X11_kindsOf T x1).bind (fun z3 => some (z3, T))))
set_option maxHeartbeats 4000000 in
set_option maxRecDepth 100000 in
theorem kc_X11_is {B : KB} {l : Launch} {T : TT} {x1 : Int32} {res : Int32 × TT} (h : m_X11_is T x1 = some res) : Kt B l 4 yX11_is cX11_is 2 (some .int) T [.ref (B.1 10 0), .int x1] (some (.int res.1)) res.2 := by
  refine Kt.of (by decide) (Nat.le_of_ble_eq_true rfl) (fun X hX C E => ?_)
  subst hX
  have C : Cx B X "GriefEngineModel" cX11_is 2 4 := C
  show Wk B X 2 T 0 [(0, .ref (B.1 10 0)), (1, .int x1)] []
  unfold m_X11_is at h
  refine k_aload_n (pc := 0) C dX11_is_0 0 rfl ?_
  refine k_iload_n (pc := 1) C dX11_is_1 1 rfl ?_
  obtain ⟨z1, e1, h⟩ := bnd h
  refine k_callvI (pc := 2) C lk_X11_116 (by decide) ix_X11 wo_X11 rfl rfl (kc_X11_isDriver e1) dX11_is_2 rfl rfl (Nat.le_of_ble_eq_true rfl) ?_
  refine k_if_eq (pc := 5) C 16 dX11_is_5 (by decide) h (fun c4 h => ?_) (fun c4 h => ?_)
  · refine k_aload_n (pc := 16) C dX11_is_16 0 rfl ?_
    refine k_bipush (pc := 17) (v := (-2 : Int32)) C dX11_is_17 cbipush_m2 ?_
    obtain ⟨z2, e2, h⟩ := bnd h
    refine k_callvI (pc := 19) C lk_X11_63 (by decide) ix_X11 wo_X11 rfl rfl (kc_X11_bad e2) dX11_is_19 rfl rfl (Nat.le_of_ble_eq_true rfl) ?_
    exact k_iret (pc := 22) C E (some_1 h) (some_2 h) dX11_is_22
  · refine k_aload_n (pc := 8) C dX11_is_8 0 rfl ?_
    refine k_iload_n (pc := 9) C dX11_is_9 1 rfl ?_
    obtain ⟨z3, e3, h⟩ := bnd h
    refine k_callvI (pc := 10) C lk_X11_162 (by decide) ix_X11 wo_X11 rfl rfl (kc_X11_kindsOf e3) dX11_is_10 rfl rfl (Nat.le_of_ble_eq_true rfl) ?_
    refine k_goto (pc := 13) C 22 dX11_is_13 (by decide) ?_
    exact k_iret (pc := 22) C E (some_1 h) (some_2 h) dX11_is_22
def m_X11_areAlike (x0 : Int32) (x1 : Int32) (x2 : Int32) (x3 : Int32) (x4 : Int32) : Option (Int32) := (m_X11_runsAs x0 x2 x3).bind (fun z1 => (m_X11_runsAs x1 x2 x3).bind (fun z2 => if z1 = z2 then ((m_X11_leftAs x0 x2 x4).bind (fun z3 => (m_X11_leftAs x1 x2 x4).bind (fun z4 => if z3 = z4 then (some (1 : Int32)) else (some (0 : Int32))))) else (some (0 : Int32))))
set_option maxHeartbeats 4000000 in
set_option maxRecDepth 100000 in
theorem kc_X11_areAlike {B : KB} {l : Launch} {T : TT} {x0 : Int32} {x1 : Int32} {x2 : Int32} {x3 : Int32} {x4 : Int32} {res : Int32} (h : m_X11_areAlike x0 x1 x2 x3 x4 = some res) : Kt B l 3 yX11_areAlike cX11_areAlike 5 (some .boolean) T [.int x0, .int x1, .int x2, .int x3, .int x4] (some (.int res)) T := by
  refine Kt.of (by decide) (Nat.le_of_ble_eq_true rfl) (fun X hX C E => ?_)
  subst hX
  have C : Cx B X "GriefEngineModel" cX11_areAlike 5 3 := C
  show Wk B X 5 T 0 [(0, .int x0), (1, .int x1), (2, .int x2), (3, .int x3), (4, .int x4)] []
  unfold m_X11_areAlike at h
  refine k_iload_n (pc := 0) C dX11_areAlike_0 0 rfl ?_
  refine k_iload_n (pc := 1) C dX11_areAlike_1 2 rfl ?_
  refine k_iload_n (pc := 2) C dX11_areAlike_2 3 rfl ?_
  obtain ⟨z1, e1, h⟩ := bnd h
  refine k_callsI (pc := 3) C lk_X11_94 (by decide) (kc_X11_runsAs e1) dX11_areAlike_3 rfl rfl (Nat.le_of_ble_eq_true rfl) ?_
  refine k_iload_n (pc := 6) C dX11_areAlike_6 1 rfl ?_
  refine k_iload_n (pc := 7) C dX11_areAlike_7 2 rfl ?_
  refine k_iload_n (pc := 8) C dX11_areAlike_8 3 rfl ?_
  obtain ⟨z2, e2, h⟩ := bnd h
  refine k_callsI (pc := 9) C lk_X11_94 (by decide) (kc_X11_runsAs e2) dX11_areAlike_9 rfl rfl (Nat.le_of_ble_eq_true rfl) ?_
  refine k_icmp_ne (pc := 12) C 36 dX11_areAlike_12 (by decide) h (fun c6 h => ?_) (fun c6 h => ?_)
  · refine k_iconst (pc := 36) (v := (0 : Int32)) C dX11_areAlike_36 ciconst_0 ?_
    exact k_zret (pc := 37) C E rfl (some_i h) rfl dX11_areAlike_37
  · refine k_iload_n (pc := 15) C dX11_areAlike_15 0 rfl ?_
    refine k_iload_n (pc := 16) C dX11_areAlike_16 2 rfl ?_
    refine k_iload (pc := 17) C dX11_areAlike_17 4 rfl ?_
    obtain ⟨z3, e3, h⟩ := bnd h
    refine k_callsI (pc := 19) C lk_X11_98 (by decide) (kc_X11_leftAs e3) dX11_areAlike_19 rfl rfl (Nat.le_of_ble_eq_true rfl) ?_
    refine k_iload_n (pc := 22) C dX11_areAlike_22 1 rfl ?_
    refine k_iload_n (pc := 23) C dX11_areAlike_23 2 rfl ?_
    refine k_iload (pc := 24) C dX11_areAlike_24 4 rfl ?_
    obtain ⟨z4, e4, h⟩ := bnd h
    refine k_callsI (pc := 26) C lk_X11_98 (by decide) (kc_X11_leftAs e4) dX11_areAlike_26 rfl rfl (Nat.le_of_ble_eq_true rfl) ?_
    refine k_icmp_ne (pc := 29) C 36 dX11_areAlike_29 (by decide) h (fun c5 h => ?_) (fun c5 h => ?_)
    · refine k_iconst (pc := 36) (v := (0 : Int32)) C dX11_areAlike_36 ciconst_0 ?_
      exact k_zret (pc := 37) C E rfl (some_i h) rfl dX11_areAlike_37
    · refine k_iconst (pc := 32) (v := (1 : Int32)) C dX11_areAlike_32 ciconst_1 ?_
      refine k_goto (pc := 33) C 37 dX11_areAlike_33 (by decide) ?_
      exact k_zret (pc := 37) C E rfl (some_i h) rfl dX11_areAlike_37
