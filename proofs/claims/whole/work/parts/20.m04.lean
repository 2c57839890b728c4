def m_X9_valueOfRun_h7 (T : TT) (rec7 : Int32 → Int32 → Option (Int32)) (x1 : Int32) (x2 : Int32) : Option (Int32) := if (T.2.1 5 8) ≤ x2 then (some x1) else (if ((T.2.1 5 2) + (2 : Int32)) ≤ x2 then (some x1) else (if inb x2 150 then (bT ((((10 : Int32) * x1) + (T.1 5 1 (Int32.toNatClampNeg x2))) - (48 : Int32)) (fun y2 => bT (x2 + (1 : Int32)) (fun y3 => rec7 y2 y3))) else none))
def m_X9_valueOfRun_l7 (T : TT) : Nat → Int32 → Int32 → Option (Int32)
  | 0 => fun _ _ => none
  | n + 1 => fun x1 x2 => m_X9_valueOfRun_h7 T (m_X9_valueOfRun_l7 T n) x1 x2
def m_X9_valueOfRun (T : TT) : Option (Int32) := bT (T.2.1 5 2) (fun y1 => m_X9_valueOfRun_l7 T FU (0 : Int32) y1)
set_option maxHeartbeats 4000000 in
set_option maxRecDepth 100000 in
theorem k_X9_valueOfRun_h7 {B : KB} {X : KE} {T : TT} {rec7 : Int32 → Int32 → Option (Int32)} {res : Int32} (C : Cx B X "GriefEngine$Text" cX9_valueOfRun 3 1) (E : Cr B X (some .int) (some (.int res)) T) (hrec7 : ∀ (x1 : Int32) (x2 : Int32), rec7 x1 x2 = some res → Wk B X 3 T 7 [(0, .ref (B.1 5 0)), (1, .int x1), (2, .int x2)] []) (x1 : Int32) (x2 : Int32) (h : m_X9_valueOfRun_h7 T rec7 x1 x2 = some res) : Wk B X 3 T 7 [(0, .ref (B.1 5 0)), (1, .int x1), (2, .int x2)] [] := by
  unfold m_X9_valueOfRun_h7 at h
  refine k_iload_n (pc := 7) C dX9_valueOfRun_7 2 rfl ?_
  refine k_aload_n (pc := 8) C dX9_valueOfRun_8 0 rfl ?_
  refine gf_X9_19 (pc := 9) C dX9_valueOfRun_9 ?_
  refine k_icmp_ge (pc := 12) C 46 dX9_valueOfRun_12 (by decide) h (fun c5 h => ?_) (fun c5 h => ?_)
  · refine k_iload_n (pc := 46) C dX9_valueOfRun_46 1 rfl ?_
    exact k_iret (pc := 47) C E (some_i h) rfl dX9_valueOfRun_47
  · refine k_iload_n (pc := 15) C dX9_valueOfRun_15 2 rfl ?_
    refine k_aload_n (pc := 16) C dX9_valueOfRun_16 0 rfl ?_
    refine gf_X9_66 (pc := 17) C dX9_valueOfRun_17 ?_
    refine k_iconst (pc := 20) (v := (2 : Int32)) C dX9_valueOfRun_20 ciconst_2 ?_
    refine k_iadd (pc := 21) C dX9_valueOfRun_21 ?_
    refine k_icmp_ge (pc := 22) C 46 dX9_valueOfRun_22 (by decide) h (fun c4 h => ?_) (fun c4 h => ?_)
    · refine k_iload_n (pc := 46) C dX9_valueOfRun_46 1 rfl ?_
      exact k_iret (pc := 47) C E (some_i h) rfl dX9_valueOfRun_47
    · refine k_bipush (pc := 25) (v := (10 : Int32)) C dX9_valueOfRun_25 cbipush_10 ?_
      refine k_iload_n (pc := 27) C dX9_valueOfRun_27 1 rfl ?_
      refine k_imul (pc := 28) C dX9_valueOfRun_28 ?_
      refine k_aload_n (pc := 29) C dX9_valueOfRun_29 0 rfl ?_
      refine gf_X9_9 (pc := 30) C dX9_valueOfRun_30 ?_
      refine k_iload_n (pc := 33) C dX9_valueOfRun_33 2 rfl ?_
      refine k_bald (pc := 34) C ia_5_1 dX9_valueOfRun_34 h (fun h => ?_)
      refine k_iadd (pc := 35) C dX9_valueOfRun_35 ?_
      refine k_bipush (pc := 36) (v := (48 : Int32)) C dX9_valueOfRun_36 cbipush_48 ?_
      refine k_isub (pc := 38) C dX9_valueOfRun_38 ?_
      refine k_nI h (fun y2 h => ?_)
      refine k_istore_n (pc := 39) C [(1, .int y2), (0, .ref (B.1 5 0)), (2, .int x2)] dX9_valueOfRun_39 (by decide) rfl ?_
      refine k_iincN (pc := 40) (x := x2) (c := (1 : Int32)) C (fun y3 => [(2, .int y3), (1, .int y2), (0, .ref (B.1 5 0))]) dX9_valueOfRun_40 2 rfl ciconst_1 (by decide) (fun _ => rfl) h (fun y3 h => ?_)
      refine k_goto (pc := 43) C 7 dX9_valueOfRun_43 (by decide) ?_
      refine k_sub [2, 1, 0] rfl ?_
      exact hrec7 y2 y3 h
set_option maxHeartbeats 4000000 in
set_option maxRecDepth 100000 in
theorem k_X9_valueOfRun_l7 {B : KB} {X : KE} {T : TT} {res : Int32} (C : Cx B X "GriefEngine$Text" cX9_valueOfRun 3 1) (E : Cr B X (some .int) (some (.int res)) T) : ∀ (n : Nat) (x1 : Int32) (x2 : Int32) (h : m_X9_valueOfRun_l7 T n x1 x2 = some res), Wk B X 3 T 7 [(0, .ref (B.1 5 0)), (1, .int x1), (2, .int x2)] [] := by
  intro n
  induction n with
  | zero =>
    intro x1 x2 h
    exact no_some h
  | succ n ih =>
    intro x1 x2 h
    exact k_X9_valueOfRun_h7 C E (fun x1 x2 h => ih x1 x2 h) x1 x2 h
set_option maxHeartbeats 4000000 in
set_option maxRecDepth 100000 in
theorem kc_X9_valueOfRun {B : KB} {l : Launch} {T : TT} {res : Int32} (h : m_X9_valueOfRun T = some res) : Kt B l 1 yX9_valueOfRun cX9_valueOfRun 3 (some .int) T [.ref (B.1 5 0)] (some (.int res)) T := by
  refine Kt.of (by decide) (Nat.le_of_ble_eq_true rfl) (fun X hX C E => ?_)
  subst hX
  have C : Cx B X "GriefEngine$Text" cX9_valueOfRun 3 1 := C
  show Wk B X 3 T 0 [(0, .ref (B.1 5 0))] []
  unfold m_X9_valueOfRun at h
  refine k_iconst (pc := 0) (v := (0 : Int32)) C dX9_valueOfRun_0 ciconst_0 ?_
  refine k_istore_n (pc := 1) C [(1, .int (0 : Int32)), (0, .ref (B.1 5 0))] dX9_valueOfRun_1 (by decide) rfl ?_
  refine k_aload_n (pc := 2) C dX9_valueOfRun_2 1 rfl ?_
  refine gf_X9_66 (pc := 3) C dX9_valueOfRun_3 ?_
  refine k_nI h (fun y1 h => ?_)
  refine k_istore_n (pc := 6) C [(2, .int y1), (1, .int (0 : Int32)), (0, .ref (B.1 5 0))] dX9_valueOfRun_6 (by decide) rfl ?_
  refine k_sub [2, 1, 0] rfl ?_
  exact k_X9_valueOfRun_l7 C E FU (0 : Int32) y1 h
def m_X9_advance_b166 (T : TT) (s1 : Int32) : Option (TT) := bT (sI T 5 7 s1) (fun T20 => bT (sI T20 5 8 ((T20.2.1 5 2) + (1 : Int32))) (fun T21 => some T21))
def m_X9_advance_b132 (T : TT) (s1 : Int32) : Option (TT) := bT (sI T 5 7 s1) (fun T17 => (m_X9_valueOfRun T17).bind (fun z18 => bT (sI T17 5 9 z18) (fun T19 => some T19)))
def m_X9_advance (T : TT) : Option (TT) := (m_X9_runEnd T (T.2.1 5 8) (32 : Int32) (32 : Int32)).bind (fun z1 => bT (sI T 5 2 z1) (fun T2 => bT (sI T2 5 8 (T2.2.1 5 2)) (fun T3 => if (T3.2.1 5 2) < (T3.2.1 5 1) then ((m_X9_isBetween T3 (T3.2.1 5 2) (97 : Int32) (122 : Int32)).bind (fun z4 => if z4 = 0 then ((m_X9_isBetween T3 (T3.2.1 5 2) (48 : Int32) (57 : Int32)).bind (fun z5 => if z5 = 0 then (if inb (T3.2.1 5 2) 150 then (if (T3.1 5 1 (Int32.toNatClampNeg (T3.2.1 5 2))) = (59 : Int32) then (m_X9_advance_b166 T3 (3 : Int32)) else (m_X9_advance_b166 T3 (4 : Int32))) else none) else ((m_X9_runEnd T3 (T3.2.1 5 2) (48 : Int32) (57 : Int32)).bind (fun z7 => bT (sI T3 5 8 z7) (fun T8 => if (2 : Int32) < ((T8.2.1 5 8) - (T8.2.1 5 2)) then (m_X9_advance_b132 T8 (4 : Int32)) else (m_X9_advance_b132 T8 (2 : Int32))))))) else (bT (sI T3 5 7 (1 : Int32)) (fun T11 => (m_X9_runEnd T11 (T11.2.1 5 2) (97 : Int32) (122 : Int32)).bind (fun z12 => bT (sI T11 5 8 z12) (fun T13 => some T13)))))) else (bT (sI T3 5 7 (0 : Int32)) (fun T15 => some T15)))))
set_option maxHeartbeats 4000000 in
set_option maxRecDepth 100000 in
theorem k_X9_advance_b166 {B : KB} {X : KE} {res : TT} (C : Cx B X "GriefEngine$Text" cX9_advance 1 3) (E : Cr B X none none res) (T : TT) (s1 : Int32) (h : m_X9_advance_b166 T s1 = some res) : Wk B X 1 T 166 [(0, .ref (B.1 5 0))] [.int s1, .ref (B.1 5 0)] := by
  unfold m_X9_advance_b166 at h
  refine pf_X9_39 (pc := 166) C dX9_advance_166 ?_
  refine k_nT h (fun T20 h => ?_)
  refine k_aload_n (pc := 169) C dX9_advance_169 0 rfl ?_
  refine k_aload_n (pc := 170) C dX9_advance_170 0 rfl ?_
  refine gf_X9_66 (pc := 171) C dX9_advance_171 ?_
  refine k_iconst (pc := 174) (v := (1 : Int32)) C dX9_advance_174 ciconst_1 ?_
  refine k_iadd (pc := 175) C dX9_advance_175 ?_
  refine pf_X9_19 (pc := 176) C dX9_advance_176 ?_
  refine k_nT h (fun T21 h => ?_)
  exact k_vret (pc := 179) C E (some_i h) dX9_advance_179
set_option maxHeartbeats 4000000 in
set_option maxRecDepth 100000 in
theorem k_X9_advance_b132 {B : KB} {X : KE} {res : TT} (C : Cx B X "GriefEngine$Text" cX9_advance 1 3) (E : Cr B X none none res) (T : TT) (s1 : Int32) (h : m_X9_advance_b132 T s1 = some res) : Wk B X 1 T 132 [(0, .ref (B.1 5 0))] [.int s1, .ref (B.1 5 0)] := by
  unfold m_X9_advance_b132 at h
  refine pf_X9_39 (pc := 132) C dX9_advance_132 ?_
  refine k_nT h (fun T17 h => ?_)
  refine k_aload_n (pc := 135) C dX9_advance_135 0 rfl ?_
  refine k_aload_n (pc := 136) C dX9_advance_136 0 rfl ?_
  obtain ⟨z18, e18, h⟩ := bnd h
  refine k_callvI (pc := 137) C lk_X9_73 (by decide) ix_X9 wo_X9 rfl rfl (kc_X9_valueOfRun e18) dX9_advance_137 rfl rfl (Nat.le_of_ble_eq_true rfl) ?_
  refine pf_X9_53 (pc := 140) C dX9_advance_140 ?_
  refine k_nT h (fun T19 h => ?_)
  refine k_goto (pc := 143) C 179 dX9_advance_143 (by decide) ?_
  exact k_vret (pc := 179) C E (some_i h) dX9_advance_179
set_option maxHeartbeats 4000000 in
set_option maxRecDepth 100000 in
theorem kc_X9_advance {B : KB} {l : Launch} {T : TT} {res : TT} (h : m_X9_advance T = some res) : Kt B l 3 yX9_advance cX9_advance 1 none T [.ref (B.1 5 0)] none res := by
  refine Kt.of (by decide) (Nat.le_of_ble_eq_true rfl) (fun X hX C E => ?_)
  subst hX
  have C : Cx B X "GriefEngine$Text" cX9_advance 1 3 := C
  show Wk B X 1 T 0 [(0, .ref (B.1 5 0))] []
  unfold m_X9_advance at h
  refine k_aload_n (pc := 0) C dX9_advance_0 0 rfl ?_
  refine k_aload_n (pc := 1) C dX9_advance_1 0 rfl ?_
  refine k_aload_n (pc := 2) C dX9_advance_2 0 rfl ?_
  refine gf_X9_19 (pc := 3) C dX9_advance_3 ?_
  refine k_bipush (pc := 6) (v := (32 : Int32)) C dX9_advance_6 cbipush_32 ?_
  refine k_bipush (pc := 8) (v := (32 : Int32)) C dX9_advance_8 cbipush_32 ?_
  obtain ⟨z1, e1, h⟩ := bnd h
  refine k_callvI (pc := 10) C lk_X9_62 (by decide) ix_X9 wo_X9 rfl rfl (kc_X9_runEnd e1) dX9_advance_10 rfl rfl (Nat.le_of_ble_eq_true rfl) ?_
  refine pf_X9_66 (pc := 13) C dX9_advance_13 ?_
  refine k_nT h (fun T2 h => ?_)
  refine k_aload_n (pc := 16) C dX9_advance_16 0 rfl ?_
  refine k_aload_n (pc := 17) C dX9_advance_17 0 rfl ?_
  refine gf_X9_66 (pc := 18) C dX9_advance_18 ?_
  refine pf_X9_19 (pc := 21) C dX9_advance_21 ?_
  refine k_nT h (fun T3 h => ?_)
  refine k_aload_n (pc := 24) C dX9_advance_24 0 rfl ?_
  refine gf_X9_66 (pc := 25) C dX9_advance_25 ?_
  refine k_aload_n (pc := 28) C dX9_advance_28 0 rfl ?_
  refine gf_X9_15 (pc := 29) C dX9_advance_29 ?_
  refine k_icmp_lt (pc := 32) C 43 dX9_advance_32 (by decide) h (fun c16 h => ?_) (fun c16 h => ?_)
  · refine k_aload_n (pc := 43) C dX9_advance_43 0 rfl ?_
    refine k_aload_n (pc := 44) C dX9_advance_44 0 rfl ?_
    refine gf_X9_66 (pc := 45) C dX9_advance_45 ?_
    refine k_bipush (pc := 48) (v := (97 : Int32)) C dX9_advance_48 cbipush_97 ?_
    refine k_bipush (pc := 50) (v := (122 : Int32)) C dX9_advance_50 cbipush_122 ?_
    obtain ⟨z4, e4, h⟩ := bnd h
    refine k_callvI (pc := 52) C lk_X9_69 (by decide) ix_X9 wo_X9 rfl rfl (kc_X9_isBetween e4) dX9_advance_52 rfl rfl (Nat.le_of_ble_eq_true rfl) ?_
    refine k_if_eq (pc := 55) C 82 dX9_advance_55 (by decide) h (fun c14 h => ?_) (fun c14 h => ?_)
    · refine k_aload_n (pc := 82) C dX9_advance_82 0 rfl ?_
      refine k_aload_n (pc := 83) C dX9_advance_83 0 rfl ?_
      refine gf_X9_66 (pc := 84) C dX9_advance_84 ?_
      refine k_bipush (pc := 87) (v := (48 : Int32)) C dX9_advance_87 cbipush_48 ?_
      refine k_bipush (pc := 89) (v := (57 : Int32)) C dX9_advance_89 cbipush_57 ?_
      obtain ⟨z5, e5, h⟩ := bnd h
      refine k_callvI (pc := 91) C lk_X9_69 (by decide) ix_X9 wo_X9 rfl rfl (kc_X9_isBetween e5) dX9_advance_91 rfl rfl (Nat.le_of_ble_eq_true rfl) ?_
      refine k_if_eq (pc := 94) C 146 dX9_advance_94 (by decide) h (fun c10 h => ?_) (fun c10 h => ?_)
      · refine k_aload_n (pc := 146) C dX9_advance_146 0 rfl ?_
        refine k_aload_n (pc := 147) C dX9_advance_147 0 rfl ?_
        refine gf_X9_9 (pc := 148) C dX9_advance_148 ?_
        refine k_aload_n (pc := 151) C dX9_advance_151 0 rfl ?_
        refine gf_X9_66 (pc := 152) C dX9_advance_152 ?_
        refine k_bald (pc := 155) C ia_5_1 dX9_advance_155 h (fun h => ?_)
        refine k_bipush (pc := 156) (v := (59 : Int32)) C dX9_advance_156 cbipush_59 ?_
        refine k_icmp_ne (pc := 158) C 165 dX9_advance_158 (by decide) h (fun c6 h => ?_) (fun c6 h => ?_)
        · refine k_iconst (pc := 165) (v := (4 : Int32)) C dX9_advance_165 ciconst_4 ?_
          refine k_sub [0] rfl ?_
          exact k_X9_advance_b166 C E T3 (4 : Int32) h
        · refine k_iconst (pc := 161) (v := (3 : Int32)) C dX9_advance_161 ciconst_3 ?_
          refine k_goto (pc := 162) C 166 dX9_advance_162 (by decide) ?_
          refine k_sub [0] rfl ?_
          exact k_X9_advance_b166 C E T3 (3 : Int32) h
      · refine k_aload_n (pc := 97) C dX9_advance_97 0 rfl ?_
        refine k_aload_n (pc := 98) C dX9_advance_98 0 rfl ?_
        refine k_aload_n (pc := 99) C dX9_advance_99 0 rfl ?_
        refine gf_X9_66 (pc := 100) C dX9_advance_100 ?_
        refine k_bipush (pc := 103) (v := (48 : Int32)) C dX9_advance_103 cbipush_48 ?_
        refine k_bipush (pc := 105) (v := (57 : Int32)) C dX9_advance_105 cbipush_57 ?_
        obtain ⟨z7, e7, h⟩ := bnd h
        refine k_callvI (pc := 107) C lk_X9_62 (by decide) ix_X9 wo_X9 rfl rfl (kc_X9_runEnd e7) dX9_advance_107 rfl rfl (Nat.le_of_ble_eq_true rfl) ?_
        refine pf_X9_19 (pc := 110) C dX9_advance_110 ?_
        refine k_nT h (fun T8 h => ?_)
        refine k_aload_n (pc := 113) C dX9_advance_113 0 rfl ?_
        refine k_aload_n (pc := 114) C dX9_advance_114 0 rfl ?_
        refine gf_X9_19 (pc := 115) C dX9_advance_115 ?_
        refine k_aload_n (pc := 118) C dX9_advance_118 0 rfl ?_
        refine gf_X9_66 (pc := 119) C dX9_advance_119 ?_
        refine k_isub (pc := 122) C dX9_advance_122 ?_
        refine k_iconst (pc := 123) (v := (2 : Int32)) C dX9_advance_123 ciconst_2 ?_
        refine k_icmp_gt (pc := 124) C 131 dX9_advance_124 (by decide) h (fun c9 h => ?_) (fun c9 h => ?_)
        · refine k_iconst (pc := 131) (v := (4 : Int32)) C dX9_advance_131 ciconst_4 ?_
          refine k_sub [0] rfl ?_
          exact k_X9_advance_b132 C E T8 (4 : Int32) h
        · refine k_iconst (pc := 127) (v := (2 : Int32)) C dX9_advance_127 ciconst_2 ?_
          refine k_goto (pc := 128) C 132 dX9_advance_128 (by decide) ?_
          refine k_sub [0] rfl ?_
          exact k_X9_advance_b132 C E T8 (2 : Int32) h
    · refine k_aload_n (pc := 58) C dX9_advance_58 0 rfl ?_
      refine k_iconst (pc := 59) (v := (1 : Int32)) C dX9_advance_59 ciconst_1 ?_
      refine pf_X9_39 (pc := 60) C dX9_advance_60 ?_
      refine k_nT h (fun T11 h => ?_)
      refine k_aload_n (pc := 63) C dX9_advance_63 0 rfl ?_
      refine k_aload_n (pc := 64) C dX9_advance_64 0 rfl ?_
      refine k_aload_n (pc := 65) C dX9_advance_65 0 rfl ?_
      refine gf_X9_66 (pc := 66) C dX9_advance_66 ?_
      refine k_bipush (pc := 69) (v := (97 : Int32)) C dX9_advance_69 cbipush_97 ?_
      refine k_bipush (pc := 71) (v := (122 : Int32)) C dX9_advance_71 cbipush_122 ?_
      obtain ⟨z12, e12, h⟩ := bnd h
      refine k_callvI (pc := 73) C lk_X9_62 (by decide) ix_X9 wo_X9 rfl rfl (kc_X9_runEnd e12) dX9_advance_73 rfl rfl (Nat.le_of_ble_eq_true rfl) ?_
      refine pf_X9_19 (pc := 76) C dX9_advance_76 ?_
      refine k_nT h (fun T13 h => ?_)
      refine k_goto (pc := 79) C 179 dX9_advance_79 (by decide) ?_
      exact k_vret (pc := 179) C E (some_i h) dX9_advance_179
  · refine k_aload_n (pc := 35) C dX9_advance_35 0 rfl ?_
    refine k_iconst (pc := 36) (v := (0 : Int32)) C dX9_advance_36 ciconst_0 ?_
    refine pf_X9_39 (pc := 37) C dX9_advance_37 ?_
    refine k_nT h (fun T15 h => ?_)
    refine k_goto (pc := 40) C 179 dX9_advance_40 (by decide) ?_
    exact k_vret (pc := 179) C E (some_i h) dX9_advance_179
def m_X9_takesStop (T : TT) : Option (Int32 × TT) := (m_X9_advance T).bind (fun z1 => if (z1.2.1 5 7) = (3 : Int32) then (some ((1 : Int32), z1)) else (some ((0 : Int32), z1)))
set_option maxHeartbeats 4000000 in
set_option maxRecDepth 100000 in
theorem kc_X9_takesStop {B : KB} {l : Launch} {T : TT} {res : Int32 × TT} (h : m_X9_takesStop T = some res) : Kt B l 4 yX9_takesStop cX9_takesStop 1 (some .boolean) T [.ref (B.1 5 0)] (some (.int res.1)) res.2 := by
  refine Kt.of (by decide) (Nat.le_of_ble_eq_true rfl) (fun X hX C E => ?_)
  subst hX
  have C : Cx B X "GriefEngine$Text" cX9_takesStop 1 4 := C
  show Wk B X 1 T 0 [(0, .ref (B.1 5 0))] []
  unfold m_X9_takesStop at h
  refine k_aload_n (pc := 0) C dX9_takesStop_0 0 rfl ?_
  obtain ⟨z1, e1, h⟩ := bnd h
  refine k_callvV (pc := 1) C lk_X9_26 (by decide) ix_X9 wo_X9 rfl rfl (kc_X9_advance e1) dX9_takesStop_1 rfl rfl (Nat.le_of_ble_eq_true rfl) ?_
  refine k_aload_n (pc := 4) C dX9_takesStop_4 0 rfl ?_
  refine gf_X9_39 (pc := 5) C dX9_takesStop_5 ?_
  refine k_iconst (pc := 8) (v := (3 : Int32)) C dX9_takesStop_8 ciconst_3 ?_
  refine k_icmp_ne (pc := 9) C 16 dX9_takesStop_9 (by decide) h (fun c2 h => ?_) (fun c2 h => ?_)
  · refine k_iconst (pc := 16) (v := (0 : Int32)) C dX9_takesStop_16 ciconst_0 ?_
    exact k_zret (pc := 17) C E rfl (some_1 h) (some_2 h) dX9_takesStop_17
  · refine k_iconst (pc := 12) (v := (1 : Int32)) C dX9_takesStop_12 ciconst_1 ?_
    refine k_goto (pc := 13) C 17 dX9_takesStop_13 (by decide) ?_
    exact k_zret (pc := 17) C E rfl (some_1 h) (some_2 h) dX9_takesStop_17
def m_X9_takesNumber (T : TT) (x1 : Int32) (x2 : Int32) : Option (Int32 × TT) := (m_X9_advance T).bind (fun z1 => if (z1.2.1 5 7) = (2 : Int32) then (if (z1.2.1 5 9) < x1 then (some ((0 : Int32), z1)) else (if x2 < (z1.2.1 5 9) then (some ((0 : Int32), z1)) else (some ((1 : Int32), z1)))) else (some ((0 : Int32), z1)))
set_option maxHeartbeats 4000000 in
set_option maxRecDepth 100000 in
theorem kc_X9_takesNumber {B : KB} {l : Launch} {T : TT} {x1 : Int32} {x2 : Int32} {res : Int32 × TT} (h : m_X9_takesNumber T x1 x2 = some res) : Kt B l 4 yX9_takesNumber cX9_takesNumber 3 (some .boolean) T [.ref (B.1 5 0), .int x1, .int x2] (some (.int res.1)) res.2 := by
  refine Kt.of (by decide) (Nat.le_of_ble_eq_true rfl) (fun X hX C E => ?_)
  subst hX
  have C : Cx B X "GriefEngine$Text" cX9_takesNumber 3 4 := C
  show Wk B X 3 T 0 [(0, .ref (B.1 5 0)), (1, .int x1), (2, .int x2)] []
  unfold m_X9_takesNumber at h
  refine k_aload_n (pc := 0) C dX9_takesNumber_0 0 rfl ?_
  obtain ⟨z1, e1, h⟩ := bnd h
  refine k_callvV (pc := 1) C lk_X9_26 (by decide) ix_X9 wo_X9 rfl rfl (kc_X9_advance e1) dX9_takesNumber_1 rfl rfl (Nat.le_of_ble_eq_true rfl) ?_
  refine k_aload_n (pc := 4) C dX9_takesNumber_4 0 rfl ?_
  refine gf_X9_39 (pc := 5) C dX9_takesNumber_5 ?_
  refine k_iconst (pc := 8) (v := (2 : Int32)) C dX9_takesNumber_8 ciconst_2 ?_
  refine k_icmp_ne (pc := 9) C 32 dX9_takesNumber_9 (by decide) h (fun c4 h => ?_) (fun c4 h => ?_)
  · refine k_iconst (pc := 32) (v := (0 : Int32)) C dX9_takesNumber_32 ciconst_0 ?_
    exact k_zret (pc := 33) C E rfl (some_1 h) (some_2 h) dX9_takesNumber_33
  · refine k_aload_n (pc := 12) C dX9_takesNumber_12 0 rfl ?_
    refine gf_X9_53 (pc := 13) C dX9_takesNumber_13 ?_
    refine k_iload_n (pc := 16) C dX9_takesNumber_16 1 rfl ?_
    refine k_icmp_lt (pc := 17) C 32 dX9_takesNumber_17 (by decide) h (fun c3 h => ?_) (fun c3 h => ?_)
    · refine k_iconst (pc := 32) (v := (0 : Int32)) C dX9_takesNumber_32 ciconst_0 ?_
      exact k_zret (pc := 33) C E rfl (some_1 h) (some_2 h) dX9_takesNumber_33
    · refine k_aload_n (pc := 20) C dX9_takesNumber_20 0 rfl ?_
      refine gf_X9_53 (pc := 21) C dX9_takesNumber_21 ?_
      refine k_iload_n (pc := 24) C dX9_takesNumber_24 2 rfl ?_
      refine k_icmp_gt (pc := 25) C 32 dX9_takesNumber_25 (by decide) h (fun c2 h => ?_) (fun c2 h => ?_)
      · refine k_iconst (pc := 32) (v := (0 : Int32)) C dX9_takesNumber_32 ciconst_0 ?_
        exact k_zret (pc := 33) C E rfl (some_1 h) (some_2 h) dX9_takesNumber_33
      · refine k_iconst (pc := 28) (v := (1 : Int32)) C dX9_takesNumber_28 ciconst_1 ?_
        refine k_goto (pc := 29) C 33 dX9_takesNumber_29 (by decide) ?_
        exact k_zret (pc := 33) C E rfl (some_1 h) (some_2 h) dX9_takesNumber_33
def m_X10_rank (T : TT) : Option (Int32 × TT) := bT (T.2.1 0 7) (fun y1 => (m_X4_reset T 0).bind (fun z2 => some (y1, z2)))
set_option maxHeartbeats 4000000 in
set_option maxRecDepth 100000 in
theorem kc_X10_rank {B : KB} {l : Launch} {T : TT} {res : Int32 × TT} (h : m_X10_rank T = some res) : Kt B l 2 yX10_rank cX10_rank 2 (some .int) T [.ref (B.1 4 0)] (some (.int res.1)) res.2 := by
  refine Kt.of (by decide) (Nat.le_of_ble_eq_true rfl) (fun X hX C E => ?_)
  subst hX
  have C : Cx B X "GriefEngine" cX10_rank 2 2 := C
  show Wk B X 2 T 0 [(0, .ref (B.1 4 0))] []
  unfold m_X10_rank at h
  refine k_aload_n (pc := 0) C dX10_rank_0 0 rfl ?_
  refine gf_X10_12 (pc := 1) C dX10_rank_1 ?_
  refine gf_X10_62 (pc := 4) C lt4_0 dX10_rank_4 ?_
  refine k_nI h (fun y1 h => ?_)
  refine k_istore_n (pc := 7) C [(1, .int y1), (0, .ref (B.1 4 0))] dX10_rank_7 (by decide) rfl ?_
  refine k_aload_n (pc := 8) C dX10_rank_8 1 rfl ?_
  refine gf_X10_12 (pc := 9) C dX10_rank_9 ?_
  obtain ⟨z2, e2, h⟩ := bnd h
  refine k_callvV (pc := 12) C lk_X10_66 (by decide) (ix_X4 lt4_0) (wo_X4 lt4_0) rfl rfl (kc_X4_reset lt4_0 e2) dX10_rank_12 rfl rfl (Nat.le_of_ble_eq_true rfl) ?_
  refine k_iload_n (pc := 15) C dX10_rank_15 0 rfl ?_
  exact k_iret (pc := 16) C E (some_1 h) (some_2 h) dX10_rank_16
def m_X10_within (x0 : Int32) (x1 : Int32) (x2 : Int32) : Option (Int32) := if x0 < x1 then (some (0 : Int32)) else (if x2 < x0 then (some (0 : Int32)) else (some (1 : Int32)))
set_option maxHeartbeats 4000000 in
set_option maxRecDepth 100000 in
theorem kc_X10_within {B : KB} {l : Launch} {T : TT} {x0 : Int32} {x1 : Int32} {x2 : Int32} {res : Int32} (h : m_X10_within x0 x1 x2 = some res) : Kt B l 1 yX10_within cX10_within 3 (some .boolean) T [.int x0, .int x1, .int x2] (some (.int res)) T := by
  refine Kt.of (by decide) (Nat.le_of_ble_eq_true rfl) (fun X hX C E => ?_)
  subst hX
  have C : Cx B X "GriefEngine" cX10_within 3 1 := C
  show Wk B X 3 T 0 [(0, .int x0), (1, .int x1), (2, .int x2)] []
  unfold m_X10_within at h
  refine k_iload_n (pc := 0) C dX10_within_0 0 rfl ?_
  refine k_iload_n (pc := 1) C dX10_within_1 1 rfl ?_
  refine k_icmp_lt (pc := 2) C 14 dX10_within_2 (by decide) h (fun c2 h => ?_) (fun c2 h => ?_)
  · refine k_iconst (pc := 14) (v := (0 : Int32)) C dX10_within_14 ciconst_0 ?_
    exact k_zret (pc := 15) C E rfl (some_i h) rfl dX10_within_15
  · refine k_iload_n (pc := 5) C dX10_within_5 0 rfl ?_
    refine k_iload_n (pc := 6) C dX10_within_6 2 rfl ?_
    refine k_icmp_gt (pc := 7) C 14 dX10_within_7 (by decide) h (fun c1 h => ?_) (fun c1 h => ?_)
    · refine k_iconst (pc := 14) (v := (0 : Int32)) C dX10_within_14 ciconst_0 ?_
      exact k_zret (pc := 15) C E rfl (some_i h) rfl dX10_within_15
    · refine k_iconst (pc := 10) (v := (1 : Int32)) C dX10_within_10 ciconst_1 ?_
      refine k_goto (pc := 11) C 15 dX10_within_11 (by decide) ?_
      exact k_zret (pc := 15) C E rfl (some_i h) rfl dX10_within_15
def m_X10_refuse (T : TT) (x1 : Int32) : Option (Int32 × TT) := bT ((-2 : Int32) - x1) (fun y1 => if y1 < 0 then (some (x1, T)) else (if (3 : Int32) ≤ y1 then (some (x1, T)) else (if inb y1 3 then (if inb y1 3 then bT (sA T 4 4 (Int32.toNatClampNeg y1) ((T.1 4 4 (Int32.toNatClampNeg y1)) + (1 : Int32))) (fun T2 => some (x1, T2)) else none) else none)))
set_option maxHeartbeats 4000000 in
set_option maxRecDepth 100000 in
theorem kc_X10_refuse {B : KB} {l : Launch} {T : TT} {x1 : Int32} {res : Int32 × TT} (h : m_X10_refuse T x1 = some res) : Kt B l 1 yX10_refuse cX10_refuse 3 (some .int) T [.ref (B.1 4 0), .int x1] (some (.int res.1)) res.2 := by
  refine Kt.of (by decide) (Nat.le_of_ble_eq_true rfl) (fun X hX C E => ?_)
  subst hX
  have C : Cx B X "GriefEngine" cX10_refuse 3 1 := C
  show Wk B X 3 T 0 [(0, .ref (B.1 4 0)), (1, .int x1)] []
  unfold m_X10_refuse at h
  refine k_bipush (pc := 0) (v := (-2 : Int32)) C dX10_refuse_0 cbipush_m2 ?_
  refine k_iload_n (pc := 2) C dX10_refuse_2 1 rfl ?_
  refine k_isub (pc := 3) C dX10_refuse_3 ?_
  refine k_nI h (fun y1 h => ?_)
  refine k_istore_n (pc := 4) C [(2, .int y1), (0, .ref (B.1 4 0)), (1, .int x1)] dX10_refuse_4 (by decide) rfl ?_
  refine k_iload_n (pc := 5) C dX10_refuse_5 0 rfl ?_
  refine k_if_lt (pc := 6) C 28 dX10_refuse_6 (by decide) h (fun c4 h => ?_) (fun c4 h => ?_)
  · refine k_iload_n (pc := 28) C dX10_refuse_28 2 rfl ?_
    exact k_iret (pc := 29) C E (some_1 h) (some_2 h) dX10_refuse_29
  · refine k_iload_n (pc := 9) C dX10_refuse_9 0 rfl ?_
    refine k_aload_n (pc := 10) C dX10_refuse_10 1 rfl ?_
    refine gf_X10_52 (pc := 11) C dX10_refuse_11 ?_
    refine k_ilen (pc := 14) C ia_4_4 (3 : Int32) dX10_refuse_14 (by decide) ?_
    refine k_icmp_ge (pc := 15) C 28 dX10_refuse_15 (by decide) h (fun c3 h => ?_) (fun c3 h => ?_)
    · refine k_iload_n (pc := 28) C dX10_refuse_28 2 rfl ?_
      exact k_iret (pc := 29) C E (some_1 h) (some_2 h) dX10_refuse_29
    · refine k_aload_n (pc := 18) C dX10_refuse_18 1 rfl ?_
      refine gf_X10_52 (pc := 19) C dX10_refuse_19 ?_
      refine k_iload_n (pc := 22) C dX10_refuse_22 0 rfl ?_
      refine k_dup2 (pc := 23) C dX10_refuse_23 rfl rfl ?_
      refine k_iald (pc := 24) C ia_4_4 dX10_refuse_24 h (fun h => ?_)
      refine k_iconst (pc := 25) (v := (1 : Int32)) C dX10_refuse_25 ciconst_1 ?_
      refine k_iadd (pc := 26) C dX10_refuse_26 ?_
      refine k_iast (pc := 27) C ia_4_4 dX10_refuse_27 h (fun h => ?_)
      refine k_nT h (fun T2 h => ?_)
      refine k_iload_n (pc := 28) C dX10_refuse_28 2 rfl ?_
      exact k_iret (pc := 29) C E (some_1 h) (some_2 h) dX10_refuse_29
def m_X10_refuseIfFull (T : TT) (x1 : Int32) : Option (Int32 × TT) := if x1 = (-4 : Int32) then ((m_X10_refuse T (-4 : Int32)).bind (fun z1 => some (z1.1, z1.2))) else (some (x1, T))
set_option maxHeartbeats 4000000 in
set_option maxRecDepth 100000 in
theorem kc_X10_refuseIfFull {B : KB} {l : Launch} {T : TT} {x1 : Int32} {res : Int32 × TT} (h : m_X10_refuseIfFull T x1 = some res) : Kt B l 2 yX10_refuseIfFull cX10_refuseIfFull 2 (some .int) T [.ref (B.1 4 0), .int x1] (some (.int res.1)) res.2 := by
  refine Kt.of (by decide) (Nat.le_of_ble_eq_true rfl) (fun X hX C E => ?_)
  subst hX
  have C : Cx B X "GriefEngine" cX10_refuseIfFull 2 2 := C
  show Wk B X 2 T 0 [(0, .ref (B.1 4 0)), (1, .int x1)] []
  unfold m_X10_refuseIfFull at h
  refine k_iload_n (pc := 0) C dX10_refuseIfFull_0 1 rfl ?_
  refine k_bipush (pc := 1) (v := (-4 : Int32)) C dX10_refuseIfFull_1 cbipush_m4 ?_
  refine k_icmp_ne (pc := 3) C 15 dX10_refuseIfFull_3 (by decide) h (fun c2 h => ?_) (fun c2 h => ?_)
  · refine k_iload_n (pc := 15) C dX10_refuseIfFull_15 1 rfl ?_
    exact k_iret (pc := 16) C E (some_1 h) (some_2 h) dX10_refuseIfFull_16
  · refine k_aload_n (pc := 6) C dX10_refuseIfFull_6 0 rfl ?_
    refine k_bipush (pc := 7) (v := (-4 : Int32)) C dX10_refuseIfFull_7 cbipush_m4 ?_
    obtain ⟨z1, e1, h⟩ := bnd h
    refine k_callvI (pc := 9) C lk_X10_73 (by decide) ix_X10 wo_X10 rfl rfl (kc_X10_refuse e1) dX10_refuseIfFull_9 rfl rfl (Nat.le_of_ble_eq_true rfl) ?_
    refine k_goto (pc := 12) C 16 dX10_refuseIfFull_12 (by decide) ?_
    exact k_iret (pc := 16) C E (some_1 h) (some_2 h) dX10_refuseIfFull_16
def m_X10_driver_b19 (T : TT) : Option (Int32 × TT) := (m_X10_refuse T (-2 : Int32)).bind (fun z7 => some (z7.1, z7.2))
def m_X10_driver (T : TT) (x1 : Int32) (x2 : Int32) : Option (Int32 × TT) := (m_X10_within x1 (0 : Int32) (5 : Int32)).bind (fun z1 => if z1 = 0 then (m_X10_driver_b19 T) else ((m_X10_within x2 (0 : Int32) (99 : Int32)).bind (fun z2 => if z2 = 0 then (m_X10_driver_b19 T) else ((m_X4_addDriver T 0 x1 x2).bind (fun z3 => (m_X10_refuseIfFull z3.2 z3.1).bind (fun z4 => some (z4.1, z4.2)))))))
set_option maxHeartbeats 4000000 in
set_option maxRecDepth 100000 in
theorem k_X10_driver_b19 {B : KB} {X : KE} {res : Int32 × TT} (C : Cx B X "GriefEngine" cX10_driver 3 3) (E : Cr B X (some .int) (some (.int res.1)) res.2) (T : TT) (h : m_X10_driver_b19 T = some res) : Wk B X 3 T 19 [(0, .ref (B.1 4 0))] [] := by
  unfold m_X10_driver_b19 at h
  refine k_aload_n (pc := 19) C dX10_driver_19 0 rfl ?_
  refine k_bipush (pc := 20) (v := (-2 : Int32)) C dX10_driver_20 cbipush_m2 ?_
  obtain ⟨z7, e7, h⟩ := bnd h
  refine k_callvI (pc := 22) C lk_X10_73 (by decide) ix_X10 wo_X10 rfl rfl (kc_X10_refuse e7) dX10_driver_22 rfl rfl (Nat.le_of_ble_eq_true rfl) ?_
  exact k_iret (pc := 25) C E (some_1 h) (some_2 h) dX10_driver_25
set_option maxHeartbeats 4000000 in
set_option maxRecDepth 100000 in
theorem kc_X10_driver {B : KB} {l : Launch} {T : TT} {x1 : Int32} {x2 : Int32} {res : Int32 × TT} (h : m_X10_driver T x1 x2 = some res) : Kt B l 3 yX10_driver cX10_driver 3 (some .int) T [.ref (B.1 4 0), .int x1, .int x2] (some (.int res.1)) res.2 := by
  refine Kt.of (by decide) (Nat.le_of_ble_eq_true rfl) (fun X hX C E => ?_)
  subst hX
  have C : Cx B X "GriefEngine" cX10_driver 3 3 := C
  show Wk B X 3 T 0 [(0, .ref (B.1 4 0)), (1, .int x1), (2, .int x2)] []
  unfold m_X10_driver at h
  refine k_iload_n (pc := 0) C dX10_driver_0 1 rfl ?_
  refine k_iconst (pc := 1) (v := (0 : Int32)) C dX10_driver_1 ciconst_0 ?_
  refine k_iconst (pc := 2) (v := (5 : Int32)) C dX10_driver_2 ciconst_5 ?_
  obtain ⟨z1, e1, h⟩ := bnd h
  refine k_callsI (pc := 3) C lk_X10_69 (by decide) (kc_X10_within e1) dX10_driver_3 rfl rfl (Nat.le_of_ble_eq_true rfl) ?_
  refine k_if_eq (pc := 6) C 19 dX10_driver_6 (by decide) h (fun c6 h => ?_) (fun c6 h => ?_)
  · refine k_sub [0] rfl ?_
    exact k_X10_driver_b19 C E T h
  · refine k_iload_n (pc := 9) C dX10_driver_9 2 rfl ?_
    refine k_iconst (pc := 10) (v := (0 : Int32)) C dX10_driver_10 ciconst_0 ?_
    refine k_bipush (pc := 11) (v := (99 : Int32)) C dX10_driver_11 cbipush_99 ?_
    obtain ⟨z2, e2, h⟩ := bnd h
    refine k_callsI (pc := 13) C lk_X10_69 (by decide) (kc_X10_within e2) dX10_driver_13 rfl rfl (Nat.le_of_ble_eq_true rfl) ?_
    refine k_if_ne (pc := 16) C 26 dX10_driver_16 (by decide) h (fun c5 h => ?_) (fun c5 h => ?_)
    · refine k_aload_n (pc := 26) C dX10_driver_26 0 rfl ?_
      refine k_aload_n (pc := 27) C dX10_driver_27 0 rfl ?_
      refine gf_X10_12 (pc := 28) C dX10_driver_28 ?_
      refine k_iload_n (pc := 31) C dX10_driver_31 1 rfl ?_
      refine k_iload_n (pc := 32) C dX10_driver_32 2 rfl ?_
      obtain ⟨z3, e3, h⟩ := bnd h
      refine k_callvI (pc := 33) C lk_X10_77 (by decide) (ix_X4 lt4_0) (wo_X4 lt4_0) rfl rfl (kc_X4_addDriver lt4_0 e3) dX10_driver_33 rfl rfl (Nat.le_of_ble_eq_true rfl) ?_
      obtain ⟨z4, e4, h⟩ := bnd h
      refine k_callvI (pc := 36) C lk_X10_81 (by decide) ix_X10 wo_X10 rfl rfl (kc_X10_refuseIfFull e4) dX10_driver_36 rfl rfl (Nat.le_of_ble_eq_true rfl) ?_
      exact k_iret (pc := 39) C E (some_1 h) (some_2 h) dX10_driver_39
    · refine k_sub [0] rfl ?_
      exact k_X10_driver_b19 C E T h
def m_X10_type (T : TT) (x1 : Int32) : Option (Int32 × TT) := (m_X10_within x1 (0 : Int32) (127 : Int32)).bind (fun z1 => if z1 = 0 then ((m_X10_refuse T (-2 : Int32)).bind (fun z4 => some (z4.1, z4.2))) else ((m_X9_append T x1).bind (fun z2 => (m_X10_refuseIfFull z2.2 z2.1).bind (fun z3 => some (z3.1, z3.2)))))
set_option maxHeartbeats 4000000 in
set_option maxRecDepth 100000 in
theorem kc_X10_type {B : KB} {l : Launch} {T : TT} {x1 : Int32} {res : Int32 × TT} (h : m_X10_type T x1 = some res) : Kt B l 3 yX10_type cX10_type 2 (some .int) T [.ref (B.1 4 0), .int x1] (some (.int res.1)) res.2 := by
  refine Kt.of (by decide) (Nat.le_of_ble_eq_true rfl) (fun X hX C E => ?_)
  subst hX
  have C : Cx B X "GriefEngine" cX10_type 2 3 := C
  show Wk B X 2 T 0 [(0, .ref (B.1 4 0)), (1, .int x1)] []
  unfold m_X10_type at h
  refine k_iload_n (pc := 0) C dX10_type_0 1 rfl ?_
  refine k_iconst (pc := 1) (v := (0 : Int32)) C dX10_type_1 ciconst_0 ?_
  refine k_bipush (pc := 2) (v := (127 : Int32)) C dX10_type_2 cbipush_127 ?_
  obtain ⟨z1, e1, h⟩ := bnd h
  refine k_callsI (pc := 4) C lk_X10_69 (by decide) (kc_X10_within e1) dX10_type_4 rfl rfl (Nat.le_of_ble_eq_true rfl) ?_
  refine k_if_ne (pc := 7) C 17 dX10_type_7 (by decide) h (fun c5 h => ?_) (fun c5 h => ?_)
  · refine k_aload_n (pc := 17) C dX10_type_17 0 rfl ?_
    refine k_aload_n (pc := 18) C dX10_type_18 0 rfl ?_
    refine gf_X10_30 (pc := 19) C dX10_type_19 ?_
    refine k_iload_n (pc := 22) C dX10_type_22 1 rfl ?_
    obtain ⟨z2, e2, h⟩ := bnd h
    refine k_callvI (pc := 23) C lk_X10_84 (by decide) ix_X9 wo_X9 rfl rfl (kc_X9_append e2) dX10_type_23 rfl rfl (Nat.le_of_ble_eq_true rfl) ?_
    obtain ⟨z3, e3, h⟩ := bnd h
    refine k_callvI (pc := 26) C lk_X10_81 (by decide) ix_X10 wo_X10 rfl rfl (kc_X10_refuseIfFull e3) dX10_type_26 rfl rfl (Nat.le_of_ble_eq_true rfl) ?_
    exact k_iret (pc := 29) C E (some_1 h) (some_2 h) dX10_type_29
  · refine k_aload_n (pc := 10) C dX10_type_10 0 rfl ?_
    refine k_bipush (pc := 11) (v := (-2 : Int32)) C dX10_type_11 cbipush_m2 ?_
    obtain ⟨z4, e4, h⟩ := bnd h
    refine k_callvI (pc := 13) C lk_X10_73 (by decide) ix_X10 wo_X10 rfl rfl (kc_X10_refuse e4) dX10_type_13 rfl rfl (Nat.le_of_ble_eq_true rfl) ?_
    exact k_iret (pc := 16) C E (some_1 h) (some_2 h) dX10_type_16
def m_X10_clear (T : TT) : Option (Int32 × TT) := bT (T.2.1 5 1) (fun y1 => bT (sI T 5 1 (0 : Int32)) (fun T2 => some (y1, T2)))
set_option maxHeartbeats 4000000 in
set_option maxRecDepth 100000 in
theorem kc_X10_clear {B : KB} {l : Launch} {T : TT} {res : Int32 × TT} (h : m_X10_clear T = some res) : Kt B l 1 yX10_clear cX10_clear 2 (some .int) T [.ref (B.1 4 0)] (some (.int res.1)) res.2 := by
  refine Kt.of (by decide) (Nat.le_of_ble_eq_true rfl) (fun X hX C E => ?_)
  subst hX
  have C : Cx B X "GriefEngine" cX10_clear 2 1 := C
  show Wk B X 2 T 0 [(0, .ref (B.1 4 0))] []
  unfold m_X10_clear at h
  refine k_aload_n (pc := 0) C dX10_clear_0 0 rfl ?_
  refine gf_X10_30 (pc := 1) C dX10_clear_1 ?_
  refine gf_X10_87 (pc := 4) C dX10_clear_4 ?_
  refine k_nI h (fun y1 h => ?_)
  refine k_istore_n (pc := 7) C [(1, .int y1), (0, .ref (B.1 4 0))] dX10_clear_7 (by decide) rfl ?_
  refine k_aload_n (pc := 8) C dX10_clear_8 1 rfl ?_
  refine gf_X10_30 (pc := 9) C dX10_clear_9 ?_
  refine k_iconst (pc := 12) (v := (0 : Int32)) C dX10_clear_12 ciconst_0 ?_
  refine pf_X10_87 (pc := 13) C dX10_clear_13 ?_
  refine k_nT h (fun T2 h => ?_)
  refine k_iload_n (pc := 16) C dX10_clear_16 0 rfl ?_
  exact k_iret (pc := 17) C E (some_1 h) (some_2 h) dX10_clear_17
def m_X10_isChoice (x0 : Int32) : Option (Int32) := if x0 < 0 then (some (0 : Int32)) else (if (2 : Int32) < x0 then (some (0 : Int32)) else (some (1 : Int32)))
set_option maxHeartbeats 4000000 in
set_option maxRecDepth 100000 in
theorem kc_X10_isChoice {B : KB} {l : Launch} {T : TT} {x0 : Int32} {res : Int32} (h : m_X10_isChoice x0 = some res) : Kt B l 1 yX10_isChoice cX10_isChoice 1 (some .boolean) T [.int x0] (some (.int res)) T := by
  refine Kt.of (by decide) (Nat.le_of_ble_eq_true rfl) (fun X hX C E => ?_)
  subst hX
  have C : Cx B X "GriefEngine" cX10_isChoice 1 1 := C
  show Wk B X 1 T 0 [(0, .int x0)] []
  unfold m_X10_isChoice at h
  refine k_iload_n (pc := 0) C dX10_isChoice_0 0 rfl ?_
  refine k_if_lt (pc := 1) C 13 dX10_isChoice_1 (by decide) h (fun c2 h => ?_) (fun c2 h => ?_)
  · refine k_iconst (pc := 13) (v := (0 : Int32)) C dX10_isChoice_13 ciconst_0 ?_
    exact k_zret (pc := 14) C E rfl (some_i h) rfl dX10_isChoice_14
  · refine k_iload_n (pc := 4) C dX10_isChoice_4 0 rfl ?_
    refine k_iconst (pc := 5) (v := (2 : Int32)) C dX10_isChoice_5 ciconst_2 ?_
    refine k_icmp_gt (pc := 6) C 13 dX10_isChoice_6 (by decide) h (fun c1 h => ?_) (fun c1 h => ?_)
    · refine k_iconst (pc := 13) (v := (0 : Int32)) C dX10_isChoice_13 ciconst_0 ?_
      exact k_zret (pc := 14) C E rfl (some_i h) rfl dX10_isChoice_14
    · refine k_iconst (pc := 9) (v := (1 : Int32)) C dX10_isChoice_9 ciconst_1 ?_
      refine k_goto (pc := 10) C 14 dX10_isChoice_10 (by decide) ?_
      exact k_zret (pc := 14) C E rfl (some_i h) rfl dX10_isChoice_14
def m_X10_days_b17 (T : TT) : Option (Int32 × TT) := (m_X10_refuse T (-2 : Int32)).bind (fun z7 => some (z7.1, z7.2))
def m_X10_days (T : TT) (x1 : Int32) (x2 : Int32) : Option (Int32 × TT) := (m_X10_within x1 (1 : Int32) (99 : Int32)).bind (fun z1 => if z1 = 0 then (m_X10_days_b17 T) else ((m_X10_isChoice x2).bind (fun z2 => if z2 = 0 then (m_X10_days_b17 T) else ((m_X4_remember T 0).bind (fun z3 => (m_X4_passDays z3 0 x1 (-1 : Int32) x2).bind (fun z4 => some (z4.1, z4.2)))))))
set_option maxHeartbeats 4000000 in
set_option maxRecDepth 100000 in
theorem k_X10_days_b17 {B : KB} {X : KE} {res : Int32 × TT} (C : Cx B X "GriefEngine" cX10_days 3 6) (E : Cr B X (some .int) (some (.int res.1)) res.2) (T : TT) (h : m_X10_days_b17 T = some res) : Wk B X 3 T 17 [(0, .ref (B.1 4 0))] [] := by
  unfold m_X10_days_b17 at h
  refine k_aload_n (pc := 17) C dX10_days_17 0 rfl ?_
  refine k_bipush (pc := 18) (v := (-2 : Int32)) C dX10_days_18 cbipush_m2 ?_
  obtain ⟨z7, e7, h⟩ := bnd h
  refine k_callvI (pc := 20) C lk_X10_73 (by decide) ix_X10 wo_X10 rfl rfl (kc_X10_refuse e7) dX10_days_20 rfl rfl (Nat.le_of_ble_eq_true rfl) ?_
  exact k_iret (pc := 23) C E (some_1 h) (some_2 h) dX10_days_23
set_option maxHeartbeats 4000000 in
set_option maxRecDepth 100000 in
theorem kc_X10_days {B : KB} {l : Launch} {T : TT} {x1 : Int32} {x2 : Int32} {res : Int32 × TT} (h : m_X10_days T x1 x2 = some res) : Kt B l 6 yX10_days cX10_days 3 (some .int) T [.ref (B.1 4 0), .int x1, .int x2] (some (.int res.1)) res.2 := by
  refine Kt.of (by decide) (Nat.le_of_ble_eq_true rfl) (fun X hX C E => ?_)
  subst hX
  have C : Cx B X "GriefEngine" cX10_days 3 6 := C
  show Wk B X 3 T 0 [(0, .ref (B.1 4 0)), (1, .int x1), (2, .int x2)] []
  unfold m_X10_days at h
  refine k_iload_n (pc := 0) C dX10_days_0 1 rfl ?_
  refine k_iconst (pc := 1) (v := (1 : Int32)) C dX10_days_1 ciconst_1 ?_
  refine k_bipush (pc := 2) (v := (99 : Int32)) C dX10_days_2 cbipush_99 ?_
  obtain ⟨z1, e1, h⟩ := bnd h
  refine k_callsI (pc := 4) C lk_X10_69 (by decide) (kc_X10_within e1) dX10_days_4 rfl rfl (Nat.le_of_ble_eq_true rfl) ?_
  refine k_if_eq (pc := 7) C 17 dX10_days_7 (by decide) h (fun c6 h => ?_) (fun c6 h => ?_)
  · refine k_sub [0] rfl ?_
    exact k_X10_days_b17 C E T h
  · refine k_iload_n (pc := 10) C dX10_days_10 2 rfl ?_
    obtain ⟨z2, e2, h⟩ := bnd h
    refine k_callsI (pc := 11) C lk_X10_125 (by decide) (kc_X10_isChoice e2) dX10_days_11 rfl rfl (Nat.le_of_ble_eq_true rfl) ?_
    refine k_if_ne (pc := 14) C 24 dX10_days_14 (by decide) h (fun c5 h => ?_) (fun c5 h => ?_)
    · refine k_aload_n (pc := 24) C dX10_days_24 0 rfl ?_
      refine gf_X10_12 (pc := 25) C dX10_days_25 ?_
      obtain ⟨z3, e3, h⟩ := bnd h
      refine k_callvV (pc := 28) C lk_X10_129 (by decide) (ix_X4 lt4_0) (wo_X4 lt4_0) rfl rfl (kc_X4_remember lt4_0 e3) dX10_days_28 rfl rfl (Nat.le_of_ble_eq_true rfl) ?_
      refine k_aload_n (pc := 31) C dX10_days_31 0 rfl ?_
      refine gf_X10_12 (pc := 32) C dX10_days_32 ?_
      refine k_iload_n (pc := 35) C dX10_days_35 1 rfl ?_
      refine k_iconst (pc := 36) (v := (-1 : Int32)) C dX10_days_36 ciconst_m1 ?_
      refine k_iload_n (pc := 37) C dX10_days_37 2 rfl ?_
      obtain ⟨z4, e4, h⟩ := bnd h
      refine k_callvI (pc := 38) C lk_X10_111 (by decide) (ix_X4 lt4_0) (wo_X4 lt4_0) rfl rfl (kc_X4_passDays lt4_0 e4) dX10_days_38 rfl rfl (Nat.le_of_ble_eq_true rfl) ?_
      exact k_iret (pc := 41) C E (some_1 h) (some_2 h) dX10_days_41
    · refine k_sub [0] rfl ?_
      exact k_X10_days_b17 C E T h
def m_X10_day_b18 (T : TT) : Option (Int32 × TT) := (m_X10_refuse T (-2 : Int32)).bind (fun z7 => some (z7.1, z7.2))
def m_X10_day (T : TT) (x1 : Int32) (x2 : Int32) : Option (Int32 × TT) := (m_X4_has T 0 x1).bind (fun z1 => if z1 = 0 then (m_X10_day_b18 T) else ((m_X10_isChoice x2).bind (fun z2 => if z2 = 0 then (m_X10_day_b18 T) else ((m_X4_remember T 0).bind (fun z3 => (m_X4_passDays z3 0 (1 : Int32) x1 x2).bind (fun z4 => some (z4.1, z4.2)))))))
set_option maxHeartbeats 4000000 in
set_option maxRecDepth 100000 in
theorem k_X10_day_b18 {B : KB} {X : KE} {res : Int32 × TT} (C : Cx B X "GriefEngine" cX10_day 3 6) (E : Cr B X (some .int) (some (.int res.1)) res.2) (T : TT) (h : m_X10_day_b18 T = some res) : Wk B X 3 T 18 [(0, .ref (B.1 4 0))] [] := by
  unfold m_X10_day_b18 at h
  refine k_aload_n (pc := 18) C dX10_day_18 0 rfl ?_
  refine k_bipush (pc := 19) (v := (-2 : Int32)) C dX10_day_19 cbipush_m2 ?_
  obtain ⟨z7, e7, h⟩ := bnd h
  refine k_callvI (pc := 21) C lk_X10_73 (by decide) ix_X10 wo_X10 rfl rfl (kc_X10_refuse e7) dX10_day_21 rfl rfl (Nat.le_of_ble_eq_true rfl) ?_
  exact k_iret (pc := 24) C E (some_1 h) (some_2 h) dX10_day_24
set_option maxHeartbeats 4000000 in
set_option maxRecDepth 100000 in
theorem kc_X10_day {B : KB} {l : Launch} {T : TT} {x1 : Int32} {x2 : Int32} {res : Int32 × TT} (h : m_X10_day T x1 x2 = some res) : Kt B l 6 yX10_day cX10_day 3 (some .int) T [.ref (B.1 4 0), .int x1, .int x2] (some (.int res.1)) res.2 := by
  refine Kt.of (by decide) (Nat.le_of_ble_eq_true rfl) (fun X hX C E => ?_)
  subst hX
  have C : Cx B X "GriefEngine" cX10_day 3 6 := C
  show Wk B X 3 T 0 [(0, .ref (B.1 4 0)), (1, .int x1), (2, .int x2)] []
  unfold m_X10_day at h
  refine k_aload_n (pc := 0) C dX10_day_0 0 rfl ?_
  refine gf_X10_12 (pc := 1) C dX10_day_1 ?_
  refine k_iload_n (pc := 4) C dX10_day_4 1 rfl ?_
  obtain ⟨z1, e1, h⟩ := bnd h
  refine k_callvI (pc := 5) C lk_X10_132 (by decide) (ix_X4 lt4_0) (wo_X4 lt4_0) rfl rfl (kc_X4_has lt4_0 e1) dX10_day_5 rfl rfl (Nat.le_of_ble_eq_true rfl) ?_
  refine k_if_eq (pc := 8) C 18 dX10_day_8 (by decide) h (fun c6 h => ?_) (fun c6 h => ?_)
  · refine k_sub [0] rfl ?_
    exact k_X10_day_b18 C E T h
  · refine k_iload_n (pc := 11) C dX10_day_11 2 rfl ?_
    obtain ⟨z2, e2, h⟩ := bnd h
    refine k_callsI (pc := 12) C lk_X10_125 (by decide) (kc_X10_isChoice e2) dX10_day_12 rfl rfl (Nat.le_of_ble_eq_true rfl) ?_
    refine k_if_ne (pc := 15) C 25 dX10_day_15 (by decide) h (fun c5 h => ?_) (fun c5 h => ?_)
    · refine k_aload_n (pc := 25) C dX10_day_25 0 rfl ?_
      refine gf_X10_12 (pc := 26) C dX10_day_26 ?_
      obtain ⟨z3, e3, h⟩ := bnd h
      refine k_callvV (pc := 29) C lk_X10_129 (by decide) (ix_X4 lt4_0) (wo_X4 lt4_0) rfl rfl (kc_X4_remember lt4_0 e3) dX10_day_29 rfl rfl (Nat.le_of_ble_eq_true rfl) ?_
      refine k_aload_n (pc := 32) C dX10_day_32 0 rfl ?_
      refine gf_X10_12 (pc := 33) C dX10_day_33 ?_
      refine k_iconst (pc := 36) (v := (1 : Int32)) C dX10_day_36 ciconst_1 ?_
      refine k_iload_n (pc := 37) C dX10_day_37 1 rfl ?_
      refine k_iload_n (pc := 38) C dX10_day_38 2 rfl ?_
      obtain ⟨z4, e4, h⟩ := bnd h
      refine k_callvI (pc := 39) C lk_X10_111 (by decide) (ix_X4 lt4_0) (wo_X4 lt4_0) rfl rfl (kc_X4_passDays lt4_0 e4) dX10_day_39 rfl rfl (Nat.le_of_ble_eq_true rfl) ?_
      exact k_iret (pc := 42) C E (some_1 h) (some_2 h) dX10_day_42
    · refine k_sub [0] rfl ?_
      exact k_X10_day_b18 C E T h
def m_X10_undo (T : TT) : Option (Int32 × TT) := if 0 < (T.2.1 0 11) then ((m_X4_takeBack T 0).bind (fun z1 => some ((z1.2.1 0 8), z1))) else ((m_X10_refuse T (-3 : Int32)).bind (fun z2 => some (z2.1, z2.2)))
set_option maxHeartbeats 4000000 in
set_option maxRecDepth 100000 in
theorem kc_X10_undo {B : KB} {l : Launch} {T : TT} {res : Int32 × TT} (h : m_X10_undo T = some res) : Kt B l 2 yX10_undo cX10_undo 1 (some .int) T [.ref (B.1 4 0)] (some (.int res.1)) res.2 := by
  refine Kt.of (by decide) (Nat.le_of_ble_eq_true rfl) (fun X hX C E => ?_)
  subst hX
  have C : Cx B X "GriefEngine" cX10_undo 1 2 := C
  show Wk B X 1 T 0 [(0, .ref (B.1 4 0))] []
  unfold m_X10_undo at h
  refine k_aload_n (pc := 0) C dX10_undo_0 0 rfl ?_
  refine gf_X10_12 (pc := 1) C dX10_undo_1 ?_
  refine gf_X10_135 (pc := 4) C lt4_0 dX10_undo_4 ?_
  refine k_if_gt (pc := 7) C 17 dX10_undo_7 (by decide) h (fun c3 h => ?_) (fun c3 h => ?_)
  · refine k_aload_n (pc := 17) C dX10_undo_17 0 rfl ?_
    refine gf_X10_12 (pc := 18) C dX10_undo_18 ?_
    obtain ⟨z1, e1, h⟩ := bnd h
    refine k_callvV (pc := 21) C lk_X10_138 (by decide) (ix_X4 lt4_0) (wo_X4 lt4_0) rfl rfl (kc_X4_takeBack lt4_0 e1) dX10_undo_21 rfl rfl (Nat.le_of_ble_eq_true rfl) ?_
    refine k_aload_n (pc := 24) C dX10_undo_24 0 rfl ?_
    refine gf_X10_12 (pc := 25) C dX10_undo_25 ?_
    refine gf_X10_141 (pc := 28) C lt4_0 dX10_undo_28 ?_
    exact k_iret (pc := 31) C E (some_1 h) (some_2 h) dX10_undo_31
  · refine k_aload_n (pc := 10) C dX10_undo_10 0 rfl ?_
    refine k_bipush (pc := 11) (v := (-3 : Int32)) C dX10_undo_11 cbipush_m3 ?_
    obtain ⟨z2, e2, h⟩ := bnd h
    refine k_callvI (pc := 13) C lk_X10_73 (by decide) ix_X10 wo_X10 rfl rfl (kc_X10_refuse e2) dX10_undo_13 rfl rfl (Nat.le_of_ble_eq_true rfl) ?_
    exact k_iret (pc := 16) C E (some_1 h) (some_2 h) dX10_undo_16
def m_X10_of (T : TT) (x1 : Int32) (x2 : Int32) : Option (Int32 × TT) := (m_X4_has T 0 x1).bind (fun z1 => if z1 = 0 then ((m_X10_refuse T (-2 : Int32)).bind (fun z6 => some (z6.1, z6.2))) else (if x2 = (0 : Int32) then (if inb x1 6 then (some ((T.1 0 2 (Int32.toNatClampNeg x1)), T)) else none) else (if x2 = (1 : Int32) then (if inb x1 6 then (some ((T.1 0 3 (Int32.toNatClampNeg x1)), T)) else none) else (if x2 = (2 : Int32) then (if inb x1 6 then (some ((T.1 0 4 (Int32.toNatClampNeg x1)), T)) else none) else ((m_X10_refuse T (-2 : Int32)).bind (fun z5 => some (z5.1, z5.2)))))))
set_option maxHeartbeats 4000000 in
set_option maxRecDepth 100000 in
theorem kc_X10_of {B : KB} {l : Launch} {T : TT} {x1 : Int32} {x2 : Int32} {res : Int32 × TT} (h : m_X10_of T x1 x2 = some res) : Kt B l 2 yX10_of cX10_of 3 (some .int) T [.ref (B.1 4 0), .int x1, .int x2] (some (.int res.1)) res.2 := by
  refine Kt.of (by decide) (Nat.le_of_ble_eq_true rfl) (fun X hX C E => ?_)
  subst hX
  have C : Cx B X "GriefEngine" cX10_of 3 2 := C
  show Wk B X 3 T 0 [(0, .ref (B.1 4 0)), (1, .int x1), (2, .int x2)] []
  unfold m_X10_of at h
  refine k_aload_n (pc := 0) C dX10_of_0 0 rfl ?_
  refine gf_X10_12 (pc := 1) C dX10_of_1 ?_
  refine k_iload_n (pc := 4) C dX10_of_4 1 rfl ?_
  obtain ⟨z1, e1, h⟩ := bnd h
  refine k_callvI (pc := 5) C lk_X10_132 (by decide) (ix_X4 lt4_0) (wo_X4 lt4_0) rfl rfl (kc_X4_has lt4_0 e1) dX10_of_5 rfl rfl (Nat.le_of_ble_eq_true rfl) ?_
  refine k_if_ne (pc := 8) C 18 dX10_of_8 (by decide) h (fun c7 h => ?_) (fun c7 h => ?_)
  · refine k_iload_n (pc := 18) C dX10_of_18 2 rfl ?_
    by_cases c2 : x2 = (0 : Int32)
    · rw [if_pos c2] at h
      refine k_tabIn (pc := 19) C 44 (0 : Int32) dX10_of_19 c2 (by decide) (by decide) rfl (by decide) ?_
      refine k_aload_n (pc := 44) C dX10_of_44 0 rfl ?_
      refine gf_X10_12 (pc := 45) C dX10_of_45 ?_
      refine gf_X10_144 (pc := 48) C lt4_0 dX10_of_48 ?_
      refine k_iload_n (pc := 51) C dX10_of_51 1 rfl ?_
      refine k_iald (pc := 52) C (ia_R2 lt4_0) dX10_of_52 h (fun h => ?_)
      exact k_iret (pc := 53) C E (some_1 h) (some_2 h) dX10_of_53
    · rw [if_neg c2] at h
      by_cases c3 : x2 = (1 : Int32)
      · rw [if_pos c3] at h
        refine k_tabIn (pc := 19) C 54 (1 : Int32) dX10_of_19 c3 (by decide) (by decide) rfl (by decide) ?_
        refine k_aload_n (pc := 54) C dX10_of_54 0 rfl ?_
        refine gf_X10_12 (pc := 55) C dX10_of_55 ?_
        refine gf_X10_147 (pc := 58) C lt4_0 dX10_of_58 ?_
        refine k_iload_n (pc := 61) C dX10_of_61 1 rfl ?_
        refine k_iald (pc := 62) C (ia_R3 lt4_0) dX10_of_62 h (fun h => ?_)
        exact k_iret (pc := 63) C E (some_1 h) (some_2 h) dX10_of_63
      · rw [if_neg c3] at h
        by_cases c4 : x2 = (2 : Int32)
        · rw [if_pos c4] at h
          refine k_tabIn (pc := 19) C 64 (2 : Int32) dX10_of_19 c4 (by decide) (by decide) rfl (by decide) ?_
          refine k_aload_n (pc := 64) C dX10_of_64 0 rfl ?_
          refine gf_X10_12 (pc := 65) C dX10_of_65 ?_
          refine gf_X10_150 (pc := 68) C lt4_0 dX10_of_68 ?_
          refine k_iload_n (pc := 71) C dX10_of_71 1 rfl ?_
          refine k_iald (pc := 72) C (ia_R4 lt4_0) dX10_of_72 h (fun h => ?_)
          exact k_iret (pc := 73) C E (some_1 h) (some_2 h) dX10_of_73
        · rw [if_neg c4] at h
          have n2 : x2.toInt ≠ 0 := ne_toInt c2
          have n3 : x2.toInt ≠ 1 := ne_toInt c3
          have n4 : x2.toInt ≠ 2 := ne_toInt c4
          refine k_tabOut (pc := 19) C 74 dX10_of_19 (by omega) (by decide) ?_
          refine k_aload_n (pc := 74) C dX10_of_74 0 rfl ?_
          refine k_bipush (pc := 75) (v := (-2 : Int32)) C dX10_of_75 cbipush_m2 ?_
          obtain ⟨z5, e5, h⟩ := bnd h
          refine k_callvI (pc := 77) C lk_X10_73 (by decide) ix_X10 wo_X10 rfl rfl (kc_X10_refuse e5) dX10_of_77 rfl rfl (Nat.le_of_ble_eq_true rfl) ?_
          exact k_iret (pc := 80) C E (some_1 h) (some_2 h) dX10_of_80
  · refine k_aload_n (pc := 11) C dX10_of_11 0 rfl ?_
    refine k_bipush (pc := 12) (v := (-2 : Int32)) C dX10_of_12 cbipush_m2 ?_
    obtain ⟨z6, e6, h⟩ := bnd h
    refine k_callvI (pc := 14) C lk_X10_73 (by decide) ix_X10 wo_X10 rfl rfl (kc_X10_refuse e6) dX10_of_14 rfl rfl (Nat.le_of_ble_eq_true rfl) ?_
    exact k_iret (pc := 17) C E (some_1 h) (some_2 h) dX10_of_17
def m_X10_today_b30 (T : TT) (x1 : Int32) (x2 : Int32) : Option (Int32 × TT) := (m_X4_kindOf T 0 x1).bind (fun z6 => if inb x1 6 then (bT (T.1 0 3 (Int32.toNatClampNeg x1)) (fun y7 => if x2 = (-1 : Int32) then ((m_X10_seasonOf (T.2.1 0 8)).bind (fun z9 => (v_runs z6 z9 y7).bind (fun z10 => some (z10, T)))) else ((v_left z6 x2 y7).bind (fun z8 => some (z8, T))))) else none)
def m_X10_today_b23 (T : TT) : Option (Int32 × TT) := (m_X10_refuse T (-2 : Int32)).bind (fun z12 => some (z12.1, z12.2))
def m_X10_today (T : TT) (x1 : Int32) (x2 : Int32) : Option (Int32 × TT) := (m_X4_has T 0 x1).bind (fun z1 => if z1 = 0 then (m_X10_today_b23 T) else (if x2 = (-1 : Int32) then (m_X10_today_b30 T x1 x2) else ((m_X10_isChoice x2).bind (fun z2 => if z2 = 0 then (m_X10_today_b23 T) else (m_X10_today_b30 T x1 x2)))))
set_option maxHeartbeats 4000000 in
set_option maxRecDepth 100000 in
theorem k_X10_today_b30 {B : KB} {X : KE} {res : Int32 × TT} (C : Cx B X "GriefEngine" cX10_today 5 4) (E : Cr B X (some .int) (some (.int res.1)) res.2) (T : TT) (x1 : Int32) (x2 : Int32) (h : m_X10_today_b30 T x1 x2 = some res) : Wk B X 5 T 30 [(0, .ref (B.1 4 0)), (1, .int x1), (2, .int x2)] [] := by
  unfold m_X10_today_b30 at h
  refine k_aload_n (pc := 30) C dX10_today_30 0 rfl ?_
  refine gf_X10_12 (pc := 31) C dX10_today_31 ?_
  refine k_iload_n (pc := 34) C dX10_today_34 1 rfl ?_
  obtain ⟨z6, e6, h⟩ := bnd h
  have hz6 := kr_X4_kindOf lt4_0 e6
  refine k_callvA (pc := 35) C lk_X10_153 (by decide) (ix_X4 lt4_0) (wo_X4 lt4_0) rfl rfl (kc_X4_kindOf lt4_0 e6) dX10_today_35 rfl rfl (Nat.le_of_ble_eq_true rfl) ?_
  refine k_astore_n (pc := 38) C [(3, .ref (B.1 z6.1 z6.2)), (0, .ref (B.1 4 0)), (1, .int x1), (2, .int x2)] dX10_today_38 (by decide) rfl ?_
  refine k_aload_n (pc := 39) C dX10_today_39 1 rfl ?_
  refine gf_X10_12 (pc := 40) C dX10_today_40 ?_
  refine gf_X10_147 (pc := 43) C lt4_0 dX10_today_43 ?_
  refine k_iload_n (pc := 46) C dX10_today_46 2 rfl ?_
  refine k_iald (pc := 47) C (ia_R3 lt4_0) dX10_today_47 h (fun h => ?_)
  refine k_nI h (fun y7 h => ?_)
  refine k_istore (pc := 48) C [(4, .int y7), (3, .ref (B.1 z6.1 z6.2)), (0, .ref (B.1 4 0)), (1, .int x1), (2, .int x2)] dX10_today_48 (by decide) rfl ?_
  refine k_iload_n (pc := 50) C dX10_today_50 4 rfl ?_
  refine k_iconst (pc := 51) (v := (-1 : Int32)) C dX10_today_51 ciconst_m1 ?_
  refine k_icmp_ne (pc := 52) C 74 dX10_today_52 (by decide) h (fun c11 h => ?_) (fun c11 h => ?_)
  · refine k_aload_n (pc := 74) C dX10_today_74 1 rfl ?_
    refine k_iload_n (pc := 75) C dX10_today_75 4 rfl ?_
    refine k_iload (pc := 76) C dX10_today_76 0 rfl ?_
    obtain ⟨z8, e8, h⟩ := bnd h
    refine kv_left (pc := 78) C lk_X10_165 (by decide) hz6 e8 dX10_today_78 (Nat.le_of_ble_eq_true rfl) ?_
    exact k_iret (pc := 81) C E (some_1 h) (some_2 h) dX10_today_81
  · refine k_aload_n (pc := 55) C dX10_today_55 1 rfl ?_
    refine k_aload_n (pc := 56) C dX10_today_56 2 rfl ?_
    refine gf_X10_12 (pc := 57) C dX10_today_57 ?_
    refine gf_X10_141 (pc := 60) C lt4_0 dX10_today_60 ?_
    obtain ⟨z9, e9, h⟩ := bnd h
    refine k_callsI (pc := 63) C lk_X10_157 (by decide) (kc_X10_seasonOf e9) dX10_today_63 rfl rfl (Nat.le_of_ble_eq_true rfl) ?_
    refine k_iload (pc := 66) C dX10_today_66 0 rfl ?_
    obtain ⟨z10, e10, h⟩ := bnd h
    refine kv_runs (pc := 68) C lk_X10_160 (by decide) hz6 e10 dX10_today_68 (Nat.le_of_ble_eq_true rfl) ?_
    refine k_goto (pc := 71) C 81 dX10_today_71 (by decide) ?_
    exact k_iret (pc := 81) C E (some_1 h) (some_2 h) dX10_today_81
set_option maxHeartbeats 4000000 in
set_option maxRecDepth 100000 in
theorem k_X10_today_b23 {B : KB} {X : KE} {res : Int32 × TT} (C : Cx B X "GriefEngine" cX10_today 5 4) (E : Cr B X (some .int) (some (.int res.1)) res.2) (T : TT) (h : m_X10_today_b23 T = some res) : Wk B X 5 T 23 [(0, .ref (B.1 4 0))] [] := by
  unfold m_X10_today_b23 at h
  refine k_aload_n (pc := 23) C dX10_today_23 0 rfl ?_
  refine k_bipush (pc := 24) (v := (-2 : Int32)) C dX10_today_24 cbipush_m2 ?_
  obtain ⟨z12, e12, h⟩ := bnd h
  refine k_callvI (pc := 26) C lk_X10_73 (by decide) ix_X10 wo_X10 rfl rfl (kc_X10_refuse e12) dX10_today_26 rfl rfl (Nat.le_of_ble_eq_true rfl) ?_
  exact k_iret (pc := 29) C E (some_1 h) (some_2 h) dX10_today_29
set_option maxHeartbeats 4000000 in
set_option maxRecDepth 100000 in
theorem kc_X10_today {B : KB} {l : Launch} {T : TT} {x1 : Int32} {x2 : Int32} {res : Int32 × TT} (h : m_X10_today T x1 x2 = some res) : Kt B l 4 yX10_today cX10_today 5 (some .int) T [.ref (B.1 4 0), .int x1, .int x2] (some (.int res.1)) res.2 := by
  refine Kt.of (by decide) (Nat.le_of_ble_eq_true rfl) (fun X hX C E => ?_)
  subst hX
  have C : Cx B X "GriefEngine" cX10_today 5 4 := C
  show Wk B X 5 T 0 [(0, .ref (B.1 4 0)), (1, .int x1), (2, .int x2)] []
  unfold m_X10_today at h
  refine k_aload_n (pc := 0) C dX10_today_0 0 rfl ?_
  refine gf_X10_12 (pc := 1) C dX10_today_1 ?_
  refine k_iload_n (pc := 4) C dX10_today_4 1 rfl ?_
  obtain ⟨z1, e1, h⟩ := bnd h
  refine k_callvI (pc := 5) C lk_X10_132 (by decide) (ix_X4 lt4_0) (wo_X4 lt4_0) rfl rfl (kc_X4_has lt4_0 e1) dX10_today_5 rfl rfl (Nat.le_of_ble_eq_true rfl) ?_
  refine k_if_eq (pc := 8) C 23 dX10_today_8 (by decide) h (fun c5 h => ?_) (fun c5 h => ?_)
  · refine k_sub [0] rfl ?_
    exact k_X10_today_b23 C E T h
  · refine k_iload_n (pc := 11) C dX10_today_11 2 rfl ?_
    refine k_iconst (pc := 12) (v := (-1 : Int32)) C dX10_today_12 ciconst_m1 ?_
    refine k_icmp_eq (pc := 13) C 30 dX10_today_13 (by decide) h (fun c4 h => ?_) (fun c4 h => ?_)
    · refine k_sub [0, 1, 2] rfl ?_
      exact k_X10_today_b30 C E T x1 x2 h
    · refine k_iload_n (pc := 16) C dX10_today_16 2 rfl ?_
      obtain ⟨z2, e2, h⟩ := bnd h
      refine k_callsI (pc := 17) C lk_X10_125 (by decide) (kc_X10_isChoice e2) dX10_today_17 rfl rfl (Nat.le_of_ble_eq_true rfl) ?_
      refine k_if_ne (pc := 20) C 30 dX10_today_20 (by decide) h (fun c3 h => ?_) (fun c3 h => ?_)
      · refine k_sub [0, 1, 2] rfl ?_
        exact k_X10_today_b30 C E T x1 x2 h
      · refine k_sub [0] rfl ?_
        exact k_X10_today_b23 C E T h
def m_X10_then_b116 (rec80 : TT → Int32 → Int32 → Int32 → (Nat × Nat) → Int32 → Int32 → Int32 → Option (Int32 × TT)) (T : TT) (x2 : Int32) (x3 : Int32) (x4 : Int32) (hx5 : Nat × Nat) (x6 : Int32) (x8 : Int32) (s0 : Int32) (s1 : Int32) : Option (Int32 × TT) := bT (s0 + s1) (fun y17 => (v_left hx5 x3 x6).bind (fun z18 => bT (x8 + (1 : Int32)) (fun y19 => rec80 T x2 x3 x4 hx5 z18 y17 y19)))
def m_X10_then_h80 (rec80 : TT → Int32 → Int32 → Int32 → (Nat × Nat) → Int32 → Int32 → Int32 → Option (Int32 × TT)) (T : TT) (x2 : Int32) (x3 : Int32) (x4 : Int32) (hx5 : Nat × Nat) (x6 : Int32) (x7 : Int32) (x8 : Int32) : Option (Int32 × TT) := if x2 ≤ x8 then (if x4 = 0 then (some (x6, T)) else (some (x7, T))) else (if x3 = 0 then ((m_X10_seasonOf ((T.2.1 0 8) + x8)).bind (fun z13 => (v_runs hx5 z13 x6).bind (fun z14 => m_X10_then_b116 rec80 T x2 x3 x4 hx5 x6 x8 x7 z14))) else (m_X10_then_b116 rec80 T x2 x3 x4 hx5 x6 x8 x7 (0 : Int32)))
def m_X10_then_l80 : Nat → TT → Int32 → Int32 → Int32 → (Nat × Nat) → Int32 → Int32 → Int32 → Option (Int32 × TT)
  | 0 => fun _ _ _ _ _ _ _ _ => none
  | n + 1 => fun T x2 x3 x4 hx5 x6 x7 x8 => m_X10_then_h80 (m_X10_then_l80 n) T x2 x3 x4 hx5 x6 x7 x8
def m_X10_then_b38 (T : TT) : Option (Int32 × TT) := (m_X10_refuse T (-2 : Int32)).bind (fun z20 => some (z20.1, z20.2))
def m_X10_then (T : TT) (x1 : Int32) (x2 : Int32) (x3 : Int32) (x4 : Int32) : Option (Int32 × TT) := (m_X4_has T 0 x1).bind (fun z1 => if z1 = 0 then (m_X10_then_b38 T) else ((m_X10_within x2 (0 : Int32) (99 : Int32)).bind (fun z2 => if z2 = 0 then (m_X10_then_b38 T) else ((m_X10_isChoice x3).bind (fun z3 => if z3 = 0 then (m_X10_then_b38 T) else ((m_X10_within x4 (0 : Int32) (1 : Int32)).bind (fun z4 => if z4 = 0 then (m_X10_then_b38 T) else ((m_X4_kindOf T 0 x1).bind (fun z5 => if inb x1 6 then (bT (T.1 0 3 (Int32.toNatClampNeg x1)) (fun y6 => if inb x1 6 then (bT (T.1 0 4 (Int32.toNatClampNeg x1)) (fun y7 => m_X10_then_l80 FU T x2 x3 x4 z5 y6 y7 (0 : Int32))) else none)) else none)))))))))
set_option maxHeartbeats 4000000 in
set_option maxRecDepth 100000 in
theorem k_X10_then_b116 {B : KB} {X : KE} {rec80 : TT → Int32 → Int32 → Int32 → (Nat × Nat) → Int32 → Int32 → Int32 → Option (Int32 × TT)} {res : Int32 × TT} (C : Cx B X "GriefEngine" cX10_then 9 4) (E : Cr B X (some .int) (some (.int res.1)) res.2) (hrec80 : ∀ (T : TT) (x2 : Int32) (x3 : Int32) (x4 : Int32) (hx5 : Nat × Nat) (x6 : Int32) (x7 : Int32) (x8 : Int32), kok hx5.1 hx5.2 → rec80 T x2 x3 x4 hx5 x6 x7 x8 = some res → Wk B X 9 T 80 [(0, .ref (B.1 4 0)), (2, .int x2), (3, .int x3), (4, .int x4), (5, .ref (B.1 hx5.1 hx5.2)), (6, .int x6), (7, .int x7), (8, .int x8)] []) (T : TT) (x2 : Int32) (x3 : Int32) (x4 : Int32) (hx5 : Nat × Nat) (x6 : Int32) (x8 : Int32) (s0 : Int32) (s1 : Int32) (hkx5 : kok hx5.1 hx5.2) (h : m_X10_then_b116 rec80 T x2 x3 x4 hx5 x6 x8 s0 s1 = some res) : Wk B X 9 T 116 [(0, .ref (B.1 4 0)), (2, .int x2), (3, .int x3), (4, .int x4), (5, .ref (B.1 hx5.1 hx5.2)), (6, .int x6), (8, .int x8)] [.int s1, .int s0] := by
  unfold m_X10_then_b116 at h
  refine k_iadd (pc := 116) C dX10_then_116 ?_
  refine k_nI h (fun y17 h => ?_)
  refine k_istore (pc := 117) C [(7, .int y17), (0, .ref (B.1 4 0)), (2, .int x2), (3, .int x3), (4, .int x4), (5, .ref (B.1 hx5.1 hx5.2)), (6, .int x6), (8, .int x8)] dX10_then_117 (by decide) rfl ?_
  refine k_aload (pc := 119) C dX10_then_119 5 rfl ?_
  refine k_iload_n (pc := 121) C dX10_then_121 3 rfl ?_
  refine k_iload (pc := 122) C dX10_then_122 6 rfl ?_
  obtain ⟨z18, e18, h⟩ := bnd h
  refine kv_left (pc := 124) C lk_X10_165 (by decide) hkx5 e18 dX10_then_124 (Nat.le_of_ble_eq_true rfl) ?_
  refine k_istore (pc := 127) C [(6, .int z18), (7, .int y17), (0, .ref (B.1 4 0)), (2, .int x2), (3, .int x3), (4, .int x4), (5, .ref (B.1 hx5.1 hx5.2)), (8, .int x8)] dX10_then_127 (by decide) rfl ?_
  refine k_iincN (pc := 129) (x := x8) (c := (1 : Int32)) C (fun y19 => [(8, .int y19), (6, .int z18), (7, .int y17), (0, .ref (B.1 4 0)), (2, .int x2), (3, .int x3), (4, .int x4), (5, .ref (B.1 hx5.1 hx5.2))]) dX10_then_129 7 rfl ciconst_1 (by decide) (fun _ => rfl) h (fun y19 h => ?_)
  refine k_goto (pc := 132) C 80 dX10_then_132 (by decide) ?_
  refine k_sub [3, 4, 5, 6, 7, 1, 2, 0] rfl ?_
  exact hrec80 T x2 x3 x4 hx5 z18 y17 y19 hkx5 h
set_option maxHeartbeats 4000000 in
set_option maxRecDepth 100000 in
theorem k_X10_then_h80 {B : KB} {X : KE} {rec80 : TT → Int32 → Int32 → Int32 → (Nat × Nat) → Int32 → Int32 → Int32 → Option (Int32 × TT)} {res : Int32 × TT} (C : Cx B X "GriefEngine" cX10_then 9 4) (E : Cr B X (some .int) (some (.int res.1)) res.2) (hrec80 : ∀ (T : TT) (x2 : Int32) (x3 : Int32) (x4 : Int32) (hx5 : Nat × Nat) (x6 : Int32) (x7 : Int32) (x8 : Int32), kok hx5.1 hx5.2 → rec80 T x2 x3 x4 hx5 x6 x7 x8 = some res → Wk B X 9 T 80 [(0, .ref (B.1 4 0)), (2, .int x2), (3, .int x3), (4, .int x4), (5, .ref (B.1 hx5.1 hx5.2)), (6, .int x6), (7, .int x7), (8, .int x8)] []) (T : TT) (x2 : Int32) (x3 : Int32) (x4 : Int32) (hx5 : Nat × Nat) (x6 : Int32) (x7 : Int32) (x8 : Int32) (hkx5 : kok hx5.1 hx5.2) (h : m_X10_then_h80 rec80 T x2 x3 x4 hx5 x6 x7 x8 = some res) : Wk B X 9 T 80 [(0, .ref (B.1 4 0)), (2, .int x2), (3, .int x3), (4, .int x4), (5, .ref (B.1 hx5.1 hx5.2)), (6, .int x6), (7, .int x7), (8, .int x8)] [] := by
  unfold m_X10_then_h80 at h
  refine k_iload (pc := 80) C dX10_then_80 7 rfl ?_
  refine k_iload_n (pc := 82) C dX10_then_82 1 rfl ?_
  refine k_icmp_ge (pc := 83) C 135 dX10_then_83 (by decide) h (fun c16 h => ?_) (fun c16 h => ?_)
  · refine k_iload (pc := 135) C dX10_then_135 3 rfl ?_
    refine k_if_ne (pc := 137) C 145 dX10_then_137 (by decide) h (fun c12 h => ?_) (fun c12 h => ?_)
    · refine k_iload (pc := 145) C dX10_then_145 6 rfl ?_
      exact k_iret (pc := 147) C E (some_1 h) (some_2 h) dX10_then_147
    · refine k_iload (pc := 140) C dX10_then_140 5 rfl ?_
      refine k_goto (pc := 142) C 147 dX10_then_142 (by decide) ?_
      exact k_iret (pc := 147) C E (some_1 h) (some_2 h) dX10_then_147
  · refine k_iload (pc := 86) C dX10_then_86 6 rfl ?_
    refine k_iload_n (pc := 88) C dX10_then_88 2 rfl ?_
    refine k_if_ne (pc := 89) C 115 dX10_then_89 (by decide) h (fun c15 h => ?_) (fun c15 h => ?_)
    · refine k_iconst (pc := 115) (v := (0 : Int32)) C dX10_then_115 ciconst_0 ?_
      refine k_sub [0, 1, 2, 3, 4, 5, 7] rfl ?_
      exact k_X10_then_b116 C E hrec80 T x2 x3 x4 hx5 x6 x8 x7 (0 : Int32) hkx5 h
    · refine k_aload (pc := 92) C dX10_then_92 4 rfl ?_
      refine k_aload_n (pc := 94) C dX10_then_94 0 rfl ?_
      refine gf_X10_12 (pc := 95) C dX10_then_95 ?_
      refine gf_X10_141 (pc := 98) C lt4_0 dX10_then_98 ?_
      refine k_iload (pc := 101) C dX10_then_101 7 rfl ?_
      refine k_iadd (pc := 103) C dX10_then_103 ?_
      obtain ⟨z13, e13, h⟩ := bnd h
      refine k_callsI (pc := 104) C lk_X10_157 (by decide) (kc_X10_seasonOf e13) dX10_then_104 rfl rfl (Nat.le_of_ble_eq_true rfl) ?_
      refine k_iload (pc := 107) C dX10_then_107 5 rfl ?_
      obtain ⟨z14, e14, h⟩ := bnd h
      refine kv_runs (pc := 109) C lk_X10_160 (by decide) hkx5 e14 dX10_then_109 (Nat.le_of_ble_eq_true rfl) ?_
      refine k_goto (pc := 112) C 116 dX10_then_112 (by decide) ?_
      refine k_sub [0, 1, 2, 3, 4, 5, 7] rfl ?_
      exact k_X10_then_b116 C E hrec80 T x2 x3 x4 hx5 x6 x8 x7 z14 hkx5 h
set_option maxHeartbeats 4000000 in
set_option maxRecDepth 100000 in
theorem k_X10_then_l80 {B : KB} {X : KE} {res : Int32 × TT} (C : Cx B X "GriefEngine" cX10_then 9 4) (E : Cr B X (some .int) (some (.int res.1)) res.2) : ∀ (n : Nat) (T : TT) (x2 : Int32) (x3 : Int32) (x4 : Int32) (hx5 : Nat × Nat) (x6 : Int32) (x7 : Int32) (x8 : Int32) (hkx5 : kok hx5.1 hx5.2) (h : m_X10_then_l80 n T x2 x3 x4 hx5 x6 x7 x8 = some res), Wk B X 9 T 80 [(0, .ref (B.1 4 0)), (2, .int x2), (3, .int x3), (4, .int x4), (5, .ref (B.1 hx5.1 hx5.2)), (6, .int x6), (7, .int x7), (8, .int x8)] [] := by
  intro n
  induction n with
  | zero =>
    intro T x2 x3 x4 hx5 x6 x7 x8 hkx5 h
    exact no_some h
  | succ n ih =>
    intro T x2 x3 x4 hx5 x6 x7 x8 hkx5 h
    exact k_X10_then_h80 C E (fun T x2 x3 x4 hx5 x6 x7 x8 hkx5 h => ih T x2 x3 x4 hx5 x6 x7 x8 hkx5 h) T x2 x3 x4 hx5 x6 x7 x8 hkx5 h
set_option maxHeartbeats 4000000 in
set_option maxRecDepth 100000 in
theorem k_X10_then_b38 {B : KB} {X : KE} {res : Int32 × TT} (C : Cx B X "GriefEngine" cX10_then 9 4) (E : Cr B X (some .int) (some (.int res.1)) res.2) (T : TT) (h : m_X10_then_b38 T = some res) : Wk B X 9 T 38 [(0, .ref (B.1 4 0))] [] := by
  unfold m_X10_then_b38 at h
  refine k_aload_n (pc := 38) C dX10_then_38 0 rfl ?_
  refine k_bipush (pc := 39) (v := (-2 : Int32)) C dX10_then_39 cbipush_m2 ?_
  obtain ⟨z20, e20, h⟩ := bnd h
  refine k_callvI (pc := 41) C lk_X10_73 (by decide) ix_X10 wo_X10 rfl rfl (kc_X10_refuse e20) dX10_then_41 rfl rfl (Nat.le_of_ble_eq_true rfl) ?_
  exact k_iret (pc := 44) C E (some_1 h) (some_2 h) dX10_then_44
set_option maxHeartbeats 4000000 in
set_option maxRecDepth 100000 in
theorem kc_X10_then {B : KB} {l : Launch} {T : TT} {x1 : Int32} {x2 : Int32} {x3 : Int32} {x4 : Int32} {res : Int32 × TT} (h : m_X10_then T x1 x2 x3 x4 = some res) : Kt B l 4 yX10_then cX10_then 9 (some .int) T [.ref (B.1 4 0), .int x1, .int x2, .int x3, .int x4] (some (.int res.1)) res.2 := by
  refine Kt.of (by decide) (Nat.le_of_ble_eq_true rfl) (fun X hX C E => ?_)
  subst hX
  have C : Cx B X "GriefEngine" cX10_then 9 4 := C
  show Wk B X 9 T 0 [(0, .ref (B.1 4 0)), (1, .int x1), (2, .int x2), (3, .int x3), (4, .int x4)] []
  unfold m_X10_then at h
  refine k_aload_n (pc := 0) C dX10_then_0 0 rfl ?_
  refine gf_X10_12 (pc := 1) C dX10_then_1 ?_
  refine k_iload_n (pc := 4) C dX10_then_4 1 rfl ?_
  obtain ⟨z1, e1, h⟩ := bnd h
  refine k_callvI (pc := 5) C lk_X10_132 (by decide) (ix_X4 lt4_0) (wo_X4 lt4_0) rfl rfl (kc_X4_has lt4_0 e1) dX10_then_5 rfl rfl (Nat.le_of_ble_eq_true rfl) ?_
  refine k_if_eq (pc := 8) C 38 dX10_then_8 (by decide) h (fun c11 h => ?_) (fun c11 h => ?_)
  · refine k_sub [0] rfl ?_
    exact k_X10_then_b38 C E T h
  · refine k_iload_n (pc := 11) C dX10_then_11 2 rfl ?_
    refine k_iconst (pc := 12) (v := (0 : Int32)) C dX10_then_12 ciconst_0 ?_
    refine k_bipush (pc := 13) (v := (99 : Int32)) C dX10_then_13 cbipush_99 ?_
    obtain ⟨z2, e2, h⟩ := bnd h
    refine k_callsI (pc := 15) C lk_X10_69 (by decide) (kc_X10_within e2) dX10_then_15 rfl rfl (Nat.le_of_ble_eq_true rfl) ?_
    refine k_if_eq (pc := 18) C 38 dX10_then_18 (by decide) h (fun c10 h => ?_) (fun c10 h => ?_)
    · refine k_sub [0] rfl ?_
      exact k_X10_then_b38 C E T h
    · refine k_iload_n (pc := 21) C dX10_then_21 3 rfl ?_
      obtain ⟨z3, e3, h⟩ := bnd h
      refine k_callsI (pc := 22) C lk_X10_125 (by decide) (kc_X10_isChoice e3) dX10_then_22 rfl rfl (Nat.le_of_ble_eq_true rfl) ?_
      refine k_if_eq (pc := 25) C 38 dX10_then_25 (by decide) h (fun c9 h => ?_) (fun c9 h => ?_)
      · refine k_sub [0] rfl ?_
        exact k_X10_then_b38 C E T h
      · refine k_iload (pc := 28) C dX10_then_28 4 rfl ?_
        refine k_iconst (pc := 30) (v := (0 : Int32)) C dX10_then_30 ciconst_0 ?_
        refine k_iconst (pc := 31) (v := (1 : Int32)) C dX10_then_31 ciconst_1 ?_
        obtain ⟨z4, e4, h⟩ := bnd h
        refine k_callsI (pc := 32) C lk_X10_69 (by decide) (kc_X10_within e4) dX10_then_32 rfl rfl (Nat.le_of_ble_eq_true rfl) ?_
        refine k_if_ne (pc := 35) C 45 dX10_then_35 (by decide) h (fun c8 h => ?_) (fun c8 h => ?_)
        · refine k_aload_n (pc := 45) C dX10_then_45 0 rfl ?_
          refine gf_X10_12 (pc := 46) C dX10_then_46 ?_
          refine k_iload_n (pc := 49) C dX10_then_49 1 rfl ?_
          obtain ⟨z5, e5, h⟩ := bnd h
          have hz5 := kr_X4_kindOf lt4_0 e5
          refine k_callvA (pc := 50) C lk_X10_153 (by decide) (ix_X4 lt4_0) (wo_X4 lt4_0) rfl rfl (kc_X4_kindOf lt4_0 e5) dX10_then_50 rfl rfl (Nat.le_of_ble_eq_true rfl) ?_
          refine k_astore (pc := 53) C [(5, .ref (B.1 z5.1 z5.2)), (0, .ref (B.1 4 0)), (1, .int x1), (2, .int x2), (3, .int x3), (4, .int x4)] dX10_then_53 (by decide) rfl ?_
          refine k_aload_n (pc := 55) C dX10_then_55 1 rfl ?_
          refine gf_X10_12 (pc := 56) C dX10_then_56 ?_
          refine gf_X10_147 (pc := 59) C lt4_0 dX10_then_59 ?_
          refine k_iload_n (pc := 62) C dX10_then_62 2 rfl ?_
          refine k_iald (pc := 63) C (ia_R3 lt4_0) dX10_then_63 h (fun h => ?_)
          refine k_nI h (fun y6 h => ?_)
          refine k_istore (pc := 64) C [(6, .int y6), (5, .ref (B.1 z5.1 z5.2)), (0, .ref (B.1 4 0)), (1, .int x1), (2, .int x2), (3, .int x3), (4, .int x4)] dX10_then_64 (by decide) rfl ?_
          refine k_aload_n (pc := 66) C dX10_then_66 2 rfl ?_
          refine gf_X10_12 (pc := 67) C dX10_then_67 ?_
          refine gf_X10_150 (pc := 70) C lt4_0 dX10_then_70 ?_
          refine k_iload_n (pc := 73) C dX10_then_73 3 rfl ?_
          refine k_iald (pc := 74) C (ia_R4 lt4_0) dX10_then_74 h (fun h => ?_)
          refine k_nI h (fun y7 h => ?_)
          refine k_istore (pc := 75) C [(7, .int y7), (6, .int y6), (5, .ref (B.1 z5.1 z5.2)), (0, .ref (B.1 4 0)), (1, .int x1), (2, .int x2), (3, .int x3), (4, .int x4)] dX10_then_75 (by decide) rfl ?_
          refine k_iconst (pc := 77) (v := (0 : Int32)) C dX10_then_77 ciconst_0 ?_
          refine k_istore (pc := 78) C [(8, .int (0 : Int32)), (7, .int y7), (6, .int y6), (5, .ref (B.1 z5.1 z5.2)), (0, .ref (B.1 4 0)), (1, .int x1), (2, .int x2), (3, .int x3), (4, .int x4)] dX10_then_78 (by decide) rfl ?_
          refine k_sub [4, 6, 7, 8, 3, 2, 1, 0] rfl ?_
          exact k_X10_then_l80 C E FU T x2 x3 x4 z5 y6 y7 (0 : Int32) hz5 h
        · refine k_sub [0] rfl ?_
          exact k_X10_then_b38 C E T h
