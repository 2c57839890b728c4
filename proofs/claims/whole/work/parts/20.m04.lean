def m_X9_valueOfRun_h7 (T : TT) (rec7 : Int32 → Int32 → Option (Int32)) (x1 : Int32) (x2 : Int32) : Option (Int32) := if (T.2.1 5 8) ≤ x2 then (some x1) else (if ((T.2.1 5 2) + (2 : Int32)) ≤ x2 then (some x1) else (if inb x2 150 then (bT ((((10 : Int32) * x1) + (T.1 5 1 (Int32.toNatClampNeg x2))) - (48 : Int32)) (fun y2 => bT (x2 + (1 : Int32)) (fun y3 => rec7 y2 y3))) else none))
def m_X9_valueOfRun_l7 (T : TT) : Nat → Int32 → Int32 → Option (Int32)
  | 0 => fun _ _ => none
  | n + 1 => fun x1 x2 => m_X9_valueOfRun_h7 T (m_X9_valueOfRun_l7 T n) x1 x2
def m_X9_valueOfRun (T : TT) : Option (Int32) := bT (T.2.1 5 2) (fun y1 => m_X9_valueOfRun_l7 T FU (0 : Int32) y1)
set_option maxHeartbeats 4000000 in
set_option maxRecDepth 100000 in
theorem k_X9_valueOfRun_h7 {B : KB} {X : KE} {T : TT} {rec7 : Int32 → Int32 → Option (Int32)} {res : Int32} (C : Cx B X "GriefEngine$Text" cX9_valueOfRun 3 1) (E : Cr B X (some .int) (some (.int res)) T) (hrec7 : ∀ (x1 : Int32) (x2 : Int32), rec7 x1 x2 = some res → Wk B X 3 T 7 [(0, .ref (B.1 5 0)), (1, .int x1), (2, .int x2)] []) (x1 : Int32) (x2 : Int32) (h : m_X9_valueOfRun_h7 T rec7 x1 x2 = some res) : Wk B X 3 T 7 [(0, .ref (B.1 5 0)), (1, .int x1), (2, .int x2)] [] := by
  unfold m_X9_valueOfRun_h7 at h
  refine k_iload_n (pc := 7) C dX9_valueOfRun_7 2 rfl ?_
  refine k_aload_n (pc := 8) C dX9_valueOfRun_8 0 rfl ?_
  refine gf_X9_19 (pc := 9) C dX9_valueOfRun_9 ?_
  refine k_icmp_ge (pc := 12) C 46 dX9_valueOfRun_12 (by decide) h (fun c5 h => ?_) (fun c5 h => ?_)
  · refine k_iload_n (pc := 46) C dX9_valueOfRun_46 1 rfl ?_
    exact k_iret (pc := 47) C E (some_i h) rfl dX9_valueOfRun_47
  · refine k_iload_n (pc := 15) C dX9_valueOfRun_15 2 rfl ?_
    refine k_aload_n (pc := 16) C dX9_valueOfRun_16 0 rfl ?_
    refine gf_X9_66 (pc := 17) C dX9_valueOfRun_17 ?_
    refine k_iconst (pc := 20) (v := (2 : Int32)) C dX9_valueOfRun_20 ciconst_2 ?_
    refine k_iadd (pc := 21) C dX9_valueOfRun_21 ?_
    refine k_icmp_ge (pc := 22) C 46 dX9_valueOfRun_22 (by decide) h (fun c4 h => ?_) (fun c4 h => ?_)
    · refine k_iload_n (pc := 46) C dX9_valueOfRun_46 1 rfl ?_
      exact k_iret (pc := 47) C E (some_i h) rfl dX9_valueOfRun_47
    · refine k_bipush (pc := 25) (v := (10 : Int32)) C dX9_valueOfRun_25 cbipush_10 ?_
      refine k_iload_n (pc := 27) C dX9_valueOfRun_27 1 rfl ?_
      refine k_imul (pc := 28) C dX9_valueOfRun_28 ?_
      refine k_aload_n (pc := 29) C dX9_valueOfRun_29 0 rfl ?_
      refine gf_X9_9 (pc := 30) C dX9_valueOfRun_30 ?_
      refine k_iload_n (pc := 33) C dX9_valueOfRun_33 2 rfl ?_
      refine k_bald (pc := 34) C ia_5_1 dX9_valueOfRun_34 h (fun h => ?_)
      refine k_iadd (pc := 35) C dX9_valueOfRun_35 ?_
      refine k_bipush (pc := 36) (v := (48 : Int32)) C dX9_valueOfRun_36 cbipush_48 ?_
      refine k_isub (pc := 38) C dX9_valueOfRun_38 ?_
      refine k_nI h (fun y2 h => ?_)
      refine k_istore_n (pc := 39) C [(1, .int y2), (0, .ref (B.1 5 0)), (2, .int x2)] dX9_valueOfRun_39 (by decide) rfl ?_
      refine k_iincN (pc := 40) (x := x2) (c := (1 : Int32)) C (fun y3 => [(2, .int y3), (1, .int y2), (0, .ref (B.1 5 0))]) dX9_valueOfRun_40 2 rfl ciconst_1 (by decide) (fun _ => rfl) h (fun y3 h => ?_)
      refine k_goto (pc := 43) C 7 dX9_valueOfRun_43 (by decide) ?_
      refine k_sub [2, 1, 0] rfl ?_
      exact hrec7 y2 y3 h
set_option maxHeartbeats 4000000 in
set_option maxRecDepth 100000 in
theorem k_X9_valueOfRun_l7 {B : KB} {X : KE} {T : TT} {res : Int32} (C : Cx B X "GriefEngine$Text" cX9_valueOfRun 3 1) (E : Cr B X (some .int) (some (.int res)) T) : ∀ (n : Nat) (x1 : Int32) (x2 : Int32) (h : m_X9_valueOfRun_l7 T n x1 x2 = some res), Wk B X 3 T 7 [(0, .ref (B.1 5 0)), (1, .int x1), (2, .int x2)] [] := by
  intro n
  induction n with
  | zero =>
    intro x1 x2 h
    exact no_some h
  | succ n ih =>
    intro x1 x2 h
    exact k_X9_valueOfRun_h7 C E (fun x1 x2 h => ih x1 x2 h) x1 x2 h
set_option maxHeartbeats 4000000 in
set_option maxRecDepth 100000 in
theorem kc_X9_valueOfRun {B : KB} {l : Launch} {T : TT} {res : Int32} (h : m_X9_valueOfRun T = some res) : Kt B l 1 yX9_valueOfRun cX9_valueOfRun 3 (some .int) T [.ref (B.1 5 0)] (some (.int res)) T := by
  refine Kt.of (by decide) (Nat.le_of_ble_eq_true rfl) (fun X hX C E => ?_)
  subst hX
  have C : Cx B X "GriefEngine$Text" cX9_valueOfRun 3 1 := C
  show Wk B X 3 T 0 [(0, .ref (B.1 5 0))] []
  unfold m_X9_valueOfRun at h
  refine k_iconst (pc := 0) (v := (0 : Int32)) C dX9_valueOfRun_0 ciconst_0 ?_
  refine k_istore_n (pc := 1) C [(1, .int (0 : Int32)), (0, .ref (B.1 5 0))] dX9_valueOfRun_1 (by decide) rfl ?_
  refine k_aload_n (pc := 2) C dX9_valueOfRun_2 1 rfl ?_
  refine gf_X9_66 (pc := 3) C dX9_valueOfRun_3 ?_
  refine k_nI h (fun y1 h => ?_)
  refine k_istore_n (pc := 6) C [(2, .int y1), (1, .int (0 : Int32)), (0, .ref (B.1 5 0))] dX9_valueOfRun_6 (by decide) rfl ?_
  refine k_sub [2, 1, 0] rfl ?_
  exact k_X9_valueOfRun_l7 C E FU (0 : Int32) y1 h
def m_X9_advance_b166 (T : TT) (s1 : Int32) : Option (TT) := bT (sI T 5 7 s1) (fun T20 => bT (sI T20 5 8 ((T20.2.1 5 2) + (1 : Int32))) (fun T21 => some T21))
def m_X9_advance_b132 (T : TT) (s1 : Int32) : Option (TT) := bT (sI T 5 7 s1) (fun T17 => (m_X9_valueOfRun T17).bind (fun z18 => bT (sI T17 5 9 z18) (fun T19 => some T19)))
def m_X9_advance (T : TT) : Option (TT) := (m_X9_runEnd T (T.2.1 5 8) (32 : Int32) (32 : Int32)).bind (fun z1 => bT (sI T 5 2 z1) (fun T2 => bT (sI T2 5 8 (T2.2.1 5 2)) (fun T3 => if (T3.2.1 5 2) < (T3.2.1 5 1) then ((m_X9_isBetween T3 (T3.2.1 5 2) (97 : Int32) (122 : Int32)).bind (fun z4 => if z4 = 0 then ((m_X9_isBetween T3 (T3.2.1 5 2) (48 : Int32) (57 : Int32)).bind (fun z5 => if z5 = 0 then (if inb (T3.2.1 5 2) 150 then (if (T3.1 5 1 (Int32.toNatClampNeg (T3.2.1 5 2))) = (59 : Int32) then (m_X9_advance_b166 T3 (3 : Int32)) else (m_X9_advance_b166 T3 (4 : Int32))) else none) else ((m_X9_runEnd T3 (T3.2.1 5 2) (48 : Int32) (57 : Int32)).bind (fun z7 => bT (sI T3 5 8 z7) (fun T8 => if (2 : Int32) < ((T8.2.1 5 8) - (T8.2.1 5 2)) then (m_X9_advance_b132 T8 (4 : Int32)) else (m_X9_advance_b132 T8 (2 : Int32))))))) else (bT (sI T3 5 7 (1 : Int32)) (fun T11 => (m_X9_runEnd T11 (T11.2.1 5 2) (97 : Int32) (122 : Int32)).bind (fun z12 => bT (sI T11 5 8 z12) (fun T13 => some T13)))))) else (bT (sI T3 5 7 (0 : Int32)) (fun T15 => some T15)))))
set_option maxHeartbeats 4000000 in
set_option maxRecDepth 100000 in
theorem k_X9_advance_b166 {B : KB} {X : KE} {res : TT} (C : Cx B X "GriefEngine$Text" cX9_advance 1 3) (E : Cr B X none none res) (T : TT) (s1 : Int32) (h : m_X9_advance_b166 T s1 = some res) : Wk B X 1 T 166 [(0, .ref (B.1 5 0))] [.int s1, .ref (B.1 5 0)] := by
  unfold m_X9_advance_b166 at h
  refine pf_X9_39 (pc := 166) C dX9_advance_166 ?_
  refine k_nT h (fun T20 h => ?_)
  refine k_aload_n (pc := 169) C dX9_advance_169 0 rfl ?_
  refine k_aload_n (pc := 170) C dX9_advance_170 0 rfl ?_
  refine gf_X9_66 (pc := 171) C dX9_advance_171 ?_
  refine k_iconst (pc := 174) (v := (1 : Int32)) C dX9_advance_174 ciconst_1 ?_
  refine k_iadd (pc := 175) C dX9_advance_175 ?_
  refine pf_X9_19 (pc := 176) C dX9_advance_176 ?_
  refine k_nT h (fun T21 h => ?_)
  exact k_vret (pc := 179) C E (some_i h) dX9_advance_179
set_option maxHeartbeats 4000000 in
set_option maxRecDepth 100000 in
theorem k_X9_advance_b132 {B : KB} {X : KE} {res : TT} (C : Cx B X "GriefEngine$Text" cX9_advance 1 3) (E : Cr B X none none res) (T : TT) (s1 : Int32) (h : m_X9_advance_b132 T s1 = some res) : Wk B X 1 T 132 [(0, .ref (B.1 5 0))] [.int s1, .ref (B.1 5 0)] := by
  unfold m_X9_advance_b132 at h
  refine pf_X9_39 (pc := 132) C dX9_advance_132 ?_
  refine k_nT h (fun T17 h => ?_)
  refine k_aload_n (pc := 135) C dX9_advance_135 0 rfl ?_
  refine k_aload_n (pc := 136) C dX9_advance_136 0 rfl ?_
  obtain ⟨z18, e18, h⟩ := bnd h
  refine k_callvI (pc := 137) C lk_X9_73 (by decide) ix_X9 wo_X9 rfl rfl (kc_X9_valueOfRun e18) dX9_advance_137 rfl rfl (Nat.le_of_ble_eq_true rfl) ?_
  refine pf_X9_53 (pc := 140) C dX9_advance_140 ?_
  refine k_nT h (fun T19 h => ?_)
  refine k_goto (pc := 143) C 179 dX9_advance_143 (by decide) ?_
  exact k_vret (pc := 179) C E (some_i h) dX9_advance_179
set_option maxHeartbeats 4000000 in
set_option maxRecDepth 100000 in
theorem kc_X9_advance {B : KB} {l : Launch} {T : TT} {res : TT} (h : m_X9_advance T = some res) : Kt B l 3 yX9_advance cX9_advance 1 none T [.ref (B.1 5 0)] none res := by
  refine Kt.of (by decide) (Nat.le_of_ble_eq_true rfl) (fun X hX C E => ?_)
  subst hX
  have C : Cx B X "GriefEngine$Text" cX9_advance 1 3 := C
  show Wk B X 1 T 0 [(0, .ref (B.1 5 0))] []
  unfold m_X9_advance at h
  refine k_aload_n (pc := 0) C dX9_advance_0 0 rfl ?_
  refine k_aload_n (pc := 1) C dX9_advance_1 0 rfl ?_
  refine k_aload_n (pc := 2) C dX9_advance_2 0 rfl ?_
  refine gf_X9_19 (pc := 3) C dX9_advance_3 ?_
  refine k_bipush (pc := 6) (v := (32 : Int32)) C dX9_advance_6 cbipush_32 ?_
  refine k_bipush (pc := 8) (v := (32 : Int32)) C dX9_advance_8 cbipush_32 ?_
  obtain ⟨z1, e1, h⟩ := bnd h
  refine k_callvI (pc := 10) C lk_X9_62 (by decide) ix_X9 wo_X9 rfl rfl (kc_X9_runEnd e1) dX9_advance_10 rfl rfl (Nat.le_of_ble_eq_true rfl) ?_
  refine pf_X9_66 (pc := 13) C dX9_advance_13 ?_
  refine k_nT h (fun T2 h => ?_)
  refine k_aload_n (pc := 16) C dX9_advance_16 0 rfl ?_
  refine k_aload_n (pc := 17) C dX9_advance_17 0 rfl ?_
  refine gf_X9_66 (pc := 18) C dX9_advance_18 ?_
  refine pf_X9_19 (pc := 21) C dX9_advance_21 ?_
  refine k_nT h (fun T3 h => ?_)
  refine k_aload_n (pc := 24) C dX9_advance_24 0 rfl ?_
  refine gf_X9_66 (pc := 25) C dX9_advance_25 ?_
  refine k_aload_n (pc := 28) C dX9_advance_28 0 rfl ?_
  refine gf_X9_15 (pc := 29) C dX9_advance_29 ?_
  refine k_icmp_lt (pc := 32) C 43 dX9_advance_32 (by decide) h (fun c16 h => ?_) (fun c16 h => ?_)
  · refine k_aload_n (pc := 43) C dX9_advance_43 0 rfl ?_
    refine k_aload_n (pc := 44) C dX9_advance_44 0 rfl ?_
    refine gf_X9_66 (pc := 45) C dX9_advance_45 ?_
    refine k_bipush (pc := 48) (v := (97 : Int32)) C dX9_advance_48 cbipush_97 ?_
    refine k_bipush (pc := 50) (v := (122 : Int32)) C dX9_advance_50 cbipush_122 ?_
    obtain ⟨z4, e4, h⟩ := bnd h
    refine k_callvI (pc := 52) C lk_X9_69 (by decide) ix_X9 wo_X9 rfl rfl (kc_X9_isBetween e4) dX9_advance_52 rfl rfl (Nat.le_of_ble_eq_true rfl) ?_
    refine k_if_eq (pc := 55) C 82 dX9_advance_55 (by decide) h (fun c14 h => ?_) (fun c14 h => ?_)
    · refine k_aload_n (pc := 82) C dX9_advance_82 0 rfl ?_
      refine k_aload_n (pc := 83) C dX9_advance_83 0 rfl ?_
      refine gf_X9_66 (pc := 84) C dX9_advance_84 ?_
      refine k_bipush (pc := 87) (v := (48 : Int32)) C dX9_advance_87 cbipush_48 ?_
      refine k_bipush (pc := 89) (v := (57 : Int32)) C dX9_advance_89 cbipush_57 ?_
      obtain ⟨z5, e5, h⟩ := bnd h
      refine k_callvI (pc := 91) C lk_X9_69 (by decide) ix_X9 wo_X9 rfl rfl (kc_X9_isBetween e5) dX9_advance_91 rfl rfl (Nat.le_of_ble_eq_true rfl) ?_
      refine k_if_eq (pc := 94) C 146 dX9_advance_94 (by decide) h (fun c10 h => ?_) (fun c10 h => ?_)
      · refine k_aload_n (pc := 146) C dX9_advance_146 0 rfl ?_
        refine k_aload_n (pc := 147) C dX9_advance_147 0 rfl ?_
        refine gf_X9_9 (pc := 148) C dX9_advance_148 ?_
        refine k_aload_n (pc := 151) C dX9_advance_151 0 rfl ?_
        refine gf_X9_66 (pc := 152) C dX9_advance_152 ?_
        refine k_bald (pc := 155) C ia_5_1 dX9_advance_155 h (fun h => ?_)
        refine k_bipush (pc := 156) (v := (59 : Int32)) C dX9_advance_156 cbipush_59 ?_
        refine k_icmp_ne (pc := 158) C 165 dX9_advance_158 (by decide) h (fun c6 h => ?_) (fun c6 h => ?_)
        · refine k_iconst (pc := 165) (v := (4 : Int32)) C dX9_advance_165 ciconst_4 ?_
          refine k_sub [0] rfl ?_
          exact k_X9_advance_b166 C E T3 (4 : Int32) h
        · refine k_iconst (pc := 161) (v := (3 : Int32)) C dX9_advance_161 ciconst_3 ?_
          refine k_goto (pc := 162) C 166 dX9_advance_162 (by decide) ?_
          refine k_sub [0] rfl ?_
          exact k_X9_advance_b166 C E T3 (3 : Int32) h
      · refine k_aload_n (pc := 97) C dX9_advance_97 0 rfl ?_
        refine k_aload_n (pc := 98) C dX9_advance_98 0 rfl ?_
        refine k_aload_n (pc := 99) C dX9_advance_99 0 rfl ?_
        refine gf_X9_66 (pc := 100) C dX9_advance_100 ?_
        refine k_bipush (pc := 103) (v := (48 : Int32)) C dX9_advance_103 cbipush_48 ?_
        refine k_bipush (pc := 105) (v := (57 : Int32)) C dX9_advance_105 cbipush_57 ?_
        obtain ⟨z7, e7, h⟩ := bnd h
        refine k_callvI (pc := 107) C lk_X9_62 (by decide) ix_X9 wo_X9 rfl rfl (kc_X9_runEnd e7) dX9_advance_107 rfl rfl (Nat.le_of_ble_eq_true rfl) ?_
        refine pf_X9_19 (pc := 110) C dX9_advance_110 ?_
        refine k_nT h (fun T8 h => ?_)
        refine k_aload_n (pc := 113) C dX9_advance_113 0 rfl ?_
        refine k_aload_n (pc := 114) C dX9_advance_114 0 rfl ?_
        refine gf_X9_19 (pc := 115) C dX9_advance_115 ?_
        refine k_aload_n (pc := 118) C dX9_advance_118 0 rfl ?_
        refine gf_X9_66 (pc := 119) C dX9_advance_119 ?_
        refine k_isub (pc := 122) C dX9_advance_122 ?_
        refine k_iconst (pc := 123) (v := (2 : Int32)) C dX9_advance_123 ciconst_2 ?_
        refine k_icmp_gt (pc := 124) C 131 dX9_advance_124 (by decide) h (fun c9 h => ?_) (fun c9 h => ?_)
        · refine k_iconst (pc := 131) (v := (4 : Int32)) C dX9_advance_131 ciconst_4 ?_
          refine k_sub [0] rfl ?_
          exact k_X9_advance_b132 C E T8 (4 : Int32) h
        · refine k_iconst (pc := 127) (v := (2 : Int32)) C dX9_advance_127 ciconst_2 ?_
          refine k_goto (pc := 128) C 132 dX9_advance_128 (by decide) ?_
          refine k_sub [0] rfl ?_
          exact k_X9_advance_b132 C E T8 (2 : Int32) h
    · refine k_aload_n (pc := 58) C dX9_advance_58 0 rfl ?_
      refine k_iconst (pc := 59) (v := (1 : Int32)) C dX9_advance_59 ciconst_1 ?_
      refine pf_X9_39 (pc := 60) C dX9_advance_60 ?_
      refine k_nT h (fun T11 h => ?_)
      refine k_aload_n (pc := 63) C dX9_advance_63 0 rfl ?_
      refine k_aload_n (pc := 64) C dX9_advance_64 0 rfl ?_
      refine k_aload_n (pc := 65) C dX9_advance_65 0 rfl ?_
      refine gf_X9_66 (pc := 66) C dX9_advance_66 ?_
      refine k_bipush (pc := 69) (v := (97 : Int32)) C dX9_advance_69 cbipush_97 ?_
      refine k_bipush (pc := 71) (v := (122 : Int32)) C dX9_advance_71 cbipush_122 ?_
      obtain ⟨z12, e12, h⟩ := bnd h
      refine k_callvI (pc := 73) C lk_X9_62 (by decide) ix_X9 wo_X9 rfl rfl (kc_X9_runEnd e12) dX9_advance_73 rfl rfl (Nat.le_of_ble_eq_true rfl) ?_
      refine pf_X9_19 (pc := 76) C dX9_advance_76 ?_
      refine k_nT h (fun T13 h => ?_)
      refine k_goto (pc := 79) C 179 dX9_advance_79 (by decide) ?_
      exact k_vret (pc := 179) C E (some_i h) dX9_advance_179
  · refine k_aload_n (pc := 35) C dX9_advance_35 0 rfl ?_
    refine k_iconst (pc := 36) (v := (0 : Int32)) C dX9_advance_36 ciconst_0 ?_
    refine pf_X9_39 (pc := 37) C dX9_advance_37 ?_
    refine k_nT h (fun T15 h => ?_)
    refine k_goto (pc := 40) C 179 dX9_advance_40 (by decide) ?_
    exact k_vret (pc := 179) C E (some_i h) dX9_advance_179
def m_X9_isWord_h28 (T : TT) (w : Nat) (rec28 : Int32 → Option (Int32)) (x2 : Int32) : Option (Int32) := if (slen w) ≤ x2 then (some (1 : Int32)) else (if inb ((T.2.1 5 2) + x2) 150 then (if inb x2 (slenN w) then (if (T.1 5 1 (Int32.toNatClampNeg ((T.2.1 5 2) + x2))) = (sch w x2) then (bT (x2 + (1 : Int32)) (fun y3 => rec28 y3)) else (some (0 : Int32))) else none) else none)
def m_X9_isWord_l28 (T : TT) (w : Nat) : Nat → Int32 → Option (Int32)
  | 0 => fun _ => none
  | n + 1 => fun x2 => m_X9_isWord_h28 T w (m_X9_isWord_l28 T w n) x2
def m_X9_isWord (T : TT) (w : Nat) : Option (Int32) := if (T.2.1 5 7) = (1 : Int32) then (if ((T.2.1 5 8) - (T.2.1 5 2)) = (slen w) then (m_X9_isWord_l28 T w FU (0 : Int32)) else (some (0 : Int32))) else (some (0 : Int32))
set_option maxHeartbeats 4000000 in
set_option maxRecDepth 100000 in
theorem k_X9_isWord_h28 {B : KB} {X : KE} {T : TT} {w : Nat} {rec28 : Int32 → Option (Int32)} {res : Int32} (C : Cx B X "GriefEngine$Text" cX9_isWord 3 5) (E : Cr B X (some .boolean) (some (.int res)) T) (hw : w < 3) (hrec28 : ∀ (x2 : Int32), rec28 x2 = some res → Wk B X 3 T 28 [(0, .ref (B.1 5 0)), (1, .ref (B.1 11 w)), (2, .int x2)] []) (x2 : Int32) (h : m_X9_isWord_h28 T w rec28 x2 = some res) : Wk B X 3 T 28 [(0, .ref (B.1 5 0)), (1, .ref (B.1 11 w)), (2, .int x2)] [] := by
  unfold m_X9_isWord_h28 at h
  refine k_iload_n (pc := 28) C dX9_isWord_28 2 rfl ?_
  refine k_aload_n (pc := 29) C dX9_isWord_29 1 rfl ?_
  refine k_callvS (pc := 30) C lk_X9_77 rfl (by decide) hw (kc_J0_length_8abf5 hw) dX9_isWord_30 rfl rfl (Nat.le_of_ble_eq_true rfl) ?_
  refine k_icmp_ge (pc := 33) C 63 dX9_isWord_33 (by decide) h (fun c6 h => ?_) (fun c6 h => ?_)
  · refine k_iconst (pc := 63) (v := (1 : Int32)) C dX9_isWord_63 ciconst_1 ?_
    exact k_zret (pc := 64) C E rfl (some_i h) rfl dX9_isWord_64
  · refine k_aload_n (pc := 36) C dX9_isWord_36 0 rfl ?_
    refine gf_X9_9 (pc := 37) C dX9_isWord_37 ?_
    refine k_aload_n (pc := 40) C dX9_isWord_40 0 rfl ?_
    refine gf_X9_66 (pc := 41) C dX9_isWord_41 ?_
    refine k_iload_n (pc := 44) C dX9_isWord_44 2 rfl ?_
    refine k_iadd (pc := 45) C dX9_isWord_45 ?_
    refine k_bald (pc := 46) C ia_5_1 dX9_isWord_46 h (fun h => ?_)
    refine k_aload_n (pc := 47) C dX9_isWord_47 1 rfl ?_
    refine k_iload_n (pc := 48) C dX9_isWord_48 2 rfl ?_
    by_cases ci5 : inb x2 (slenN w)
    · rw [if_pos ci5] at h
      refine k_callvS (pc := 49) C lk_X9_81 rfl (by decide) hw (kc_J0_charAt_5068e hw ci5) dX9_isWord_49 rfl rfl (Nat.le_of_ble_eq_true rfl) ?_
      refine k_icmp_eq (pc := 52) C 57 dX9_isWord_52 (by decide) h (fun c4 h => ?_) (fun c4 h => ?_)
      · refine k_iincN (pc := 57) (x := x2) (c := (1 : Int32)) C (fun y3 => [(2, .int y3), (0, .ref (B.1 5 0)), (1, .ref (B.1 11 w))]) dX9_isWord_57 2 rfl ciconst_1 (by decide) (fun _ => rfl) h (fun y3 h => ?_)
        refine k_goto (pc := 60) C 28 dX9_isWord_60 (by decide) ?_
        refine k_sub [1, 2, 0] rfl ?_
        exact hrec28 y3 h
      · refine k_iconst (pc := 55) (v := (0 : Int32)) C dX9_isWord_55 ciconst_0 ?_
        exact k_zret (pc := 56) C E rfl (some_i h) rfl dX9_isWord_56
    · rw [if_neg ci5] at h
      exact no_some h
set_option maxHeartbeats 4000000 in
set_option maxRecDepth 100000 in
theorem k_X9_isWord_l28 {B : KB} {X : KE} {T : TT} {w : Nat} {res : Int32} (C : Cx B X "GriefEngine$Text" cX9_isWord 3 5) (E : Cr B X (some .boolean) (some (.int res)) T) (hw : w < 3) : ∀ (n : Nat) (x2 : Int32) (h : m_X9_isWord_l28 T w n x2 = some res), Wk B X 3 T 28 [(0, .ref (B.1 5 0)), (1, .ref (B.1 11 w)), (2, .int x2)] [] := by
  intro n
  induction n with
  | zero =>
    intro x2 h
    exact no_some h
  | succ n ih =>
    intro x2 h
    exact k_X9_isWord_h28 C E hw (fun x2 h => ih x2 h) x2 h
set_option maxHeartbeats 4000000 in
set_option maxRecDepth 100000 in
theorem kc_X9_isWord {B : KB} {l : Launch} {T : TT} {w : Nat} {res : Int32} (hw : w < 3) (h : m_X9_isWord T w = some res) : Kt B l 5 yX9_isWord cX9_isWord 3 (some .boolean) T [.ref (B.1 5 0), .ref (B.1 11 w)] (some (.int res)) T := by
  refine Kt.of (by decide) (Nat.le_of_ble_eq_true rfl) (fun X hX C E => ?_)
  subst hX
  have C : Cx B X "GriefEngine$Text" cX9_isWord 3 5 := C
  show Wk B X 3 T 0 [(0, .ref (B.1 5 0)), (1, .ref (B.1 11 w))] []
  unfold m_X9_isWord at h
  refine k_aload_n (pc := 0) C dX9_isWord_0 0 rfl ?_
  refine gf_X9_39 (pc := 1) C dX9_isWord_1 ?_
  refine k_iconst (pc := 4) (v := (1 : Int32)) C dX9_isWord_4 ciconst_1 ?_
  refine k_icmp_ne (pc := 5) C 24 dX9_isWord_5 (by decide) h (fun c2 h => ?_) (fun c2 h => ?_)
  · refine k_iconst (pc := 24) (v := (0 : Int32)) C dX9_isWord_24 ciconst_0 ?_
    exact k_zret (pc := 25) C E rfl (some_i h) rfl dX9_isWord_25
  · refine k_aload_n (pc := 8) C dX9_isWord_8 0 rfl ?_
    refine gf_X9_19 (pc := 9) C dX9_isWord_9 ?_
    refine k_aload_n (pc := 12) C dX9_isWord_12 0 rfl ?_
    refine gf_X9_66 (pc := 13) C dX9_isWord_13 ?_
    refine k_isub (pc := 16) C dX9_isWord_16 ?_
    refine k_aload_n (pc := 17) C dX9_isWord_17 1 rfl ?_
    refine k_callvS (pc := 18) C lk_X9_77 rfl (by decide) hw (kc_J0_length_8abf5 hw) dX9_isWord_18 rfl rfl (Nat.le_of_ble_eq_true rfl) ?_
    refine k_icmp_eq (pc := 21) C 26 dX9_isWord_21 (by decide) h (fun c1 h => ?_) (fun c1 h => ?_)
    · refine k_iconst (pc := 26) (v := (0 : Int32)) C dX9_isWord_26 ciconst_0 ?_
      refine k_istore_n (pc := 27) C [(2, .int (0 : Int32)), (0, .ref (B.1 5 0)), (1, .ref (B.1 11 w))] dX9_isWord_27 (by decide) rfl ?_
      refine k_sub [1, 2, 0] rfl ?_
      exact k_X9_isWord_l28 C E hw FU (0 : Int32) h
    · refine k_iconst (pc := 24) (v := (0 : Int32)) C dX9_isWord_24 ciconst_0 ?_
      exact k_zret (pc := 25) C E rfl (some_i h) rfl dX9_isWord_25
def m_X9_takesStop (T : TT) : Option (Int32 × TT) := (m_X9_advance T).bind (fun z1 => if (z1.2.1 5 7) = (3 : Int32) then (some ((1 : Int32), z1)) else (some ((0 : Int32), z1)))
set_option maxHeartbeats 4000000 in
set_option maxRecDepth 100000 in
theorem kc_X9_takesStop {B : KB} {l : Launch} {T : TT} {res : Int32 × TT} (h : m_X9_takesStop T = some res) : Kt B l 4 yX9_takesStop cX9_takesStop 1 (some .boolean) T [.ref (B.1 5 0)] (some (.int res.1)) res.2 := by
  refine Kt.of (by decide) (Nat.le_of_ble_eq_true rfl) (fun X hX C E => ?_)
  subst hX
  have C : Cx B X "GriefEngine$Text" cX9_takesStop 1 4 := C
  show Wk B X 1 T 0 [(0, .ref (B.1 5 0))] []
  unfold m_X9_takesStop at h
  refine k_aload_n (pc := 0) C dX9_takesStop_0 0 rfl ?_
  obtain ⟨z1, e1, h⟩ := bnd h
  refine k_callvV (pc := 1) C lk_X9_26 (by decide) ix_X9 wo_X9 rfl rfl (kc_X9_advance e1) dX9_takesStop_1 rfl rfl (Nat.le_of_ble_eq_true rfl) ?_
  refine k_aload_n (pc := 4) C dX9_takesStop_4 0 rfl ?_
  refine gf_X9_39 (pc := 5) C dX9_takesStop_5 ?_
  refine k_iconst (pc := 8) (v := (3 : Int32)) C dX9_takesStop_8 ciconst_3 ?_
  refine k_icmp_ne (pc := 9) C 16 dX9_takesStop_9 (by decide) h (fun c2 h => ?_) (fun c2 h => ?_)
  · refine k_iconst (pc := 16) (v := (0 : Int32)) C dX9_takesStop_16 ciconst_0 ?_
    exact k_zret (pc := 17) C E rfl (some_1 h) (some_2 h) dX9_takesStop_17
  · refine k_iconst (pc := 12) (v := (1 : Int32)) C dX9_takesStop_12 ciconst_1 ?_
    refine k_goto (pc := 13) C 17 dX9_takesStop_13 (by decide) ?_
    exact k_zret (pc := 17) C E rfl (some_1 h) (some_2 h) dX9_takesStop_17
def m_X9_takesRank (T : TT) : Option (Int32 × TT) := bT (sI T 5 8 (0 : Int32)) (fun T1 => if (0 : Int32) = 0 ∨ (0 : Int32) = 1 then (bT (sI T1 5 3 (0 : Int32)) (fun T2 => (m_X9_advance T2).bind (fun z3 => (m_X9_isWord z3 0).bind (fun z4 => if z4 = 0 then (some ((0 : Int32), z3)) else ((m_X9_takesStop z3).bind (fun z5 => if z5.1 = 0 then (some ((0 : Int32), z5.2)) else (some ((1 : Int32), z5.2)))))))) else none)
set_option maxHeartbeats 4000000 in
set_option maxRecDepth 100000 in
theorem kc_X9_takesRank {B : KB} {l : Launch} {T : TT} {res : Int32 × TT} (h : m_X9_takesRank T = some res) : Kt B l 6 yX9_takesRank cX9_takesRank 1 (some .boolean) T [.ref (B.1 5 0)] (some (.int res.1)) res.2 := by
  refine Kt.of (by decide) (Nat.le_of_ble_eq_true rfl) (fun X hX C E => ?_)
  subst hX
  have C : Cx B X "GriefEngine$Text" cX9_takesRank 1 6 := C
  show Wk B X 1 T 0 [(0, .ref (B.1 5 0))] []
  unfold m_X9_takesRank at h
  refine k_aload_n (pc := 0) C dX9_takesRank_0 0 rfl ?_
  refine k_iconst (pc := 1) (v := (0 : Int32)) C dX9_takesRank_1 ciconst_0 ?_
  refine pf_X9_19 (pc := 2) C dX9_takesRank_2 ?_
  refine k_nT h (fun T1 h => ?_)
  refine k_aload_n (pc := 5) C dX9_takesRank_5 0 rfl ?_
  refine k_iconst (pc := 6) (v := (0 : Int32)) C dX9_takesRank_6 ciconst_0 ?_
  refine pf_X9_22 (pc := 7) C dX9_takesRank_7 h (fun h => ?_)
  refine k_nT h (fun T2 h => ?_)
  refine k_aload_n (pc := 10) C dX9_takesRank_10 0 rfl ?_
  obtain ⟨z3, e3, h⟩ := bnd h
  refine k_callvV (pc := 11) C lk_X9_26 (by decide) ix_X9 wo_X9 rfl rfl (kc_X9_advance e3) dX9_takesRank_11 rfl rfl (Nat.le_of_ble_eq_true rfl) ?_
  refine k_aload_n (pc := 14) C dX9_takesRank_14 0 rfl ?_
  refine k_sldc (pc := 15) (w := 0) C C.2.2.2.2.2.1.2.2.2.2.2.2.2.1 dX9_takesRank_15 ?_
  obtain ⟨z4, e4, h⟩ := bnd h
  refine k_callvI (pc := 17) C lk_X9_31 (by decide) ix_X9 wo_X9 rfl rfl (kc_X9_isWord (by decide) e4) dX9_takesRank_17 rfl rfl (Nat.le_of_ble_eq_true rfl) ?_
  refine k_if_eq (pc := 20) C 34 dX9_takesRank_20 (by decide) h (fun c7 h => ?_) (fun c7 h => ?_)
  · refine k_iconst (pc := 34) (v := (0 : Int32)) C dX9_takesRank_34 ciconst_0 ?_
    exact k_zret (pc := 35) C E rfl (some_1 h) (some_2 h) dX9_takesRank_35
  · refine k_aload_n (pc := 23) C dX9_takesRank_23 0 rfl ?_
    obtain ⟨z5, e5, h⟩ := bnd h
    refine k_callvI (pc := 24) C lk_X9_35 (by decide) ix_X9 wo_X9 rfl rfl (kc_X9_takesStop e5) dX9_takesRank_24 rfl rfl (Nat.le_of_ble_eq_true rfl) ?_
    refine k_if_eq (pc := 27) C 34 dX9_takesRank_27 (by decide) h (fun c6 h => ?_) (fun c6 h => ?_)
    · refine k_iconst (pc := 34) (v := (0 : Int32)) C dX9_takesRank_34 ciconst_0 ?_
      exact k_zret (pc := 35) C E rfl (some_1 h) (some_2 h) dX9_takesRank_35
    · refine k_iconst (pc := 30) (v := (1 : Int32)) C dX9_takesRank_30 ciconst_1 ?_
      refine k_goto (pc := 31) C 35 dX9_takesRank_31 (by decide) ?_
      exact k_zret (pc := 35) C E rfl (some_1 h) (some_2 h) dX9_takesRank_35
def m_X9_takesNumber (T : TT) (x1 : Int32) (x2 : Int32) : Option (Int32 × TT) := (m_X9_advance T).bind (fun z1 => if (z1.2.1 5 7) = (2 : Int32) then (if (z1.2.1 5 9) < x1 then (some ((0 : Int32), z1)) else (if x2 < (z1.2.1 5 9) then (some ((0 : Int32), z1)) else (some ((1 : Int32), z1)))) else (some ((0 : Int32), z1)))
set_option maxHeartbeats 4000000 in
set_option maxRecDepth 100000 in
theorem kc_X9_takesNumber {B : KB} {l : Launch} {T : TT} {x1 : Int32} {x2 : Int32} {res : Int32 × TT} (h : m_X9_takesNumber T x1 x2 = some res) : Kt B l 4 yX9_takesNumber cX9_takesNumber 3 (some .boolean) T [.ref (B.1 5 0), .int x1, .int x2] (some (.int res.1)) res.2 := by
  refine Kt.of (by decide) (Nat.le_of_ble_eq_true rfl) (fun X hX C E => ?_)
  subst hX
  have C : Cx B X "GriefEngine$Text" cX9_takesNumber 3 4 := C
  show Wk B X 3 T 0 [(0, .ref (B.1 5 0)), (1, .int x1), (2, .int x2)] []
  unfold m_X9_takesNumber at h
  refine k_aload_n (pc := 0) C dX9_takesNumber_0 0 rfl ?_
  obtain ⟨z1, e1, h⟩ := bnd h
  refine k_callvV (pc := 1) C lk_X9_26 (by decide) ix_X9 wo_X9 rfl rfl (kc_X9_advance e1) dX9_takesNumber_1 rfl rfl (Nat.le_of_ble_eq_true rfl) ?_
  refine k_aload_n (pc := 4) C dX9_takesNumber_4 0 rfl ?_
  refine gf_X9_39 (pc := 5) C dX9_takesNumber_5 ?_
  refine k_iconst (pc := 8) (v := (2 : Int32)) C dX9_takesNumber_8 ciconst_2 ?_
  refine k_icmp_ne (pc := 9) C 32 dX9_takesNumber_9 (by decide) h (fun c4 h => ?_) (fun c4 h => ?_)
  · refine k_iconst (pc := 32) (v := (0 : Int32)) C dX9_takesNumber_32 ciconst_0 ?_
    exact k_zret (pc := 33) C E rfl (some_1 h) (some_2 h) dX9_takesNumber_33
  · refine k_aload_n (pc := 12) C dX9_takesNumber_12 0 rfl ?_
    refine gf_X9_53 (pc := 13) C dX9_takesNumber_13 ?_
    refine k_iload_n (pc := 16) C dX9_takesNumber_16 1 rfl ?_
    refine k_icmp_lt (pc := 17) C 32 dX9_takesNumber_17 (by decide) h (fun c3 h => ?_) (fun c3 h => ?_)
    · refine k_iconst (pc := 32) (v := (0 : Int32)) C dX9_takesNumber_32 ciconst_0 ?_
      exact k_zret (pc := 33) C E rfl (some_1 h) (some_2 h) dX9_takesNumber_33
    · refine k_aload_n (pc := 20) C dX9_takesNumber_20 0 rfl ?_
      refine gf_X9_53 (pc := 21) C dX9_takesNumber_21 ?_
      refine k_iload_n (pc := 24) C dX9_takesNumber_24 2 rfl ?_
      refine k_icmp_gt (pc := 25) C 32 dX9_takesNumber_25 (by decide) h (fun c2 h => ?_) (fun c2 h => ?_)
      · refine k_iconst (pc := 32) (v := (0 : Int32)) C dX9_takesNumber_32 ciconst_0 ?_
        exact k_zret (pc := 33) C E rfl (some_1 h) (some_2 h) dX9_takesNumber_33
      · refine k_iconst (pc := 28) (v := (1 : Int32)) C dX9_takesNumber_28 ciconst_1 ?_
        refine k_goto (pc := 29) C 33 dX9_takesNumber_29 (by decide) ?_
        exact k_zret (pc := 33) C E rfl (some_1 h) (some_2 h) dX9_takesNumber_33
def m_X9_takesItem_b109 (T : TT) (s1 : Int32) (s2 : Int32) : Option (Int32 × TT) := (m_X9_takesNumber T s1 s2).bind (fun z17 => if z17.1 = 0 then (some ((0 : Int32), z17.2)) else (bT (sI z17.2 5 6 (z17.2.2.1 5 9)) (fun T18 => (m_X9_takesStop T18).bind (fun z19 => if z19.1 = 0 ∨ z19.1 = 1 then some (z19.1, z19.2) else none))))
def m_X9_takesItem_b86 (T : TT) : Option (Int32 × TT) := bT (sI T 5 5 (T.2.1 5 9)) (fun T15 => if (T15.2.1 5 4) = 0 then (m_X9_takesItem_b109 T15 (0 : Int32) (2 : Int32)) else (m_X9_takesItem_b109 T15 (0 : Int32) (99 : Int32)))
def m_X9_takesItem_b55 (T : TT) : Option (Int32 × TT) := if (T.2.1 5 4) = 0 then ((m_X9_takesNumber T (1 : Int32) (99 : Int32)).bind (fun z10 => if z10.1 = 0 then (some ((0 : Int32), z10.2)) else (m_X9_takesItem_b86 z10.2))) else ((m_X9_takesNumber T (0 : Int32) (5 : Int32)).bind (fun z12 => if z12.1 = 0 then (some ((0 : Int32), z12.2)) else (m_X9_takesItem_b86 z12.2)))
def m_X9_takesItem_b17 (T : TT) (x1 : Int32) (s1 : Int32) : Option (Int32 × TT) := if s1 = 0 ∨ s1 = 1 then (bT (sI T 5 3 s1) (fun T3 => (m_X9_isWord T3 1).bind (fun z4 => if z4 = 0 ∨ z4 = 1 then (bT (sI T3 5 4 z4) (fun T5 => if (T5.2.1 5 4) = 0 then ((m_X9_isWord T5 2).bind (fun z6 => if z6 = 0 then (some ((0 : Int32), T5)) else (m_X9_takesItem_b55 T5))) else (if x1 = 0 then (m_X9_takesItem_b55 T5) else (some ((0 : Int32), T5))))) else none))) else none
def m_X9_takesItem (T : TT) (x1 : Int32) : Option (Int32 × TT) := (m_X9_advance T).bind (fun z1 => if (z1.2.1 5 7) = 0 then (m_X9_takesItem_b17 z1 x1 (1 : Int32)) else (m_X9_takesItem_b17 z1 x1 (0 : Int32)))
set_option maxHeartbeats 4000000 in
set_option maxRecDepth 100000 in
theorem k_X9_takesItem_b109 {B : KB} {X : KE} {res : Int32 × TT} (C : Cx B X "GriefEngine$Text" cX9_takesItem 2 6) (E : Cr B X (some .boolean) (some (.int res.1)) res.2) (T : TT) (s1 : Int32) (s2 : Int32) (h : m_X9_takesItem_b109 T s1 s2 = some res) : Wk B X 2 T 109 [(0, .ref (B.1 5 0))] [.int s2, .int s1, .ref (B.1 5 0)] := by
  unfold m_X9_takesItem_b109 at h
  obtain ⟨z17, e17, h⟩ := bnd h
  refine k_callvI (pc := 109) C lk_X9_49 (by decide) ix_X9 wo_X9 rfl rfl (kc_X9_takesNumber e17) dX9_takesItem_109 rfl rfl (Nat.le_of_ble_eq_true rfl) ?_
  refine k_if_ne (pc := 112) C 117 dX9_takesItem_112 (by decide) h (fun c20 h => ?_) (fun c20 h => ?_)
  · refine k_aload_n (pc := 117) C dX9_takesItem_117 0 rfl ?_
    refine k_aload_n (pc := 118) C dX9_takesItem_118 0 rfl ?_
    refine gf_X9_53 (pc := 119) C dX9_takesItem_119 ?_
    refine pf_X9_59 (pc := 122) C dX9_takesItem_122 ?_
    refine k_nT h (fun T18 h => ?_)
    refine k_aload_n (pc := 125) C dX9_takesItem_125 0 rfl ?_
    obtain ⟨z19, e19, h⟩ := bnd h
    refine k_callvI (pc := 126) C lk_X9_35 (by decide) ix_X9 wo_X9 rfl rfl (kc_X9_takesStop e19) dX9_takesItem_126 rfl rfl (Nat.le_of_ble_eq_true rfl) ?_
    by_cases cz : z19.1 = 0 ∨ z19.1 = 1
    · rw [if_pos cz] at h
      exact k_zret (pc := 129) C E (bool01 cz) (some_1 h) (some_2 h) dX9_takesItem_129
    · rw [if_neg cz] at h
      exact no_some h
  · refine k_iconst (pc := 115) (v := (0 : Int32)) C dX9_takesItem_115 ciconst_0 ?_
    exact k_zret (pc := 116) C E rfl (some_1 h) (some_2 h) dX9_takesItem_116
set_option maxHeartbeats 4000000 in
set_option maxRecDepth 100000 in
theorem k_X9_takesItem_b86 {B : KB} {X : KE} {res : Int32 × TT} (C : Cx B X "GriefEngine$Text" cX9_takesItem 2 6) (E : Cr B X (some .boolean) (some (.int res.1)) res.2) (T : TT) (h : m_X9_takesItem_b86 T = some res) : Wk B X 2 T 86 [(0, .ref (B.1 5 0))] [] := by
  unfold m_X9_takesItem_b86 at h
  refine k_aload_n (pc := 86) C dX9_takesItem_86 0 rfl ?_
  refine k_aload_n (pc := 87) C dX9_takesItem_87 0 rfl ?_
  refine gf_X9_53 (pc := 88) C dX9_takesItem_88 ?_
  refine pf_X9_56 (pc := 91) C dX9_takesItem_91 ?_
  refine k_nT h (fun T15 h => ?_)
  refine k_aload_n (pc := 94) C dX9_takesItem_94 0 rfl ?_
  refine k_iconst (pc := 95) (v := (0 : Int32)) C dX9_takesItem_95 ciconst_0 ?_
  refine k_aload_n (pc := 96) C dX9_takesItem_96 0 rfl ?_
  refine gf_X9_44 (pc := 97) C dX9_takesItem_97 ?_
  refine k_if_eq (pc := 100) C 108 dX9_takesItem_100 (by decide) h (fun c16 h => ?_) (fun c16 h => ?_)
  · refine k_iconst (pc := 108) (v := (2 : Int32)) C dX9_takesItem_108 ciconst_2 ?_
    refine k_sub [0] rfl ?_
    exact k_X9_takesItem_b109 C E T15 (0 : Int32) (2 : Int32) h
  · refine k_bipush (pc := 103) (v := (99 : Int32)) C dX9_takesItem_103 cbipush_99 ?_
    refine k_goto (pc := 105) C 109 dX9_takesItem_105 (by decide) ?_
    refine k_sub [0] rfl ?_
    exact k_X9_takesItem_b109 C E T15 (0 : Int32) (99 : Int32) h
set_option maxHeartbeats 4000000 in
set_option maxRecDepth 100000 in
theorem k_X9_takesItem_b55 {B : KB} {X : KE} {res : Int32 × TT} (C : Cx B X "GriefEngine$Text" cX9_takesItem 2 6) (E : Cr B X (some .boolean) (some (.int res.1)) res.2) (T : TT) (h : m_X9_takesItem_b55 T = some res) : Wk B X 2 T 55 [(0, .ref (B.1 5 0))] [] := by
  unfold m_X9_takesItem_b55 at h
  refine k_aload_n (pc := 55) C dX9_takesItem_55 0 rfl ?_
  refine gf_X9_44 (pc := 56) C dX9_takesItem_56 ?_
  refine k_if_eq (pc := 59) C 74 dX9_takesItem_59 (by decide) h (fun c14 h => ?_) (fun c14 h => ?_)
  · refine k_aload_n (pc := 74) C dX9_takesItem_74 0 rfl ?_
    refine k_iconst (pc := 75) (v := (1 : Int32)) C dX9_takesItem_75 ciconst_1 ?_
    refine k_bipush (pc := 76) (v := (99 : Int32)) C dX9_takesItem_76 cbipush_99 ?_
    obtain ⟨z10, e10, h⟩ := bnd h
    refine k_callvI (pc := 78) C lk_X9_49 (by decide) ix_X9 wo_X9 rfl rfl (kc_X9_takesNumber e10) dX9_takesItem_78 rfl rfl (Nat.le_of_ble_eq_true rfl) ?_
    refine k_if_ne (pc := 81) C 86 dX9_takesItem_81 (by decide) h (fun c11 h => ?_) (fun c11 h => ?_)
    · refine k_sub [0] rfl ?_
      exact k_X9_takesItem_b86 C E z10.2 h
    · refine k_iconst (pc := 84) (v := (0 : Int32)) C dX9_takesItem_84 ciconst_0 ?_
      exact k_zret (pc := 85) C E rfl (some_1 h) (some_2 h) dX9_takesItem_85
  · refine k_aload_n (pc := 62) C dX9_takesItem_62 0 rfl ?_
    refine k_iconst (pc := 63) (v := (0 : Int32)) C dX9_takesItem_63 ciconst_0 ?_
    refine k_iconst (pc := 64) (v := (5 : Int32)) C dX9_takesItem_64 ciconst_5 ?_
    obtain ⟨z12, e12, h⟩ := bnd h
    refine k_callvI (pc := 65) C lk_X9_49 (by decide) ix_X9 wo_X9 rfl rfl (kc_X9_takesNumber e12) dX9_takesItem_65 rfl rfl (Nat.le_of_ble_eq_true rfl) ?_
    refine k_if_ne (pc := 68) C 86 dX9_takesItem_68 (by decide) h (fun c13 h => ?_) (fun c13 h => ?_)
    · refine k_sub [0] rfl ?_
      exact k_X9_takesItem_b86 C E z12.2 h
    · refine k_goto (pc := 71) C 84 dX9_takesItem_71 (by decide) ?_
      refine k_iconst (pc := 84) (v := (0 : Int32)) C dX9_takesItem_84 ciconst_0 ?_
      exact k_zret (pc := 85) C E rfl (some_1 h) (some_2 h) dX9_takesItem_85
set_option maxHeartbeats 4000000 in
set_option maxRecDepth 100000 in
theorem k_X9_takesItem_b17 {B : KB} {X : KE} {res : Int32 × TT} (C : Cx B X "GriefEngine$Text" cX9_takesItem 2 6) (E : Cr B X (some .boolean) (some (.int res.1)) res.2) (T : TT) (x1 : Int32) (s1 : Int32) (h : m_X9_takesItem_b17 T x1 s1 = some res) : Wk B X 2 T 17 [(0, .ref (B.1 5 0)), (1, .int x1)] [.int s1, .ref (B.1 5 0)] := by
  unfold m_X9_takesItem_b17 at h
  refine pf_X9_22 (pc := 17) C dX9_takesItem_17 h (fun h => ?_)
  refine k_nT h (fun T3 h => ?_)
  refine k_aload_n (pc := 20) C dX9_takesItem_20 0 rfl ?_
  refine k_aload_n (pc := 21) C dX9_takesItem_21 0 rfl ?_
  refine k_sldc (pc := 22) (w := 1) C C.2.2.2.2.2.1.2.2.2.2.2.2.2.2.1 dX9_takesItem_22 ?_
  obtain ⟨z4, e4, h⟩ := bnd h
  refine k_callvI (pc := 24) C lk_X9_31 (by decide) ix_X9 wo_X9 rfl rfl (kc_X9_isWord (by decide) e4) dX9_takesItem_24 rfl rfl (Nat.le_of_ble_eq_true rfl) ?_
  refine pf_X9_44 (pc := 27) C dX9_takesItem_27 h (fun h => ?_)
  refine k_nT h (fun T5 h => ?_)
  refine k_aload_n (pc := 30) C dX9_takesItem_30 0 rfl ?_
  refine gf_X9_44 (pc := 31) C dX9_takesItem_31 ?_
  refine k_if_eq (pc := 34) C 44 dX9_takesItem_34 (by decide) h (fun c9 h => ?_) (fun c9 h => ?_)
  · refine k_aload_n (pc := 44) C dX9_takesItem_44 0 rfl ?_
    refine k_sldc (pc := 45) (w := 2) C C.2.2.2.2.2.1.2.2.2.2.2.2.2.2.2 dX9_takesItem_45 ?_
    obtain ⟨z6, e6, h⟩ := bnd h
    refine k_callvI (pc := 47) C lk_X9_31 (by decide) ix_X9 wo_X9 rfl rfl (kc_X9_isWord (by decide) e6) dX9_takesItem_47 rfl rfl (Nat.le_of_ble_eq_true rfl) ?_
    refine k_if_ne (pc := 50) C 55 dX9_takesItem_50 (by decide) h (fun c7 h => ?_) (fun c7 h => ?_)
    · refine k_sub [0] rfl ?_
      exact k_X9_takesItem_b55 C E T5 h
    · refine k_iconst (pc := 53) (v := (0 : Int32)) C dX9_takesItem_53 ciconst_0 ?_
      exact k_zret (pc := 54) C E rfl (some_1 h) (some_2 h) dX9_takesItem_54
  · refine k_iload_n (pc := 37) C dX9_takesItem_37 1 rfl ?_
    refine k_if_eq (pc := 38) C 55 dX9_takesItem_38 (by decide) h (fun c8 h => ?_) (fun c8 h => ?_)
    · refine k_sub [0] rfl ?_
      exact k_X9_takesItem_b55 C E T5 h
    · refine k_goto (pc := 41) C 53 dX9_takesItem_41 (by decide) ?_
      refine k_iconst (pc := 53) (v := (0 : Int32)) C dX9_takesItem_53 ciconst_0 ?_
      exact k_zret (pc := 54) C E rfl (some_1 h) (some_2 h) dX9_takesItem_54
set_option maxHeartbeats 4000000 in
set_option maxRecDepth 100000 in
theorem kc_X9_takesItem {B : KB} {l : Launch} {T : TT} {x1 : Int32} {res : Int32 × TT} (h : m_X9_takesItem T x1 = some res) : Kt B l 6 yX9_takesItem cX9_takesItem 2 (some .boolean) T [.ref (B.1 5 0), .int x1] (some (.int res.1)) res.2 := by
  refine Kt.of (by decide) (Nat.le_of_ble_eq_true rfl) (fun X hX C E => ?_)
  subst hX
  have C : Cx B X "GriefEngine$Text" cX9_takesItem 2 6 := C
  show Wk B X 2 T 0 [(0, .ref (B.1 5 0)), (1, .int x1)] []
  unfold m_X9_takesItem at h
  refine k_aload_n (pc := 0) C dX9_takesItem_0 0 rfl ?_
  obtain ⟨z1, e1, h⟩ := bnd h
  refine k_callvV (pc := 1) C lk_X9_26 (by decide) ix_X9 wo_X9 rfl rfl (kc_X9_advance e1) dX9_takesItem_1 rfl rfl (Nat.le_of_ble_eq_true rfl) ?_
  refine k_aload_n (pc := 4) C dX9_takesItem_4 0 rfl ?_
  refine k_aload_n (pc := 5) C dX9_takesItem_5 0 rfl ?_
  refine gf_X9_39 (pc := 6) C dX9_takesItem_6 ?_
  refine k_if_ne (pc := 9) C 16 dX9_takesItem_9 (by decide) h (fun c2 h => ?_) (fun c2 h => ?_)
  · refine k_iconst (pc := 16) (v := (0 : Int32)) C dX9_takesItem_16 ciconst_0 ?_
    refine k_sub [0, 1] rfl ?_
    exact k_X9_takesItem_b17 C E z1 x1 (0 : Int32) h
  · refine k_iconst (pc := 12) (v := (1 : Int32)) C dX9_takesItem_12 ciconst_1 ?_
    refine k_goto (pc := 13) C 17 dX9_takesItem_13 (by decide) ?_
    refine k_sub [0, 1] rfl ?_
    exact k_X9_takesItem_b17 C E z1 x1 (1 : Int32) h
def m_X10_rank (T : TT) : Option (Int32 × TT) := bT (T.2.1 0 7) (fun y1 => (m_X4_reset T 0).bind (fun z2 => some (y1, z2)))
set_option maxHeartbeats 4000000 in
set_option maxRecDepth 100000 in
theorem kc_X10_rank {B : KB} {l : Launch} {T : TT} {res : Int32 × TT} (h : m_X10_rank T = some res) : Kt B l 2 yX10_rank cX10_rank 2 (some .int) T [.ref (B.1 4 0)] (some (.int res.1)) res.2 := by
  refine Kt.of (by decide) (Nat.le_of_ble_eq_true rfl) (fun X hX C E => ?_)
  subst hX
  have C : Cx B X "GriefEngine" cX10_rank 2 2 := C
  show Wk B X 2 T 0 [(0, .ref (B.1 4 0))] []
  unfold m_X10_rank at h
  refine k_aload_n (pc := 0) C dX10_rank_0 0 rfl ?_
  refine gf_X10_12 (pc := 1) C dX10_rank_1 ?_
  refine gf_X10_62 (pc := 4) C lt4_0 dX10_rank_4 ?_
  refine k_nI h (fun y1 h => ?_)
  refine k_istore_n (pc := 7) C [(1, .int y1), (0, .ref (B.1 4 0))] dX10_rank_7 (by decide) rfl ?_
  refine k_aload_n (pc := 8) C dX10_rank_8 1 rfl ?_
  refine gf_X10_12 (pc := 9) C dX10_rank_9 ?_
  obtain ⟨z2, e2, h⟩ := bnd h
  refine k_callvV (pc := 12) C lk_X10_66 (by decide) (ix_X4 lt4_0) (wo_X4 lt4_0) rfl rfl (kc_X4_reset lt4_0 e2) dX10_rank_12 rfl rfl (Nat.le_of_ble_eq_true rfl) ?_
  refine k_iload_n (pc := 15) C dX10_rank_15 0 rfl ?_
  exact k_iret (pc := 16) C E (some_1 h) (some_2 h) dX10_rank_16
def m_X10_within (x0 : Int32) (x1 : Int32) (x2 : Int32) : Option (Int32) := if x0 < x1 then (some (0 : Int32)) else (if x2 < x0 then (some (0 : Int32)) else (some (1 : Int32)))
set_option maxHeartbeats 4000000 in
set_option maxRecDepth 100000 in
theorem kc_X10_within {B : KB} {l : Launch} {T : TT} {x0 : Int32} {x1 : Int32} {x2 : Int32} {res : Int32} (h : m_X10_within x0 x1 x2 = some res) : Kt B l 1 yX10_within cX10_within 3 (some .boolean) T [.int x0, .int x1, .int x2] (some (.int res)) T := by
  refine Kt.of (by decide) (Nat.le_of_ble_eq_true rfl) (fun X hX C E => ?_)
  subst hX
  have C : Cx B X "GriefEngine" cX10_within 3 1 := C
  show Wk B X 3 T 0 [(0, .int x0), (1, .int x1), (2, .int x2)] []
  unfold m_X10_within at h
  refine k_iload_n (pc := 0) C dX10_within_0 0 rfl ?_
  refine k_iload_n (pc := 1) C dX10_within_1 1 rfl ?_
  refine k_icmp_lt (pc := 2) C 14 dX10_within_2 (by decide) h (fun c2 h => ?_) (fun c2 h => ?_)
  · refine k_iconst (pc := 14) (v := (0 : Int32)) C dX10_within_14 ciconst_0 ?_
    exact k_zret (pc := 15) C E rfl (some_i h) rfl dX10_within_15
  · refine k_iload_n (pc := 5) C dX10_within_5 0 rfl ?_
    refine k_iload_n (pc := 6) C dX10_within_6 2 rfl ?_
    refine k_icmp_gt (pc := 7) C 14 dX10_within_7 (by decide) h (fun c1 h => ?_) (fun c1 h => ?_)
    · refine k_iconst (pc := 14) (v := (0 : Int32)) C dX10_within_14 ciconst_0 ?_
      exact k_zret (pc := 15) C E rfl (some_i h) rfl dX10_within_15
    · refine k_iconst (pc := 10) (v := (1 : Int32)) C dX10_within_10 ciconst_1 ?_
      refine k_goto (pc := 11) C 15 dX10_within_11 (by decide) ?_
      exact k_zret (pc := 15) C E rfl (some_i h) rfl dX10_within_15
def m_X10_refuse (T : TT) (x1 : Int32) : Option (Int32 × TT) := bT ((-2 : Int32) - x1) (fun y1 => if y1 < 0 then (some (x1, T)) else (if (3 : Int32) ≤ y1 then (some (x1, T)) else (if inb y1 3 then (if inb y1 3 then bT (sA T 4 4 (Int32.toNatClampNeg y1) ((T.1 4 4 (Int32.toNatClampNeg y1)) + (1 : Int32))) (fun T2 => some (x1, T2)) else none) else none)))
set_option maxHeartbeats 4000000 in
set_option maxRecDepth 100000 in
theorem kc_X10_refuse {B : KB} {l : Launch} {T : TT} {x1 : Int32} {res : Int32 × TT} (h : m_X10_refuse T x1 = some res) : Kt B l 1 yX10_refuse cX10_refuse 3 (some .int) T [.ref (B.1 4 0), .int x1] (some (.int res.1)) res.2 := by
  refine Kt.of (by decide) (Nat.le_of_ble_eq_true rfl) (fun X hX C E => ?_)
  subst hX
  have C : Cx B X "GriefEngine" cX10_refuse 3 1 := C
  show Wk B X 3 T 0 [(0, .ref (B.1 4 0)), (1, .int x1)] []
  unfold m_X10_refuse at h
  refine k_bipush (pc := 0) (v := (-2 : Int32)) C dX10_refuse_0 cbipush_m2 ?_
  refine k_iload_n (pc := 2) C dX10_refuse_2 1 rfl ?_
  refine k_isub (pc := 3) C dX10_refuse_3 ?_
  refine k_nI h (fun y1 h => ?_)
  refine k_istore_n (pc := 4) C [(2, .int y1), (0, .ref (B.1 4 0)), (1, .int x1)] dX10_refuse_4 (by decide) rfl ?_
  refine k_iload_n (pc := 5) C dX10_refuse_5 0 rfl ?_
  refine k_if_lt (pc := 6) C 28 dX10_refuse_6 (by decide) h (fun c4 h => ?_) (fun c4 h => ?_)
  · refine k_iload_n (pc := 28) C dX10_refuse_28 2 rfl ?_
    exact k_iret (pc := 29) C E (some_1 h) (some_2 h) dX10_refuse_29
  · refine k_iload_n (pc := 9) C dX10_refuse_9 0 rfl ?_
    refine k_aload_n (pc := 10) C dX10_refuse_10 1 rfl ?_
    refine gf_X10_52 (pc := 11) C dX10_refuse_11 ?_
    refine k_ilen (pc := 14) C ia_4_4 (3 : Int32) dX10_refuse_14 (by decide) ?_
    refine k_icmp_ge (pc := 15) C 28 dX10_refuse_15 (by decide) h (fun c3 h => ?_) (fun c3 h => ?_)
    · refine k_iload_n (pc := 28) C dX10_refuse_28 2 rfl ?_
      exact k_iret (pc := 29) C E (some_1 h) (some_2 h) dX10_refuse_29
    · refine k_aload_n (pc := 18) C dX10_refuse_18 1 rfl ?_
      refine gf_X10_52 (pc := 19) C dX10_refuse_19 ?_
      refine k_iload_n (pc := 22) C dX10_refuse_22 0 rfl ?_
      refine k_dup2 (pc := 23) C dX10_refuse_23 rfl rfl ?_
      refine k_iald (pc := 24) C ia_4_4 dX10_refuse_24 h (fun h => ?_)
      refine k_iconst (pc := 25) (v := (1 : Int32)) C dX10_refuse_25 ciconst_1 ?_
      refine k_iadd (pc := 26) C dX10_refuse_26 ?_
      refine k_iast (pc := 27) C ia_4_4 dX10_refuse_27 h (fun h => ?_)
      refine k_nT h (fun T2 h => ?_)
      refine k_iload_n (pc := 28) C dX10_refuse_28 2 rfl ?_
      exact k_iret (pc := 29) C E (some_1 h) (some_2 h) dX10_refuse_29
def m_X10_refuseIfFull (T : TT) (x1 : Int32) : Option (Int32 × TT) := if x1 = (-4 : Int32) then ((m_X10_refuse T (-4 : Int32)).bind (fun z1 => some (z1.1, z1.2))) else (some (x1, T))
set_option maxHeartbeats 4000000 in
set_option maxRecDepth 100000 in
theorem kc_X10_refuseIfFull {B : KB} {l : Launch} {T : TT} {x1 : Int32} {res : Int32 × TT} (h : m_X10_refuseIfFull T x1 = some res) : Kt B l 2 yX10_refuseIfFull cX10_refuseIfFull 2 (some .int) T [.ref (B.1 4 0), .int x1] (some (.int res.1)) res.2 := by
  refine Kt.of (by decide) (Nat.le_of_ble_eq_true rfl) (fun X hX C E => ?_)
  subst hX
  have C : Cx B X "GriefEngine" cX10_refuseIfFull 2 2 := C
  show Wk B X 2 T 0 [(0, .ref (B.1 4 0)), (1, .int x1)] []
  unfold m_X10_refuseIfFull at h
  refine k_iload_n (pc := 0) C dX10_refuseIfFull_0 1 rfl ?_
  refine k_bipush (pc := 1) (v := (-4 : Int32)) C dX10_refuseIfFull_1 cbipush_m4 ?_
  refine k_icmp_ne (pc := 3) C 15 dX10_refuseIfFull_3 (by decide) h (fun c2 h => ?_) (fun c2 h => ?_)
  · refine k_iload_n (pc := 15) C dX10_refuseIfFull_15 1 rfl ?_
    exact k_iret (pc := 16) C E (some_1 h) (some_2 h) dX10_refuseIfFull_16
  · refine k_aload_n (pc := 6) C dX10_refuseIfFull_6 0 rfl ?_
    refine k_bipush (pc := 7) (v := (-4 : Int32)) C dX10_refuseIfFull_7 cbipush_m4 ?_
    obtain ⟨z1, e1, h⟩ := bnd h
    refine k_callvI (pc := 9) C lk_X10_73 (by decide) ix_X10 wo_X10 rfl rfl (kc_X10_refuse e1) dX10_refuseIfFull_9 rfl rfl (Nat.le_of_ble_eq_true rfl) ?_
    refine k_goto (pc := 12) C 16 dX10_refuseIfFull_12 (by decide) ?_
    exact k_iret (pc := 16) C E (some_1 h) (some_2 h) dX10_refuseIfFull_16
def m_X10_driver_b19 (T : TT) : Option (Int32 × TT) := (m_X10_refuse T (-2 : Int32)).bind (fun z7 => some (z7.1, z7.2))
def m_X10_driver (T : TT) (x1 : Int32) (x2 : Int32) : Option (Int32 × TT) := (m_X10_within x1 (0 : Int32) (5 : Int32)).bind (fun z1 => if z1 = 0 then (m_X10_driver_b19 T) else ((m_X10_within x2 (0 : Int32) (99 : Int32)).bind (fun z2 => if z2 = 0 then (m_X10_driver_b19 T) else ((m_X4_addDriver T 0 x1 x2).bind (fun z3 => (m_X10_refuseIfFull z3.2 z3.1).bind (fun z4 => some (z4.1, z4.2)))))))
set_option maxHeartbeats 4000000 in
set_option maxRecDepth 100000 in
theorem k_X10_driver_b19 {B : KB} {X : KE} {res : Int32 × TT} (C : Cx B X "GriefEngine" cX10_driver 3 3) (E : Cr B X (some .int) (some (.int res.1)) res.2) (T : TT) (h : m_X10_driver_b19 T = some res) : Wk B X 3 T 19 [(0, .ref (B.1 4 0))] [] := by
  unfold m_X10_driver_b19 at h
  refine k_aload_n (pc := 19) C dX10_driver_19 0 rfl ?_
  refine k_bipush (pc := 20) (v := (-2 : Int32)) C dX10_driver_20 cbipush_m2 ?_
  obtain ⟨z7, e7, h⟩ := bnd h
  refine k_callvI (pc := 22) C lk_X10_73 (by decide) ix_X10 wo_X10 rfl rfl (kc_X10_refuse e7) dX10_driver_22 rfl rfl (Nat.le_of_ble_eq_true rfl) ?_
  exact k_iret (pc := 25) C E (some_1 h) (some_2 h) dX10_driver_25
set_option maxHeartbeats 4000000 in
set_option maxRecDepth 100000 in
theorem kc_X10_driver {B : KB} {l : Launch} {T : TT} {x1 : Int32} {x2 : Int32} {res : Int32 × TT} (h : m_X10_driver T x1 x2 = some res) : Kt B l 3 yX10_driver cX10_driver 3 (some .int) T [.ref (B.1 4 0), .int x1, .int x2] (some (.int res.1)) res.2 := by
  refine Kt.of (by decide) (Nat.le_of_ble_eq_true rfl) (fun X hX C E => ?_)
  subst hX
  have C : Cx B X "GriefEngine" cX10_driver 3 3 := C
  show Wk B X 3 T 0 [(0, .ref (B.1 4 0)), (1, .int x1), (2, .int x2)] []
  unfold m_X10_driver at h
  refine k_iload_n (pc := 0) C dX10_driver_0 1 rfl ?_
  refine k_iconst (pc := 1) (v := (0 : Int32)) C dX10_driver_1 ciconst_0 ?_
  refine k_iconst (pc := 2) (v := (5 : Int32)) C dX10_driver_2 ciconst_5 ?_
  obtain ⟨z1, e1, h⟩ := bnd h
  refine k_callsI (pc := 3) C lk_X10_69 (by decide) (kc_X10_within e1) dX10_driver_3 rfl rfl (Nat.le_of_ble_eq_true rfl) ?_
  refine k_if_eq (pc := 6) C 19 dX10_driver_6 (by decide) h (fun c6 h => ?_) (fun c6 h => ?_)
  · refine k_sub [0] rfl ?_
    exact k_X10_driver_b19 C E T h
  · refine k_iload_n (pc := 9) C dX10_driver_9 2 rfl ?_
    refine k_iconst (pc := 10) (v := (0 : Int32)) C dX10_driver_10 ciconst_0 ?_
    refine k_bipush (pc := 11) (v := (99 : Int32)) C dX10_driver_11 cbipush_99 ?_
    obtain ⟨z2, e2, h⟩ := bnd h
    refine k_callsI (pc := 13) C lk_X10_69 (by decide) (kc_X10_within e2) dX10_driver_13 rfl rfl (Nat.le_of_ble_eq_true rfl) ?_
    refine k_if_ne (pc := 16) C 26 dX10_driver_16 (by decide) h (fun c5 h => ?_) (fun c5 h => ?_)
    · refine k_aload_n (pc := 26) C dX10_driver_26 0 rfl ?_
      refine k_aload_n (pc := 27) C dX10_driver_27 0 rfl ?_
      refine gf_X10_12 (pc := 28) C dX10_driver_28 ?_
      refine k_iload_n (pc := 31) C dX10_driver_31 1 rfl ?_
      refine k_iload_n (pc := 32) C dX10_driver_32 2 rfl ?_
      obtain ⟨z3, e3, h⟩ := bnd h
      refine k_callvI (pc := 33) C lk_X10_77 (by decide) (ix_X4 lt4_0) (wo_X4 lt4_0) rfl rfl (kc_X4_addDriver lt4_0 e3) dX10_driver_33 rfl rfl (Nat.le_of_ble_eq_true rfl) ?_
      obtain ⟨z4, e4, h⟩ := bnd h
      refine k_callvI (pc := 36) C lk_X10_81 (by decide) ix_X10 wo_X10 rfl rfl (kc_X10_refuseIfFull e4) dX10_driver_36 rfl rfl (Nat.le_of_ble_eq_true rfl) ?_
      exact k_iret (pc := 39) C E (some_1 h) (some_2 h) dX10_driver_39
    · refine k_sub [0] rfl ?_
      exact k_X10_driver_b19 C E T h
def m_X10_type (T : TT) (x1 : Int32) : Option (Int32 × TT) := (m_X10_within x1 (0 : Int32) (127 : Int32)).bind (fun z1 => if z1 = 0 then ((m_X10_refuse T (-2 : Int32)).bind (fun z4 => some (z4.1, z4.2))) else ((m_X9_append T x1).bind (fun z2 => (m_X10_refuseIfFull z2.2 z2.1).bind (fun z3 => some (z3.1, z3.2)))))
set_option maxHeartbeats 4000000 in
set_option maxRecDepth 100000 in
theorem kc_X10_type {B : KB} {l : Launch} {T : TT} {x1 : Int32} {res : Int32 × TT} (h : m_X10_type T x1 = some res) : Kt B l 3 yX10_type cX10_type 2 (some .int) T [.ref (B.1 4 0), .int x1] (some (.int res.1)) res.2 := by
  refine Kt.of (by decide) (Nat.le_of_ble_eq_true rfl) (fun X hX C E => ?_)
  subst hX
  have C : Cx B X "GriefEngine" cX10_type 2 3 := C
  show Wk B X 2 T 0 [(0, .ref (B.1 4 0)), (1, .int x1)] []
  unfold m_X10_type at h
  refine k_iload_n (pc := 0) C dX10_type_0 1 rfl ?_
  refine k_iconst (pc := 1) (v := (0 : Int32)) C dX10_type_1 ciconst_0 ?_
  refine k_bipush (pc := 2) (v := (127 : Int32)) C dX10_type_2 cbipush_127 ?_
  obtain ⟨z1, e1, h⟩ := bnd h
  refine k_callsI (pc := 4) C lk_X10_69 (by decide) (kc_X10_within e1) dX10_type_4 rfl rfl (Nat.le_of_ble_eq_true rfl) ?_
  refine k_if_ne (pc := 7) C 17 dX10_type_7 (by decide) h (fun c5 h => ?_) (fun c5 h => ?_)
  · refine k_aload_n (pc := 17) C dX10_type_17 0 rfl ?_
    refine k_aload_n (pc := 18) C dX10_type_18 0 rfl ?_
    refine gf_X10_30 (pc := 19) C dX10_type_19 ?_
    refine k_iload_n (pc := 22) C dX10_type_22 1 rfl ?_
    obtain ⟨z2, e2, h⟩ := bnd h
    refine k_callvI (pc := 23) C lk_X10_84 (by decide) ix_X9 wo_X9 rfl rfl (kc_X9_append e2) dX10_type_23 rfl rfl (Nat.le_of_ble_eq_true rfl) ?_
    obtain ⟨z3, e3, h⟩ := bnd h
    refine k_callvI (pc := 26) C lk_X10_81 (by decide) ix_X10 wo_X10 rfl rfl (kc_X10_refuseIfFull e3) dX10_type_26 rfl rfl (Nat.le_of_ble_eq_true rfl) ?_
    exact k_iret (pc := 29) C E (some_1 h) (some_2 h) dX10_type_29
  · refine k_aload_n (pc := 10) C dX10_type_10 0 rfl ?_
    refine k_bipush (pc := 11) (v := (-2 : Int32)) C dX10_type_11 cbipush_m2 ?_
    obtain ⟨z4, e4, h⟩ := bnd h
    refine k_callvI (pc := 13) C lk_X10_73 (by decide) ix_X10 wo_X10 rfl rfl (kc_X10_refuse e4) dX10_type_13 rfl rfl (Nat.le_of_ble_eq_true rfl) ?_
    exact k_iret (pc := 16) C E (some_1 h) (some_2 h) dX10_type_16
def m_X10_clear (T : TT) : Option (Int32 × TT) := bT (T.2.1 5 1) (fun y1 => bT (sI T 5 1 (0 : Int32)) (fun T2 => some (y1, T2)))
set_option maxHeartbeats 4000000 in
set_option maxRecDepth 100000 in
theorem kc_X10_clear {B : KB} {l : Launch} {T : TT} {res : Int32 × TT} (h : m_X10_clear T = some res) : Kt B l 1 yX10_clear cX10_clear 2 (some .int) T [.ref (B.1 4 0)] (some (.int res.1)) res.2 := by
  refine Kt.of (by decide) (Nat.le_of_ble_eq_true rfl) (fun X hX C E => ?_)
  subst hX
  have C : Cx B X "GriefEngine" cX10_clear 2 1 := C
  show Wk B X 2 T 0 [(0, .ref (B.1 4 0))] []
  unfold m_X10_clear at h
  refine k_aload_n (pc := 0) C dX10_clear_0 0 rfl ?_
  refine gf_X10_30 (pc := 1) C dX10_clear_1 ?_
  refine gf_X10_87 (pc := 4) C dX10_clear_4 ?_
  refine k_nI h (fun y1 h => ?_)
  refine k_istore_n (pc := 7) C [(1, .int y1), (0, .ref (B.1 4 0))] dX10_clear_7 (by decide) rfl ?_
  refine k_aload_n (pc := 8) C dX10_clear_8 1 rfl ?_
  refine gf_X10_30 (pc := 9) C dX10_clear_9 ?_
  refine k_iconst (pc := 12) (v := (0 : Int32)) C dX10_clear_12 ciconst_0 ?_
  refine pf_X10_87 (pc := 13) C dX10_clear_13 ?_
  refine k_nT h (fun T2 h => ?_)
  refine k_iload_n (pc := 16) C dX10_clear_16 0 rfl ?_
  exact k_iret (pc := 17) C E (some_1 h) (some_2 h) dX10_clear_17
def m_X10_read_b115 (T : TT) (x1 : Int32) : Option (Int32 × TT) := if (T.2.1 5 3) = 0 then (some (((-10 : Int32) - (T.2.1 5 2)), T)) else ((m_X4_copyFrom T 0 1).bind (fun z13 => some (x1, z13)))
def m_X10_read_h23 (rec23 : TT → Int32 → Option (Int32 × TT)) (T : TT) (x1 : Int32) : Option (Int32 × TT) := if x1 ≤ 0 then (m_X10_read_b115 T x1) else (if (150 : Int32) ≤ x1 then (m_X10_read_b115 T x1) else ((m_X4_isFull T 1).bind (fun z4 => (m_X9_takesItem T z4).bind (fun z5 => if z5.1 = 0 then (m_X10_read_b115 z5.2 x1) else (bT (x1 + (1 : Int32)) (fun y6 => if (z5.2.2.1 5 4) = 0 then ((m_X4_passDays z5.2 1 (z5.2.2.1 5 5) (-1 : Int32) (z5.2.2.1 5 6)).bind (fun z7 => rec23 z7.2 y6)) else ((m_X4_addDriver z5.2 1 (z5.2.2.1 5 5) (z5.2.2.1 5 6)).bind (fun z8 => rec23 z8.2 y6))))))))
def m_X10_read_l23 : Nat → TT → Int32 → Option (Int32 × TT)
  | 0 => fun _ _ => none
  | n + 1 => fun T x1 => m_X10_read_h23 (m_X10_read_l23 n) T x1
def m_X10_read_b22 (T : TT) (s0 : Int32) : Option (Int32 × TT) := m_X10_read_l23 FU T s0
def m_X10_read (T : TT) : Option (Int32 × TT) := (m_X4_reset T 1).bind (fun z1 => (m_X9_takesRank z1).bind (fun z2 => if z2.1 = 0 then (m_X10_read_b22 z2.2 (0 : Int32)) else (m_X10_read_b22 z2.2 (1 : Int32))))
set_option maxHeartbeats 4000000 in
set_option maxRecDepth 100000 in
theorem k_X10_read_b115 {B : KB} {X : KE} {res : Int32 × TT} (C : Cx B X "GriefEngine" cX10_read 2 7) (E : Cr B X (some .int) (some (.int res.1)) res.2) (T : TT) (x1 : Int32) (h : m_X10_read_b115 T x1 = some res) : Wk B X 2 T 115 [(0, .ref (B.1 4 0)), (1, .int x1)] [] := by
  unfold m_X10_read_b115 at h
  refine k_aload_n (pc := 115) C dX10_read_115 0 rfl ?_
  refine gf_X10_30 (pc := 116) C dX10_read_116 ?_
  refine gf_X10_115 (pc := 119) C dX10_read_119 ?_
  refine k_if_ne (pc := 122) C 136 dX10_read_122 (by decide) h (fun c14 h => ?_) (fun c14 h => ?_)
  · refine k_aload_n (pc := 136) C dX10_read_136 0 rfl ?_
    refine gf_X10_12 (pc := 137) C dX10_read_137 ?_
    refine k_aload_n (pc := 140) C dX10_read_140 0 rfl ?_
    refine gf_X10_16 (pc := 141) C dX10_read_141 ?_
    obtain ⟨z13, e13, h⟩ := bnd h
    refine k_callvV (pc := 144) C lk_X10_121 (by decide) (ix_X4 lt4_0) (wo_X4 lt4_0) rfl rfl (kc_X4_copyFrom lt4_0 lt4_1 e13) dX10_read_144 rfl rfl (Nat.le_of_ble_eq_true rfl) ?_
    refine k_iload_n (pc := 147) C dX10_read_147 1 rfl ?_
    exact k_iret (pc := 148) C E (some_1 h) (some_2 h) dX10_read_148
  · refine k_bipush (pc := 125) (v := (-10 : Int32)) C dX10_read_125 cbipush_m10 ?_
    refine k_aload_n (pc := 127) C dX10_read_127 0 rfl ?_
    refine gf_X10_30 (pc := 128) C dX10_read_128 ?_
    refine gf_X10_118 (pc := 131) C dX10_read_131 ?_
    refine k_isub (pc := 134) C dX10_read_134 ?_
    exact k_iret (pc := 135) C E (some_1 h) (some_2 h) dX10_read_135
set_option maxHeartbeats 4000000 in
set_option maxRecDepth 100000 in
theorem k_X10_read_h23 {B : KB} {X : KE} {rec23 : TT → Int32 → Option (Int32 × TT)} {res : Int32 × TT} (C : Cx B X "GriefEngine" cX10_read 2 7) (E : Cr B X (some .int) (some (.int res.1)) res.2) (hrec23 : ∀ (T : TT) (x1 : Int32), rec23 T x1 = some res → Wk B X 2 T 23 [(0, .ref (B.1 4 0)), (1, .int x1)] []) (T : TT) (x1 : Int32) (h : m_X10_read_h23 rec23 T x1 = some res) : Wk B X 2 T 23 [(0, .ref (B.1 4 0)), (1, .int x1)] [] := by
  unfold m_X10_read_h23 at h
  refine k_iload_n (pc := 23) C dX10_read_23 1 rfl ?_
  refine k_if_le (pc := 24) C 115 dX10_read_24 (by decide) h (fun c12 h => ?_) (fun c12 h => ?_)
  · refine k_sub [0, 1] rfl ?_
    exact k_X10_read_b115 C E T x1 h
  · refine k_iload_n (pc := 27) C dX10_read_27 1 rfl ?_
    refine k_sipush (pc := 28) (v := (150 : Int32)) C dX10_read_28 csipush_150 ?_
    refine k_icmp_ge (pc := 31) C 115 dX10_read_31 (by decide) h (fun c11 h => ?_) (fun c11 h => ?_)
    · refine k_sub [0, 1] rfl ?_
      exact k_X10_read_b115 C E T x1 h
    · refine k_aload_n (pc := 34) C dX10_read_34 0 rfl ?_
      refine gf_X10_30 (pc := 35) C dX10_read_35 ?_
      refine k_aload_n (pc := 38) C dX10_read_38 0 rfl ?_
      refine gf_X10_16 (pc := 39) C dX10_read_39 ?_
      obtain ⟨z4, e4, h⟩ := bnd h
      refine k_callvI (pc := 42) C lk_X10_94 (by decide) (ix_X4 lt4_1) (wo_X4 lt4_1) rfl rfl (kc_X4_isFull lt4_1 e4) dX10_read_42 rfl rfl (Nat.le_of_ble_eq_true rfl) ?_
      obtain ⟨z5, e5, h⟩ := bnd h
      refine k_callvI (pc := 45) C lk_X10_97 (by decide) ix_X9 wo_X9 rfl rfl (kc_X9_takesItem e5) dX10_read_45 rfl rfl (Nat.le_of_ble_eq_true rfl) ?_
      refine k_if_eq (pc := 48) C 115 dX10_read_48 (by decide) h (fun c10 h => ?_) (fun c10 h => ?_)
      · refine k_sub [0, 1] rfl ?_
        exact k_X10_read_b115 C E z5.2 x1 h
      · refine k_iincN (pc := 51) (x := x1) (c := (1 : Int32)) C (fun y6 => [(1, .int y6), (0, .ref (B.1 4 0))]) dX10_read_51 1 rfl ciconst_1 (by decide) (fun _ => rfl) h (fun y6 h => ?_)
        refine k_aload_n (pc := 54) C dX10_read_54 1 rfl ?_
        refine gf_X10_30 (pc := 55) C dX10_read_55 ?_
        refine gf_X10_101 (pc := 58) C dX10_read_58 ?_
        refine k_if_eq (pc := 61) C 89 dX10_read_61 (by decide) h (fun c9 h => ?_) (fun c9 h => ?_)
        · refine k_aload_n (pc := 89) C dX10_read_89 1 rfl ?_
          refine gf_X10_16 (pc := 90) C dX10_read_90 ?_
          refine k_aload_n (pc := 93) C dX10_read_93 1 rfl ?_
          refine gf_X10_30 (pc := 94) C dX10_read_94 ?_
          refine gf_X10_105 (pc := 97) C dX10_read_97 ?_
          refine k_iconst (pc := 100) (v := (-1 : Int32)) C dX10_read_100 ciconst_m1 ?_
          refine k_aload_n (pc := 101) C dX10_read_101 1 rfl ?_
          refine gf_X10_30 (pc := 102) C dX10_read_102 ?_
          refine gf_X10_108 (pc := 105) C dX10_read_105 ?_
          obtain ⟨z7, e7, h⟩ := bnd h
          refine k_callvI (pc := 108) C lk_X10_111 (by decide) (ix_X4 lt4_1) (wo_X4 lt4_1) rfl rfl (kc_X4_passDays lt4_1 e7) dX10_read_108 rfl rfl (Nat.le_of_ble_eq_true rfl) ?_
          refine k_pop (pc := 111) C dX10_read_111 rfl ?_
          refine k_goto (pc := 112) C 23 dX10_read_112 (by decide) ?_
          refine k_sub [1, 0] rfl ?_
          exact hrec23 z7.2 y6 h
        · refine k_aload_n (pc := 64) C dX10_read_64 1 rfl ?_
          refine gf_X10_16 (pc := 65) C dX10_read_65 ?_
          refine k_aload_n (pc := 68) C dX10_read_68 1 rfl ?_
          refine gf_X10_30 (pc := 69) C dX10_read_69 ?_
          refine gf_X10_105 (pc := 72) C dX10_read_72 ?_
          refine k_aload_n (pc := 75) C dX10_read_75 1 rfl ?_
          refine gf_X10_30 (pc := 76) C dX10_read_76 ?_
          refine gf_X10_108 (pc := 79) C dX10_read_79 ?_
          obtain ⟨z8, e8, h⟩ := bnd h
          refine k_callvI (pc := 82) C lk_X10_77 (by decide) (ix_X4 lt4_1) (wo_X4 lt4_1) rfl rfl (kc_X4_addDriver lt4_1 e8) dX10_read_82 rfl rfl (Nat.le_of_ble_eq_true rfl) ?_
          refine k_pop (pc := 85) C dX10_read_85 rfl ?_
          refine k_goto (pc := 86) C 23 dX10_read_86 (by decide) ?_
          refine k_sub [1, 0] rfl ?_
          exact hrec23 z8.2 y6 h
set_option maxHeartbeats 4000000 in
set_option maxRecDepth 100000 in
theorem k_X10_read_l23 {B : KB} {X : KE} {res : Int32 × TT} (C : Cx B X "GriefEngine" cX10_read 2 7) (E : Cr B X (some .int) (some (.int res.1)) res.2) : ∀ (n : Nat) (T : TT) (x1 : Int32) (h : m_X10_read_l23 n T x1 = some res), Wk B X 2 T 23 [(0, .ref (B.1 4 0)), (1, .int x1)] [] := by
  intro n
  induction n with
  | zero =>
    intro T x1 h
    exact no_some h
  | succ n ih =>
    intro T x1 h
    exact k_X10_read_h23 C E (fun T x1 h => ih T x1 h) T x1 h
set_option maxHeartbeats 4000000 in
set_option maxRecDepth 100000 in
theorem k_X10_read_b22 {B : KB} {X : KE} {res : Int32 × TT} (C : Cx B X "GriefEngine" cX10_read 2 7) (E : Cr B X (some .int) (some (.int res.1)) res.2) (T : TT) (s0 : Int32) (h : m_X10_read_b22 T s0 = some res) : Wk B X 2 T 22 [(0, .ref (B.1 4 0))] [.int s0] := by
  unfold m_X10_read_b22 at h
  refine k_istore_n (pc := 22) C [(1, .int s0), (0, .ref (B.1 4 0))] dX10_read_22 (by decide) rfl ?_
  refine k_sub [1, 0] rfl ?_
  exact k_X10_read_l23 C E FU T s0 h
set_option maxHeartbeats 4000000 in
set_option maxRecDepth 100000 in
theorem kc_X10_read {B : KB} {l : Launch} {T : TT} {res : Int32 × TT} (h : m_X10_read T = some res) : Kt B l 7 yX10_read cX10_read 2 (some .int) T [.ref (B.1 4 0)] (some (.int res.1)) res.2 := by
  refine Kt.of (by decide) (Nat.le_of_ble_eq_true rfl) (fun X hX C E => ?_)
  subst hX
  have C : Cx B X "GriefEngine" cX10_read 2 7 := C
  show Wk B X 2 T 0 [(0, .ref (B.1 4 0))] []
  unfold m_X10_read at h
  refine k_aload_n (pc := 0) C dX10_read_0 0 rfl ?_
  refine gf_X10_16 (pc := 1) C dX10_read_1 ?_
  obtain ⟨z1, e1, h⟩ := bnd h
  refine k_callvV (pc := 4) C lk_X10_66 (by decide) (ix_X4 lt4_1) (wo_X4 lt4_1) rfl rfl (kc_X4_reset lt4_1 e1) dX10_read_4 rfl rfl (Nat.le_of_ble_eq_true rfl) ?_
  refine k_aload_n (pc := 7) C dX10_read_7 0 rfl ?_
  refine gf_X10_30 (pc := 8) C dX10_read_8 ?_
  obtain ⟨z2, e2, h⟩ := bnd h
  refine k_callvI (pc := 11) C lk_X10_90 (by decide) ix_X9 wo_X9 rfl rfl (kc_X9_takesRank e2) dX10_read_11 rfl rfl (Nat.le_of_ble_eq_true rfl) ?_
  refine k_if_eq (pc := 14) C 21 dX10_read_14 (by decide) h (fun c3 h => ?_) (fun c3 h => ?_)
  · refine k_iconst (pc := 21) (v := (0 : Int32)) C dX10_read_21 ciconst_0 ?_
    refine k_sub [0] rfl ?_
    exact k_X10_read_b22 C E z2.2 (0 : Int32) h
  · refine k_iconst (pc := 17) (v := (1 : Int32)) C dX10_read_17 ciconst_1 ?_
    refine k_goto (pc := 18) C 22 dX10_read_18 (by decide) ?_
    refine k_sub [0] rfl ?_
    exact k_X10_read_b22 C E z2.2 (1 : Int32) h
def m_X10_isChoice (x0 : Int32) : Option (Int32) := if x0 < 0 then (some (0 : Int32)) else (if (2 : Int32) < x0 then (some (0 : Int32)) else (some (1 : Int32)))
set_option maxHeartbeats 4000000 in
set_option maxRecDepth 100000 in
theorem kc_X10_isChoice {B : KB} {l : Launch} {T : TT} {x0 : Int32} {res : Int32} (h : m_X10_isChoice x0 = some res) : Kt B l 1 yX10_isChoice cX10_isChoice 1 (some .boolean) T [.int x0] (some (.int res)) T := by
  refine Kt.of (by decide) (Nat.le_of_ble_eq_true rfl) (fun X hX C E => ?_)
  subst hX
  have C : Cx B X "GriefEngine" cX10_isChoice 1 1 := C
  show Wk B X 1 T 0 [(0, .int x0)] []
  unfold m_X10_isChoice at h
  refine k_iload_n (pc := 0) C dX10_isChoice_0 0 rfl ?_
  refine k_if_lt (pc := 1) C 13 dX10_isChoice_1 (by decide) h (fun c2 h => ?_) (fun c2 h => ?_)
  · refine k_iconst (pc := 13) (v := (0 : Int32)) C dX10_isChoice_13 ciconst_0 ?_
    exact k_zret (pc := 14) C E rfl (some_i h) rfl dX10_isChoice_14
  · refine k_iload_n (pc := 4) C dX10_isChoice_4 0 rfl ?_
    refine k_iconst (pc := 5) (v := (2 : Int32)) C dX10_isChoice_5 ciconst_2 ?_
    refine k_icmp_gt (pc := 6) C 13 dX10_isChoice_6 (by decide) h (fun c1 h => ?_) (fun c1 h => ?_)
    · refine k_iconst (pc := 13) (v := (0 : Int32)) C dX10_isChoice_13 ciconst_0 ?_
      exact k_zret (pc := 14) C E rfl (some_i h) rfl dX10_isChoice_14
    · refine k_iconst (pc := 9) (v := (1 : Int32)) C dX10_isChoice_9 ciconst_1 ?_
      refine k_goto (pc := 10) C 14 dX10_isChoice_10 (by decide) ?_
      exact k_zret (pc := 14) C E rfl (some_i h) rfl dX10_isChoice_14
def m_X10_days_b17 (T : TT) : Option (Int32 × TT) := (m_X10_refuse T (-2 : Int32)).bind (fun z7 => some (z7.1, z7.2))
def m_X10_days (T : TT) (x1 : Int32) (x2 : Int32) : Option (Int32 × TT) := (m_X10_within x1 (1 : Int32) (99 : Int32)).bind (fun z1 => if z1 = 0 then (m_X10_days_b17 T) else ((m_X10_isChoice x2).bind (fun z2 => if z2 = 0 then (m_X10_days_b17 T) else ((m_X4_remember T 0).bind (fun z3 => (m_X4_passDays z3 0 x1 (-1 : Int32) x2).bind (fun z4 => some (z4.1, z4.2)))))))
set_option maxHeartbeats 4000000 in
set_option maxRecDepth 100000 in
theorem k_X10_days_b17 {B : KB} {X : KE} {res : Int32 × TT} (C : Cx B X "GriefEngine" cX10_days 3 6) (E : Cr B X (some .int) (some (.int res.1)) res.2) (T : TT) (h : m_X10_days_b17 T = some res) : Wk B X 3 T 17 [(0, .ref (B.1 4 0))] [] := by
  unfold m_X10_days_b17 at h
  refine k_aload_n (pc := 17) C dX10_days_17 0 rfl ?_
  refine k_bipush (pc := 18) (v := (-2 : Int32)) C dX10_days_18 cbipush_m2 ?_
  obtain ⟨z7, e7, h⟩ := bnd h
  refine k_callvI (pc := 20) C lk_X10_73 (by decide) ix_X10 wo_X10 rfl rfl (kc_X10_refuse e7) dX10_days_20 rfl rfl (Nat.le_of_ble_eq_true rfl) ?_
  exact k_iret (pc := 23) C E (some_1 h) (some_2 h) dX10_days_23
set_option maxHeartbeats 4000000 in
set_option maxRecDepth 100000 in
theorem kc_X10_days {B : KB} {l : Launch} {T : TT} {x1 : Int32} {x2 : Int32} {res : Int32 × TT} (h : m_X10_days T x1 x2 = some res) : Kt B l 6 yX10_days cX10_days 3 (some .int) T [.ref (B.1 4 0), .int x1, .int x2] (some (.int res.1)) res.2 := by
  refine Kt.of (by decide) (Nat.le_of_ble_eq_true rfl) (fun X hX C E => ?_)
  subst hX
  have C : Cx B X "GriefEngine" cX10_days 3 6 := C
  show Wk B X 3 T 0 [(0, .ref (B.1 4 0)), (1, .int x1), (2, .int x2)] []
  unfold m_X10_days at h
  refine k_iload_n (pc := 0) C dX10_days_0 1 rfl ?_
  refine k_iconst (pc := 1) (v := (1 : Int32)) C dX10_days_1 ciconst_1 ?_
  refine k_bipush (pc := 2) (v := (99 : Int32)) C dX10_days_2 cbipush_99 ?_
  obtain ⟨z1, e1, h⟩ := bnd h
  refine k_callsI (pc := 4) C lk_X10_69 (by decide) (kc_X10_within e1) dX10_days_4 rfl rfl (Nat.le_of_ble_eq_true rfl) ?_
  refine k_if_eq (pc := 7) C 17 dX10_days_7 (by decide) h (fun c6 h => ?_) (fun c6 h => ?_)
  · refine k_sub [0] rfl ?_
    exact k_X10_days_b17 C E T h
  · refine k_iload_n (pc := 10) C dX10_days_10 2 rfl ?_
    obtain ⟨z2, e2, h⟩ := bnd h
    refine k_callsI (pc := 11) C lk_X10_125 (by decide) (kc_X10_isChoice e2) dX10_days_11 rfl rfl (Nat.le_of_ble_eq_true rfl) ?_
    refine k_if_ne (pc := 14) C 24 dX10_days_14 (by decide) h (fun c5 h => ?_) (fun c5 h => ?_)
    · refine k_aload_n (pc := 24) C dX10_days_24 0 rfl ?_
      refine gf_X10_12 (pc := 25) C dX10_days_25 ?_
      obtain ⟨z3, e3, h⟩ := bnd h
      refine k_callvV (pc := 28) C lk_X10_129 (by decide) (ix_X4 lt4_0) (wo_X4 lt4_0) rfl rfl (kc_X4_remember lt4_0 e3) dX10_days_28 rfl rfl (Nat.le_of_ble_eq_true rfl) ?_
      refine k_aload_n (pc := 31) C dX10_days_31 0 rfl ?_
      refine gf_X10_12 (pc := 32) C dX10_days_32 ?_
      refine k_iload_n (pc := 35) C dX10_days_35 1 rfl ?_
      refine k_iconst (pc := 36) (v := (-1 : Int32)) C dX10_days_36 ciconst_m1 ?_
      refine k_iload_n (pc := 37) C dX10_days_37 2 rfl ?_
      obtain ⟨z4, e4, h⟩ := bnd h
      refine k_callvI (pc := 38) C lk_X10_111 (by decide) (ix_X4 lt4_0) (wo_X4 lt4_0) rfl rfl (kc_X4_passDays lt4_0 e4) dX10_days_38 rfl rfl (Nat.le_of_ble_eq_true rfl) ?_
      exact k_iret (pc := 41) C E (some_1 h) (some_2 h) dX10_days_41
    · refine k_sub [0] rfl ?_
      exact k_X10_days_b17 C E T h
