def m_X11_keep_h53 (rec53 : TT → Int32 → Option (TT)) (T : TT) (x1 : Int32) : Option (TT) := if (13 : Int32) ≤ x1 then (bT (sA T 10 1 3 ((T.1 10 1 3) + (1 : Int32))) (fun T6 => some T6)) else (if inb ((4 : Int32) + x1) 175 then (if inb (((71 : Int32) + ((13 : Int32) * (T.1 10 1 3))) + x1) 175 then bT (sA T 10 1 (Int32.toNatClampNeg (((71 : Int32) + ((13 : Int32) * (T.1 10 1 3))) + x1)) (T.1 10 1 (Int32.toNatClampNeg ((4 : Int32) + x1)))) (fun T7 => bT (x1 + (1 : Int32)) (fun y8 => rec53 T7 y8)) else none) else none)
def m_X11_keep_l53 : Nat → TT → Int32 → Option (TT)
  | 0 => fun _ _ => none
  | n + 1 => fun T x1 => m_X11_keep_h53 (m_X11_keep_l53 n) T x1
def m_X11_keep_b51 (T : TT) : Option (TT) := m_X11_keep_l53 FU T (0 : Int32)
def m_X11_keep_h13 (rec13 : TT → Int32 → Option (TT)) (T : TT) (x1 : Int32) : Option (TT) := if (91 : Int32) ≤ x1 then (bT (sA T 10 1 3 (7 : Int32)) (fun T2 => m_X11_keep_b51 T2)) else (if inb ((84 : Int32) + x1) 175 then (if inb ((71 : Int32) + x1) 175 then bT (sA T 10 1 (Int32.toNatClampNeg ((71 : Int32) + x1)) (T.1 10 1 (Int32.toNatClampNeg ((84 : Int32) + x1)))) (fun T3 => bT (x1 + (1 : Int32)) (fun y4 => rec13 T3 y4)) else none) else none)
def m_X11_keep_l13 : Nat → TT → Int32 → Option (TT)
  | 0 => fun _ _ => none
  | n + 1 => fun T x1 => m_X11_keep_h13 (m_X11_keep_l13 n) T x1
def m_X11_keep (T : TT) : Option (TT) := if (T.1 10 1 3) = (8 : Int32) then (m_X11_keep_l13 FU T (0 : Int32)) else (m_X11_keep_b51 T)
set_option maxHeartbeats 4000000 in
set_option maxRecDepth 100000 in
theorem k_X11_keep_h53 {B : KB} {X : KE} {rec53 : TT → Int32 → Option (TT)} {res : TT} (C : Cx B X "GriefEngineModel" cX11_keep 2 1) (E : Cr B X none none res) (hrec53 : ∀ (T : TT) (x1 : Int32), rec53 T x1 = some res → Wk B X 2 T 53 [(0, .ref (B.1 10 0)), (1, .int x1)] []) (T : TT) (x1 : Int32) (h : m_X11_keep_h53 rec53 T x1 = some res) : Wk B X 2 T 53 [(0, .ref (B.1 10 0)), (1, .int x1)] [] := by
  unfold m_X11_keep_h53 at h
  refine k_iload_n (pc := 53) C dX11_keep_53 1 rfl ?_
  refine k_bipush (pc := 54) (v := (13 : Int32)) C dX11_keep_54 cbipush_13 ?_
  refine k_icmp_ge (pc := 56) C 92 dX11_keep_56 (by decide) h (fun c9 h => ?_) (fun c9 h => ?_)
  · refine k_aload_n (pc := 92) C dX11_keep_92 0 rfl ?_
    refine gf_X11_7 (pc := 93) C dX11_keep_93 ?_
    refine k_iconst (pc := 96) (v := (3 : Int32)) C dX11_keep_96 ciconst_3 ?_
    refine k_dup2 (pc := 97) C dX11_keep_97 rfl rfl ?_
    refine k_ialdc (pc := 98) C ia_10_1 3 dX11_keep_98 (by decide) (by decide) ?_
    refine k_iconst (pc := 99) (v := (1 : Int32)) C dX11_keep_99 ciconst_1 ?_
    refine k_iadd (pc := 100) C dX11_keep_100 ?_
    refine k_iastc (pc := 101) C ia_10_1 3 dX11_keep_101 (by decide) (by decide) ?_
    refine k_nT h (fun T6 h => ?_)
    exact k_vret (pc := 102) C E (some_i h) dX11_keep_102
  · refine k_aload_n (pc := 59) C dX11_keep_59 0 rfl ?_
    refine gf_X11_7 (pc := 60) C dX11_keep_60 ?_
    refine k_bipush (pc := 63) (v := (71 : Int32)) C dX11_keep_63 cbipush_71 ?_
    refine k_bipush (pc := 65) (v := (13 : Int32)) C dX11_keep_65 cbipush_13 ?_
    refine k_aload_n (pc := 67) C dX11_keep_67 0 rfl ?_
    refine gf_X11_7 (pc := 68) C dX11_keep_68 ?_
    refine k_iconst (pc := 71) (v := (3 : Int32)) C dX11_keep_71 ciconst_3 ?_
    refine k_ialdc (pc := 72) C ia_10_1 3 dX11_keep_72 (by decide) (by decide) ?_
    refine k_imul (pc := 73) C dX11_keep_73 ?_
    refine k_iadd (pc := 74) C dX11_keep_74 ?_
    refine k_iload_n (pc := 75) C dX11_keep_75 1 rfl ?_
    refine k_iadd (pc := 76) C dX11_keep_76 ?_
    refine k_aload_n (pc := 77) C dX11_keep_77 0 rfl ?_
    refine gf_X11_7 (pc := 78) C dX11_keep_78 ?_
    refine k_iconst (pc := 81) (v := (4 : Int32)) C dX11_keep_81 ciconst_4 ?_
    refine k_iload_n (pc := 82) C dX11_keep_82 1 rfl ?_
    refine k_iadd (pc := 83) C dX11_keep_83 ?_
    refine k_iald (pc := 84) C ia_10_1 dX11_keep_84 h (fun h => ?_)
    refine k_iast (pc := 85) C ia_10_1 dX11_keep_85 h (fun h => ?_)
    refine k_nT h (fun T7 h => ?_)
    refine k_iincN (pc := 86) (x := x1) (c := (1 : Int32)) C (fun y8 => [(1, .int y8), (0, .ref (B.1 10 0))]) dX11_keep_86 1 rfl ciconst_1 (by decide) (fun _ => rfl) h (fun y8 h => ?_)
    refine k_goto (pc := 89) C 53 dX11_keep_89 (by decide) ?_
    refine k_sub [1, 0] rfl ?_
    exact hrec53 T7 y8 h
set_option maxHeartbeats 4000000 in
set_option maxRecDepth 100000 in
theorem k_X11_keep_l53 {B : KB} {X : KE} {res : TT} (C : Cx B X "GriefEngineModel" cX11_keep 2 1) (E : Cr B X none none res) : ∀ (n : Nat) (T : TT) (x1 : Int32) (h : m_X11_keep_l53 n T x1 = some res), Wk B X 2 T 53 [(0, .ref (B.1 10 0)), (1, .int x1)] [] := by
  intro n
  induction n with
  | zero =>
    intro T x1 h
    exact no_some h
  | succ n ih =>
    intro T x1 h
    exact k_X11_keep_h53 C E (fun T x1 h => ih T x1 h) T x1 h
set_option maxHeartbeats 4000000 in
set_option maxRecDepth 100000 in
theorem k_X11_keep_b51 {B : KB} {X : KE} {res : TT} (C : Cx B X "GriefEngineModel" cX11_keep 2 1) (E : Cr B X none none res) (T : TT) (h : m_X11_keep_b51 T = some res) : Wk B X 2 T 51 [(0, .ref (B.1 10 0))] [] := by
  unfold m_X11_keep_b51 at h
  refine k_iconst (pc := 51) (v := (0 : Int32)) C dX11_keep_51 ciconst_0 ?_
  refine k_istore_n (pc := 52) C [(1, .int (0 : Int32)), (0, .ref (B.1 10 0))] dX11_keep_52 (by decide) rfl ?_
  refine k_sub [1, 0] rfl ?_
  exact k_X11_keep_l53 C E FU T (0 : Int32) h
set_option maxHeartbeats 4000000 in
set_option maxRecDepth 100000 in
theorem k_X11_keep_h13 {B : KB} {X : KE} {rec13 : TT → Int32 → Option (TT)} {res : TT} (C : Cx B X "GriefEngineModel" cX11_keep 2 1) (E : Cr B X none none res) (hrec13 : ∀ (T : TT) (x1 : Int32), rec13 T x1 = some res → Wk B X 2 T 13 [(0, .ref (B.1 10 0)), (1, .int x1)] []) (T : TT) (x1 : Int32) (h : m_X11_keep_h13 rec13 T x1 = some res) : Wk B X 2 T 13 [(0, .ref (B.1 10 0)), (1, .int x1)] [] := by
  unfold m_X11_keep_h13 at h
  refine k_iload_n (pc := 13) C dX11_keep_13 1 rfl ?_
  refine k_bipush (pc := 14) (v := (91 : Int32)) C dX11_keep_14 cbipush_91 ?_
  refine k_icmp_ge (pc := 16) C 43 dX11_keep_16 (by decide) h (fun c5 h => ?_) (fun c5 h => ?_)
  · refine k_aload_n (pc := 43) C dX11_keep_43 0 rfl ?_
    refine gf_X11_7 (pc := 44) C dX11_keep_44 ?_
    refine k_iconst (pc := 47) (v := (3 : Int32)) C dX11_keep_47 ciconst_3 ?_
    refine k_bipush (pc := 48) (v := (7 : Int32)) C dX11_keep_48 cbipush_7 ?_
    refine k_iastc (pc := 50) C ia_10_1 3 dX11_keep_50 (by decide) (by decide) ?_
    refine k_nT h (fun T2 h => ?_)
    refine k_sub [0] rfl ?_
    exact k_X11_keep_b51 C E T2 h
  · refine k_aload_n (pc := 19) C dX11_keep_19 0 rfl ?_
    refine gf_X11_7 (pc := 20) C dX11_keep_20 ?_
    refine k_bipush (pc := 23) (v := (71 : Int32)) C dX11_keep_23 cbipush_71 ?_
    refine k_iload_n (pc := 25) C dX11_keep_25 1 rfl ?_
    refine k_iadd (pc := 26) C dX11_keep_26 ?_
    refine k_aload_n (pc := 27) C dX11_keep_27 0 rfl ?_
    refine gf_X11_7 (pc := 28) C dX11_keep_28 ?_
    refine k_bipush (pc := 31) (v := (84 : Int32)) C dX11_keep_31 cbipush_84 ?_
    refine k_iload_n (pc := 33) C dX11_keep_33 1 rfl ?_
    refine k_iadd (pc := 34) C dX11_keep_34 ?_
    refine k_iald (pc := 35) C ia_10_1 dX11_keep_35 h (fun h => ?_)
    refine k_iast (pc := 36) C ia_10_1 dX11_keep_36 h (fun h => ?_)
    refine k_nT h (fun T3 h => ?_)
    refine k_iincN (pc := 37) (x := x1) (c := (1 : Int32)) C (fun y4 => [(1, .int y4), (0, .ref (B.1 10 0))]) dX11_keep_37 1 rfl ciconst_1 (by decide) (fun _ => rfl) h (fun y4 h => ?_)
    refine k_goto (pc := 40) C 13 dX11_keep_40 (by decide) ?_
    refine k_sub [1, 0] rfl ?_
    exact hrec13 T3 y4 h
set_option maxHeartbeats 4000000 in
set_option maxRecDepth 100000 in
theorem k_X11_keep_l13 {B : KB} {X : KE} {res : TT} (C : Cx B X "GriefEngineModel" cX11_keep 2 1) (E : Cr B X none none res) : ∀ (n : Nat) (T : TT) (x1 : Int32) (h : m_X11_keep_l13 n T x1 = some res), Wk B X 2 T 13 [(0, .ref (B.1 10 0)), (1, .int x1)] [] := by
  intro n
  induction n with
  | zero =>
    intro T x1 h
    exact no_some h
  | succ n ih =>
    intro T x1 h
    exact k_X11_keep_h13 C E (fun T x1 h => ih T x1 h) T x1 h
set_option maxHeartbeats 4000000 in
set_option maxRecDepth 100000 in
theorem kc_X11_keep {B : KB} {l : Launch} {T : TT} {res : TT} (h : m_X11_keep T = some res) : Kt B l 1 yX11_keep cX11_keep 2 none T [.ref (B.1 10 0)] none res := by
  refine Kt.of (by decide) (Nat.le_of_ble_eq_true rfl) (fun X hX C E => ?_)
  subst hX
  have C : Cx B X "GriefEngineModel" cX11_keep 2 1 := C
  show Wk B X 2 T 0 [(0, .ref (B.1 10 0))] []
  unfold m_X11_keep at h
  refine k_aload_n (pc := 0) C dX11_keep_0 0 rfl ?_
  refine gf_X11_7 (pc := 1) C dX11_keep_1 ?_
  refine k_iconst (pc := 4) (v := (3 : Int32)) C dX11_keep_4 ciconst_3 ?_
  refine k_ialdc (pc := 5) C ia_10_1 3 dX11_keep_5 (by decide) (by decide) ?_
  refine k_bipush (pc := 6) (v := (8 : Int32)) C dX11_keep_6 cbipush_8 ?_
  refine k_icmp_ne (pc := 8) C 51 dX11_keep_8 (by decide) h (fun c1 h => ?_) (fun c1 h => ?_)
  · refine k_sub [0] rfl ?_
    exact k_X11_keep_b51 C E T h
  · refine k_iconst (pc := 11) (v := (0 : Int32)) C dX11_keep_11 ciconst_0 ?_
    refine k_istore_n (pc := 12) C [(1, .int (0 : Int32)), (0, .ref (B.1 10 0))] dX11_keep_12 (by decide) rfl ?_
    refine k_sub [1, 0] rfl ?_
    exact k_X11_keep_l13 C E FU T (0 : Int32) h
def m_X11_passDay_b57 (ag af an : Nat) (rec6 : TT → Int32 → Int32 → Int32 → Int32 → Option (Int32 × TT)) (T : TT) (x2 : Int32) (x3 : Int32) (x4 : Int32) (x5 : Int32) (s1 : Int32) (s2 : Int32) (s3 : Int32) : Option (Int32 × TT) := (m_X11_goDay T s1 s2 s3).bind (fun z7 => if inb ((4 : Int32) + x5) an then bT (sA z7 ag af (Int32.toNatClampNeg ((4 : Int32) + x5)) (z7.2.1 10 6)) (fun T8 => if inb ((10 : Int32) + x5) an then (if inb ((10 : Int32) + x5) an then bT (sA T8 ag af (Int32.toNatClampNeg ((10 : Int32) + x5)) ((T8.1 ag af (Int32.toNatClampNeg ((10 : Int32) + x5))) + (T8.2.1 10 7))) (fun T9 => bT (x4 + (T9.2.1 10 7)) (fun y10 => bT (x5 + (1 : Int32)) (fun y11 => rec6 T9 x2 x3 y10 y11))) else none) else none) else none)
def m_X11_passDay_b52 (ag af an : Nat) (rec6 : TT → Int32 → Int32 → Int32 → Int32 → Option (Int32 × TT)) (T : TT) (x2 : Int32) (x3 : Int32) (x4 : Int32) (x5 : Int32) (s1 : Int32) (s2 : Int32) : Option (Int32 × TT) := m_X11_passDay_b57 ag af an rec6 T x2 x3 x4 x5 s1 s2 x3
def m_X11_passDay_h6 (ag af an : Nat) (rec6 : TT → Int32 → Int32 → Int32 → Int32 → Option (Int32 × TT)) (T : TT) (x2 : Int32) (x3 : Int32) (x4 : Int32) (x5 : Int32) : Option (Int32 × TT) := if inb (0 : Int32) an then (if (T.1 ag af (Int32.toNatClampNeg (0 : Int32))) ≤ x5 then (if inb (16 : Int32) an then (if inb (16 : Int32) an then bT (sA T ag af (Int32.toNatClampNeg (16 : Int32)) ((T.1 ag af (Int32.toNatClampNeg (16 : Int32))) + (1 : Int32))) (fun T1 => some (x4, T1)) else none) else none) else (if inb ((4 : Int32) + x5) an then (bT (sI T 10 6 (T.1 ag af (Int32.toNatClampNeg ((4 : Int32) + x5)))) (fun T2 => bT (sI T2 10 7 (0 : Int32)) (fun T3 => if inb ((17 : Int32) + x5) an then (if inb (16 : Int32) an then (if x2 = (-1 : Int32) then (m_X11_passDay_b52 ag af an rec6 T3 x2 x3 x4 x5 (T3.1 ag af (Int32.toNatClampNeg ((17 : Int32) + x5))) (T3.1 ag af (Int32.toNatClampNeg (16 : Int32)))) else (if x2 = x5 then (m_X11_passDay_b52 ag af an rec6 T3 x2 x3 x4 x5 (T3.1 ag af (Int32.toNatClampNeg ((17 : Int32) + x5))) (T3.1 ag af (Int32.toNatClampNeg (16 : Int32)))) else (m_X11_passDay_b57 ag af an rec6 T3 x2 x3 x4 x5 (T3.1 ag af (Int32.toNatClampNeg ((17 : Int32) + x5))) (T3.1 ag af (Int32.toNatClampNeg (16 : Int32))) (2 : Int32)))) else none) else none))) else none)) else none
def m_X11_passDay_l6 (ag af an : Nat) : Nat → TT → Int32 → Int32 → Int32 → Int32 → Option (Int32 × TT)
  | 0 => fun _ _ _ _ _ => none
  | n + 1 => fun T x2 x3 x4 x5 => m_X11_passDay_h6 ag af an (m_X11_passDay_l6 ag af an n) T x2 x3 x4 x5
def m_X11_passDay (T : TT) (ag af an : Nat) (x2 : Int32) (x3 : Int32) : Option (Int32 × TT) := m_X11_passDay_l6 ag af an FU T x2 x3 (0 : Int32) (0 : Int32)
set_option maxHeartbeats 4000000 in
set_option maxRecDepth 100000 in
theorem k_X11_passDay_b57 {B : KB} {X : KE} {ag af an : Nat} {rec6 : TT → Int32 → Int32 → Int32 → Int32 → Option (Int32 × TT)} {res : Int32 × TT} (C : Cx B X "GriefEngineModel" cX11_passDay 6 4) (E : Cr B X (some .int) (some (.int res.1)) res.2) (hI : isI B ag af an) (hrec6 : ∀ (T : TT) (x2 : Int32) (x3 : Int32) (x4 : Int32) (x5 : Int32), rec6 T x2 x3 x4 x5 = some res → Wk B X 6 T 6 [(0, .ref (B.1 10 0)), (1, .ref (B.1 ag af)), (2, .int x2), (3, .int x3), (4, .int x4), (5, .int x5)] []) (T : TT) (x2 : Int32) (x3 : Int32) (x4 : Int32) (x5 : Int32) (s1 : Int32) (s2 : Int32) (s3 : Int32) (h : m_X11_passDay_b57 ag af an rec6 T x2 x3 x4 x5 s1 s2 s3 = some res) : Wk B X 6 T 57 [(0, .ref (B.1 10 0)), (1, .ref (B.1 ag af)), (2, .int x2), (3, .int x3), (4, .int x4), (5, .int x5)] [.int s3, .int s2, .int s1, .ref (B.1 10 0)] := by
  unfold m_X11_passDay_b57 at h
  obtain ⟨z7, e7, h⟩ := bnd h
  refine k_callvV (pc := 57) C lk_X11_101 (by decide) ix_X11 wo_X11 rfl rfl (kc_X11_goDay e7) dX11_passDay_57 rfl rfl (Nat.le_of_ble_eq_true rfl) ?_
  refine k_aload_n (pc := 60) C dX11_passDay_60 1 rfl ?_
  refine k_iconst (pc := 61) (v := (4 : Int32)) C dX11_passDay_61 ciconst_4 ?_
  refine k_iload (pc := 62) C dX11_passDay_62 5 rfl ?_
  refine k_iadd (pc := 64) C dX11_passDay_64 ?_
  refine k_aload_n (pc := 65) C dX11_passDay_65 0 rfl ?_
  refine gf_X11_88 (pc := 66) C dX11_passDay_66 ?_
  refine k_iast (pc := 69) C hI dX11_passDay_69 h (fun h => ?_)
  refine k_nT h (fun T8 h => ?_)
  refine k_aload_n (pc := 70) C dX11_passDay_70 1 rfl ?_
  refine k_bipush (pc := 71) (v := (10 : Int32)) C dX11_passDay_71 cbipush_10 ?_
  refine k_iload (pc := 73) C dX11_passDay_73 5 rfl ?_
  refine k_iadd (pc := 75) C dX11_passDay_75 ?_
  refine k_dup2 (pc := 76) C dX11_passDay_76 rfl rfl ?_
  refine k_iald (pc := 77) C hI dX11_passDay_77 h (fun h => ?_)
  refine k_aload_n (pc := 78) C dX11_passDay_78 0 rfl ?_
  refine gf_X11_84 (pc := 79) C dX11_passDay_79 ?_
  refine k_iadd (pc := 82) C dX11_passDay_82 ?_
  refine k_iast (pc := 83) C hI dX11_passDay_83 h (fun h => ?_)
  refine k_nT h (fun T9 h => ?_)
  refine k_iload (pc := 84) C dX11_passDay_84 4 rfl ?_
  refine k_aload_n (pc := 86) C dX11_passDay_86 0 rfl ?_
  refine gf_X11_84 (pc := 87) C dX11_passDay_87 ?_
  refine k_iadd (pc := 90) C dX11_passDay_90 ?_
  refine k_nI h (fun y10 h => ?_)
  refine k_istore (pc := 91) C [(4, .int y10), (0, .ref (B.1 10 0)), (1, .ref (B.1 ag af)), (2, .int x2), (3, .int x3), (5, .int x5)] dX11_passDay_91 (by decide) rfl ?_
  refine k_iincN (pc := 93) (x := x5) (c := (1 : Int32)) C (fun y11 => [(5, .int y11), (4, .int y10), (0, .ref (B.1 10 0)), (1, .ref (B.1 ag af)), (2, .int x2), (3, .int x3)]) dX11_passDay_93 5 rfl ciconst_1 (by decide) (fun _ => rfl) h (fun y11 h => ?_)
  refine k_goto (pc := 96) C 6 dX11_passDay_96 (by decide) ?_
  refine k_sub [2, 3, 4, 5, 1, 0] rfl ?_
  exact hrec6 T9 x2 x3 y10 y11 h
set_option maxHeartbeats 4000000 in
set_option maxRecDepth 100000 in
theorem k_X11_passDay_b52 {B : KB} {X : KE} {ag af an : Nat} {rec6 : TT → Int32 → Int32 → Int32 → Int32 → Option (Int32 × TT)} {res : Int32 × TT} (C : Cx B X "GriefEngineModel" cX11_passDay 6 4) (E : Cr B X (some .int) (some (.int res.1)) res.2) (hI : isI B ag af an) (hrec6 : ∀ (T : TT) (x2 : Int32) (x3 : Int32) (x4 : Int32) (x5 : Int32), rec6 T x2 x3 x4 x5 = some res → Wk B X 6 T 6 [(0, .ref (B.1 10 0)), (1, .ref (B.1 ag af)), (2, .int x2), (3, .int x3), (4, .int x4), (5, .int x5)] []) (T : TT) (x2 : Int32) (x3 : Int32) (x4 : Int32) (x5 : Int32) (s1 : Int32) (s2 : Int32) (h : m_X11_passDay_b52 ag af an rec6 T x2 x3 x4 x5 s1 s2 = some res) : Wk B X 6 T 52 [(0, .ref (B.1 10 0)), (1, .ref (B.1 ag af)), (2, .int x2), (3, .int x3), (4, .int x4), (5, .int x5)] [.int s2, .int s1, .ref (B.1 10 0)] := by
  unfold m_X11_passDay_b52 at h
  refine k_iload_n (pc := 52) C dX11_passDay_52 3 rfl ?_
  refine k_goto (pc := 53) C 57 dX11_passDay_53 (by decide) ?_
  refine k_sub [0, 1, 2, 3, 4, 5] rfl ?_
  exact k_X11_passDay_b57 C E hI hrec6 T x2 x3 x4 x5 s1 s2 x3 h
set_option maxHeartbeats 4000000 in
set_option maxRecDepth 100000 in
theorem k_X11_passDay_h6 {B : KB} {X : KE} {ag af an : Nat} {rec6 : TT → Int32 → Int32 → Int32 → Int32 → Option (Int32 × TT)} {res : Int32 × TT} (C : Cx B X "GriefEngineModel" cX11_passDay 6 4) (E : Cr B X (some .int) (some (.int res.1)) res.2) (hI : isI B ag af an) (hrec6 : ∀ (T : TT) (x2 : Int32) (x3 : Int32) (x4 : Int32) (x5 : Int32), rec6 T x2 x3 x4 x5 = some res → Wk B X 6 T 6 [(0, .ref (B.1 10 0)), (1, .ref (B.1 ag af)), (2, .int x2), (3, .int x3), (4, .int x4), (5, .int x5)] []) (T : TT) (x2 : Int32) (x3 : Int32) (x4 : Int32) (x5 : Int32) (h : m_X11_passDay_h6 ag af an rec6 T x2 x3 x4 x5 = some res) : Wk B X 6 T 6 [(0, .ref (B.1 10 0)), (1, .ref (B.1 ag af)), (2, .int x2), (3, .int x3), (4, .int x4), (5, .int x5)] [] := by
  unfold m_X11_passDay_h6 at h
  refine k_iload (pc := 6) C dX11_passDay_6 5 rfl ?_
  refine k_aload_n (pc := 8) C dX11_passDay_8 1 rfl ?_
  refine k_iconst (pc := 9) (v := (0 : Int32)) C dX11_passDay_9 ciconst_0 ?_
  refine k_iald (pc := 10) C hI dX11_passDay_10 h (fun h => ?_)
  refine k_icmp_ge (pc := 11) C 99 dX11_passDay_11 (by decide) h (fun c6 h => ?_) (fun c6 h => ?_)
  · refine k_aload_n (pc := 99) C dX11_passDay_99 1 rfl ?_
    refine k_bipush (pc := 100) (v := (16 : Int32)) C dX11_passDay_100 cbipush_16 ?_
    refine k_dup2 (pc := 102) C dX11_passDay_102 rfl rfl ?_
    refine k_iald (pc := 103) C hI dX11_passDay_103 h (fun h => ?_)
    refine k_iconst (pc := 104) (v := (1 : Int32)) C dX11_passDay_104 ciconst_1 ?_
    refine k_iadd (pc := 105) C dX11_passDay_105 ?_
    refine k_iast (pc := 106) C hI dX11_passDay_106 h (fun h => ?_)
    refine k_nT h (fun T1 h => ?_)
    refine k_iload (pc := 107) C dX11_passDay_107 4 rfl ?_
    exact k_iret (pc := 109) C E (some_1 h) (some_2 h) dX11_passDay_109
  · refine k_aload_n (pc := 14) C dX11_passDay_14 0 rfl ?_
    refine k_aload_n (pc := 15) C dX11_passDay_15 1 rfl ?_
    refine k_iconst (pc := 16) (v := (4 : Int32)) C dX11_passDay_16 ciconst_4 ?_
    refine k_iload (pc := 17) C dX11_passDay_17 5 rfl ?_
    refine k_iadd (pc := 19) C dX11_passDay_19 ?_
    refine k_iald (pc := 20) C hI dX11_passDay_20 h (fun h => ?_)
    refine pf_X11_88 (pc := 21) C dX11_passDay_21 ?_
    refine k_nT h (fun T2 h => ?_)
    refine k_aload_n (pc := 24) C dX11_passDay_24 0 rfl ?_
    refine k_iconst (pc := 25) (v := (0 : Int32)) C dX11_passDay_25 ciconst_0 ?_
    refine pf_X11_84 (pc := 26) C dX11_passDay_26 ?_
    refine k_nT h (fun T3 h => ?_)
    refine k_aload_n (pc := 29) C dX11_passDay_29 0 rfl ?_
    refine k_aload_n (pc := 30) C dX11_passDay_30 1 rfl ?_
    refine k_bipush (pc := 31) (v := (17 : Int32)) C dX11_passDay_31 cbipush_17 ?_
    refine k_iload (pc := 33) C dX11_passDay_33 5 rfl ?_
    refine k_iadd (pc := 35) C dX11_passDay_35 ?_
    refine k_iald (pc := 36) C hI dX11_passDay_36 h (fun h => ?_)
    refine k_aload_n (pc := 37) C dX11_passDay_37 1 rfl ?_
    refine k_bipush (pc := 38) (v := (16 : Int32)) C dX11_passDay_38 cbipush_16 ?_
    refine k_iald (pc := 40) C hI dX11_passDay_40 h (fun h => ?_)
    refine k_iload_n (pc := 41) C dX11_passDay_41 2 rfl ?_
    refine k_iconst (pc := 42) (v := (-1 : Int32)) C dX11_passDay_42 ciconst_m1 ?_
    refine k_icmp_eq (pc := 43) C 52 dX11_passDay_43 (by decide) h (fun c5 h => ?_) (fun c5 h => ?_)
    · refine k_sub [0, 1, 2, 3, 4, 5] rfl ?_
      exact k_X11_passDay_b52 C E hI hrec6 T3 x2 x3 x4 x5 (T3.1 ag af (Int32.toNatClampNeg ((17 : Int32) + x5))) (T3.1 ag af (Int32.toNatClampNeg (16 : Int32))) h
    · refine k_iload_n (pc := 46) C dX11_passDay_46 2 rfl ?_
      refine k_iload (pc := 47) C dX11_passDay_47 5 rfl ?_
      refine k_icmp_ne (pc := 49) C 56 dX11_passDay_49 (by decide) h (fun c4 h => ?_) (fun c4 h => ?_)
      · refine k_iconst (pc := 56) (v := (2 : Int32)) C dX11_passDay_56 ciconst_2 ?_
        refine k_sub [0, 1, 2, 3, 4, 5] rfl ?_
        exact k_X11_passDay_b57 C E hI hrec6 T3 x2 x3 x4 x5 (T3.1 ag af (Int32.toNatClampNeg ((17 : Int32) + x5))) (T3.1 ag af (Int32.toNatClampNeg (16 : Int32))) (2 : Int32) h
      · refine k_sub [0, 1, 2, 3, 4, 5] rfl ?_
        exact k_X11_passDay_b52 C E hI hrec6 T3 x2 x3 x4 x5 (T3.1 ag af (Int32.toNatClampNeg ((17 : Int32) + x5))) (T3.1 ag af (Int32.toNatClampNeg (16 : Int32))) h
set_option maxHeartbeats 4000000 in
set_option maxRecDepth 100000 in
theorem k_X11_passDay_l6 {B : KB} {X : KE} {ag af an : Nat} {res : Int32 × TT} (C : Cx B X "GriefEngineModel" cX11_passDay 6 4) (E : Cr B X (some .int) (some (.int res.1)) res.2) (hI : isI B ag af an) : ∀ (n : Nat) (T : TT) (x2 : Int32) (x3 : Int32) (x4 : Int32) (x5 : Int32) (h : m_X11_passDay_l6 ag af an n T x2 x3 x4 x5 = some res), Wk B X 6 T 6 [(0, .ref (B.1 10 0)), (1, .ref (B.1 ag af)), (2, .int x2), (3, .int x3), (4, .int x4), (5, .int x5)] [] := by
  intro n
  induction n with
  | zero =>
    intro T x2 x3 x4 x5 h
    exact no_some h
  | succ n ih =>
    intro T x2 x3 x4 x5 h
    exact k_X11_passDay_h6 C E hI (fun T x2 x3 x4 x5 h => ih T x2 x3 x4 x5 h) T x2 x3 x4 x5 h
set_option maxHeartbeats 4000000 in
set_option maxRecDepth 100000 in
theorem kc_X11_passDay {B : KB} {l : Launch} {T : TT} {ag af an : Nat} {x2 : Int32} {x3 : Int32} {res : Int32 × TT} (hI : isI B ag af an) (h : m_X11_passDay T ag af an x2 x3 = some res) : Kt B l 4 yX11_passDay cX11_passDay 6 (some .int) T [.ref (B.1 10 0), .ref (B.1 ag af), .int x2, .int x3] (some (.int res.1)) res.2 := by
  refine Kt.of (by decide) (Nat.le_of_ble_eq_true rfl) (fun X hX C E => ?_)
  subst hX
  have C : Cx B X "GriefEngineModel" cX11_passDay 6 4 := C
  show Wk B X 6 T 0 [(0, .ref (B.1 10 0)), (1, .ref (B.1 ag af)), (2, .int x2), (3, .int x3)] []
  unfold m_X11_passDay at h
  refine k_iconst (pc := 0) (v := (0 : Int32)) C dX11_passDay_0 ciconst_0 ?_
  refine k_istore (pc := 1) C [(4, .int (0 : Int32)), (0, .ref (B.1 10 0)), (1, .ref (B.1 ag af)), (2, .int x2), (3, .int x3)] dX11_passDay_1 (by decide) rfl ?_
  refine k_iconst (pc := 3) (v := (0 : Int32)) C dX11_passDay_3 ciconst_0 ?_
  refine k_istore (pc := 4) C [(5, .int (0 : Int32)), (4, .int (0 : Int32)), (0, .ref (B.1 10 0)), (1, .ref (B.1 ag af)), (2, .int x2), (3, .int x3)] dX11_passDay_4 (by decide) rfl ?_
  refine k_sub [2, 3, 4, 5, 1, 0] rfl ?_
  exact k_X11_passDay_l6 C E hI FU T x2 x3 (0 : Int32) (0 : Int32) h
def m_X11_days_h35 (rec35 : TT → Int32 → Int32 → Int32 → Int32 → Option (Int32 × TT)) (T : TT) (x1 : Int32) (x2 : Int32) (x3 : Int32) (x4 : Int32) : Option (Int32 × TT) := if x1 ≤ x4 then (some (x3, T)) else (if (9999 : Int32) ≤ (T.1 10 1 16) then (some (x3, T)) else ((m_X11_passDay T 10 1 175 (-1 : Int32) x2).bind (fun z6 => bT (x3 + z6.1) (fun y7 => bT (x4 + (1 : Int32)) (fun y8 => rec35 z6.2 x1 x2 y7 y8)))))
def m_X11_days_l35 : Nat → TT → Int32 → Int32 → Int32 → Int32 → Option (Int32 × TT)
  | 0 => fun _ _ _ _ _ => none
  | n + 1 => fun T x1 x2 x3 x4 => m_X11_days_h35 (m_X11_days_l35 n) T x1 x2 x3 x4
def m_X11_days_b19 (T : TT) : Option (Int32 × TT) := (m_X11_bad T (-2 : Int32)).bind (fun z11 => some (z11.1, z11.2))
def m_X11_days (T : TT) (x1 : Int32) (x2 : Int32) : Option (Int32 × TT) := (m_X11_in (x1.toInt64) (1 : Int64) (99 : Int64)).bind (fun z1 => if z1 = 0 then (m_X11_days_b19 T) else ((m_X11_isChoice x2).bind (fun z2 => if z2 = 0 then (m_X11_days_b19 T) else ((m_X11_keep T).bind (fun z3 => m_X11_days_l35 FU z3 x1 x2 (0 : Int32) (0 : Int32))))))
set_option maxHeartbeats 4000000 in
set_option maxRecDepth 100000 in
theorem k_X11_days_h35 {B : KB} {X : KE} {rec35 : TT → Int32 → Int32 → Int32 → Int32 → Option (Int32 × TT)} {res : Int32 × TT} (C : Cx B X "GriefEngineModel" cX11_days 5 5) (E : Cr B X (some .int) (some (.int res.1)) res.2) (hrec35 : ∀ (T : TT) (x1 : Int32) (x2 : Int32) (x3 : Int32) (x4 : Int32), rec35 T x1 x2 x3 x4 = some res → Wk B X 5 T 35 [(0, .ref (B.1 10 0)), (1, .int x1), (2, .int x2), (3, .int x3), (4, .int x4)] []) (T : TT) (x1 : Int32) (x2 : Int32) (x3 : Int32) (x4 : Int32) (h : m_X11_days_h35 rec35 T x1 x2 x3 x4 = some res) : Wk B X 5 T 35 [(0, .ref (B.1 10 0)), (1, .int x1), (2, .int x2), (3, .int x3), (4, .int x4)] [] := by
  unfold m_X11_days_h35 at h
  refine k_iload (pc := 35) C dX11_days_35 4 rfl ?_
  refine k_iload_n (pc := 37) C dX11_days_37 1 rfl ?_
  refine k_icmp_ge (pc := 38) C 73 dX11_days_38 (by decide) h (fun c10 h => ?_) (fun c10 h => ?_)
  · refine k_iload_n (pc := 73) C dX11_days_73 3 rfl ?_
    exact k_iret (pc := 74) C E (some_1 h) (some_2 h) dX11_days_74
  · refine k_aload_n (pc := 41) C dX11_days_41 0 rfl ?_
    refine gf_X11_7 (pc := 42) C dX11_days_42 ?_
    refine k_bipush (pc := 45) (v := (16 : Int32)) C dX11_days_45 cbipush_16 ?_
    refine k_ialdc (pc := 47) C ia_10_1 16 dX11_days_47 (by decide) (by decide) ?_
    refine k_sipush (pc := 48) (v := (9999 : Int32)) C dX11_days_48 csipush_9999 ?_
    refine k_icmp_ge (pc := 51) C 73 dX11_days_51 (by decide) h (fun c9 h => ?_) (fun c9 h => ?_)
    · refine k_iload_n (pc := 73) C dX11_days_73 3 rfl ?_
      exact k_iret (pc := 74) C E (some_1 h) (some_2 h) dX11_days_74
    · refine k_iload_n (pc := 54) C dX11_days_54 3 rfl ?_
      refine k_aload_n (pc := 55) C dX11_days_55 0 rfl ?_
      refine k_aload_n (pc := 56) C dX11_days_56 0 rfl ?_
      refine gf_X11_7 (pc := 57) C dX11_days_57 ?_
      refine k_iconst (pc := 60) (v := (-1 : Int32)) C dX11_days_60 ciconst_m1 ?_
      refine k_iload_n (pc := 61) C dX11_days_61 2 rfl ?_
      obtain ⟨z6, e6, h⟩ := bnd h
      refine k_callvI (pc := 62) C lk_X11_112 (by decide) ix_X11 wo_X11 rfl rfl (kc_X11_passDay ia_10_1 e6) dX11_days_62 rfl rfl (Nat.le_of_ble_eq_true rfl) ?_
      refine k_iadd (pc := 65) C dX11_days_65 ?_
      refine k_nI h (fun y7 h => ?_)
      refine k_istore_n (pc := 66) C [(3, .int y7), (0, .ref (B.1 10 0)), (1, .int x1), (2, .int x2), (4, .int x4)] dX11_days_66 (by decide) rfl ?_
      refine k_iincN (pc := 67) (x := x4) (c := (1 : Int32)) C (fun y8 => [(4, .int y8), (3, .int y7), (0, .ref (B.1 10 0)), (1, .int x1), (2, .int x2)]) dX11_days_67 4 rfl ciconst_1 (by decide) (fun _ => rfl) h (fun y8 h => ?_)
      refine k_goto (pc := 70) C 35 dX11_days_70 (by decide) ?_
      refine k_sub [2, 3, 4, 1, 0] rfl ?_
      exact hrec35 z6.2 x1 x2 y7 y8 h
set_option maxHeartbeats 4000000 in
set_option maxRecDepth 100000 in
theorem k_X11_days_l35 {B : KB} {X : KE} {res : Int32 × TT} (C : Cx B X "GriefEngineModel" cX11_days 5 5) (E : Cr B X (some .int) (some (.int res.1)) res.2) : ∀ (n : Nat) (T : TT) (x1 : Int32) (x2 : Int32) (x3 : Int32) (x4 : Int32) (h : m_X11_days_l35 n T x1 x2 x3 x4 = some res), Wk B X 5 T 35 [(0, .ref (B.1 10 0)), (1, .int x1), (2, .int x2), (3, .int x3), (4, .int x4)] [] := by
  intro n
  induction n with
  | zero =>
    intro T x1 x2 x3 x4 h
    exact no_some h
  | succ n ih =>
    intro T x1 x2 x3 x4 h
    exact k_X11_days_h35 C E (fun T x1 x2 x3 x4 h => ih T x1 x2 x3 x4 h) T x1 x2 x3 x4 h
set_option maxHeartbeats 4000000 in
set_option maxRecDepth 100000 in
theorem k_X11_days_b19 {B : KB} {X : KE} {res : Int32 × TT} (C : Cx B X "GriefEngineModel" cX11_days 5 5) (E : Cr B X (some .int) (some (.int res.1)) res.2) (T : TT) (h : m_X11_days_b19 T = some res) : Wk B X 5 T 19 [(0, .ref (B.1 10 0))] [] := by
  unfold m_X11_days_b19 at h
  refine k_aload_n (pc := 19) C dX11_days_19 0 rfl ?_
  refine k_bipush (pc := 20) (v := (-2 : Int32)) C dX11_days_20 cbipush_m2 ?_
  obtain ⟨z11, e11, h⟩ := bnd h
  refine k_callvI (pc := 22) C lk_X11_63 (by decide) ix_X11 wo_X11 rfl rfl (kc_X11_bad e11) dX11_days_22 rfl rfl (Nat.le_of_ble_eq_true rfl) ?_
  exact k_iret (pc := 25) C E (some_1 h) (some_2 h) dX11_days_25
set_option maxHeartbeats 4000000 in
set_option maxRecDepth 100000 in
theorem kc_X11_days {B : KB} {l : Launch} {T : TT} {x1 : Int32} {x2 : Int32} {res : Int32 × TT} (h : m_X11_days T x1 x2 = some res) : Kt B l 5 yX11_days cX11_days 5 (some .int) T [.ref (B.1 10 0), .int x1, .int x2] (some (.int res.1)) res.2 := by
  refine Kt.of (by decide) (Nat.le_of_ble_eq_true rfl) (fun X hX C E => ?_)
  subst hX
  have C : Cx B X "GriefEngineModel" cX11_days 5 5 := C
  show Wk B X 5 T 0 [(0, .ref (B.1 10 0)), (1, .int x1), (2, .int x2)] []
  unfold m_X11_days at h
  refine k_iload_n (pc := 0) C dX11_days_0 1 rfl ?_
  refine k_i2l (pc := 1) C dX11_days_1 ?_
  refine k_lconst (pc := 2) (v := (1 : Int64)) C dX11_days_2 (by decide) ?_
  refine k_ldc2_w (pc := 3) (v := (99 : Int64)) C dX11_days_3 tw4_138 ?_
  obtain ⟨z1, e1, h⟩ := bnd h
  refine k_callsI (pc := 6) C lk_X11_53 (by decide) (kc_X11_in e1) dX11_days_6 rfl rfl (Nat.le_of_ble_eq_true rfl) ?_
  refine k_if_eq (pc := 9) C 19 dX11_days_9 (by decide) h (fun c5 h => ?_) (fun c5 h => ?_)
  · refine k_sub [0] rfl ?_
    exact k_X11_days_b19 C E T h
  · refine k_iload_n (pc := 12) C dX11_days_12 2 rfl ?_
    obtain ⟨z2, e2, h⟩ := bnd h
    refine k_callsI (pc := 13) C lk_X11_105 (by decide) (kc_X11_isChoice e2) dX11_days_13 rfl rfl (Nat.le_of_ble_eq_true rfl) ?_
    refine k_if_ne (pc := 16) C 26 dX11_days_16 (by decide) h (fun c4 h => ?_) (fun c4 h => ?_)
    · refine k_iconst (pc := 26) (v := (0 : Int32)) C dX11_days_26 ciconst_0 ?_
      refine k_istore_n (pc := 27) C [(3, .int (0 : Int32)), (0, .ref (B.1 10 0)), (1, .int x1), (2, .int x2)] dX11_days_27 (by decide) rfl ?_
      refine k_aload_n (pc := 28) C dX11_days_28 1 rfl ?_
      obtain ⟨z3, e3, h⟩ := bnd h
      refine k_callvV (pc := 29) C lk_X11_109 (by decide) ix_X11 wo_X11 rfl rfl (kc_X11_keep e3) dX11_days_29 rfl rfl (Nat.le_of_ble_eq_true rfl) ?_
      refine k_iconst (pc := 32) (v := (0 : Int32)) C dX11_days_32 ciconst_0 ?_
      refine k_istore (pc := 33) C [(4, .int (0 : Int32)), (3, .int (0 : Int32)), (0, .ref (B.1 10 0)), (1, .int x1), (2, .int x2)] dX11_days_33 (by decide) rfl ?_
      refine k_sub [2, 3, 4, 1, 0] rfl ?_
      exact k_X11_days_l35 C E FU z3 x1 x2 (0 : Int32) (0 : Int32) h
    · refine k_sub [0] rfl ?_
      exact k_X11_days_b19 C E T h
def m_X11_day_b15 (T : TT) : Option (Int32 × TT) := (m_X11_bad T (-2 : Int32)).bind (fun z8 => some (z8.1, z8.2))
def m_X11_day (T : TT) (x1 : Int32) (x2 : Int32) : Option (Int32 × TT) := (m_X11_isDriver T x1).bind (fun z1 => if z1 = 0 then (m_X11_day_b15 T) else ((m_X11_isChoice x2).bind (fun z2 => if z2 = 0 then (m_X11_day_b15 T) else ((m_X11_keep T).bind (fun z3 => if (9999 : Int32) ≤ (z3.1 10 1 16) then (some ((0 : Int32), z3)) else ((m_X11_passDay z3 10 1 175 x1 x2).bind (fun z4 => some (z4.1, z4.2))))))))
set_option maxHeartbeats 4000000 in
set_option maxRecDepth 100000 in
theorem k_X11_day_b15 {B : KB} {X : KE} {res : Int32 × TT} (C : Cx B X "GriefEngineModel" cX11_day 3 5) (E : Cr B X (some .int) (some (.int res.1)) res.2) (T : TT) (h : m_X11_day_b15 T = some res) : Wk B X 3 T 15 [(0, .ref (B.1 10 0))] [] := by
  unfold m_X11_day_b15 at h
  refine k_aload_n (pc := 15) C dX11_day_15 0 rfl ?_
  refine k_bipush (pc := 16) (v := (-2 : Int32)) C dX11_day_16 cbipush_m2 ?_
  obtain ⟨z8, e8, h⟩ := bnd h
  refine k_callvI (pc := 18) C lk_X11_63 (by decide) ix_X11 wo_X11 rfl rfl (kc_X11_bad e8) dX11_day_18 rfl rfl (Nat.le_of_ble_eq_true rfl) ?_
  exact k_iret (pc := 21) C E (some_1 h) (some_2 h) dX11_day_21
set_option maxHeartbeats 4000000 in
set_option maxRecDepth 100000 in
theorem kc_X11_day {B : KB} {l : Launch} {T : TT} {x1 : Int32} {x2 : Int32} {res : Int32 × TT} (h : m_X11_day T x1 x2 = some res) : Kt B l 5 yX11_day cX11_day 3 (some .int) T [.ref (B.1 10 0), .int x1, .int x2] (some (.int res.1)) res.2 := by
  refine Kt.of (by decide) (Nat.le_of_ble_eq_true rfl) (fun X hX C E => ?_)
  subst hX
  have C : Cx B X "GriefEngineModel" cX11_day 3 5 := C
  show Wk B X 3 T 0 [(0, .ref (B.1 10 0)), (1, .int x1), (2, .int x2)] []
  unfold m_X11_day at h
  refine k_aload_n (pc := 0) C dX11_day_0 0 rfl ?_
  refine k_iload_n (pc := 1) C dX11_day_1 1 rfl ?_
  obtain ⟨z1, e1, h⟩ := bnd h
  refine k_callvI (pc := 2) C lk_X11_116 (by decide) ix_X11 wo_X11 rfl rfl (kc_X11_isDriver e1) dX11_day_2 rfl rfl (Nat.le_of_ble_eq_true rfl) ?_
  refine k_if_eq (pc := 5) C 15 dX11_day_5 (by decide) h (fun c7 h => ?_) (fun c7 h => ?_)
  · refine k_sub [0] rfl ?_
    exact k_X11_day_b15 C E T h
  · refine k_iload_n (pc := 8) C dX11_day_8 2 rfl ?_
    obtain ⟨z2, e2, h⟩ := bnd h
    refine k_callsI (pc := 9) C lk_X11_105 (by decide) (kc_X11_isChoice e2) dX11_day_9 rfl rfl (Nat.le_of_ble_eq_true rfl) ?_
    refine k_if_ne (pc := 12) C 22 dX11_day_12 (by decide) h (fun c6 h => ?_) (fun c6 h => ?_)
    · refine k_aload_n (pc := 22) C dX11_day_22 0 rfl ?_
      obtain ⟨z3, e3, h⟩ := bnd h
      refine k_callvV (pc := 23) C lk_X11_109 (by decide) ix_X11 wo_X11 rfl rfl (kc_X11_keep e3) dX11_day_23 rfl rfl (Nat.le_of_ble_eq_true rfl) ?_
      refine k_aload_n (pc := 26) C dX11_day_26 0 rfl ?_
      refine gf_X11_7 (pc := 27) C dX11_day_27 ?_
      refine k_bipush (pc := 30) (v := (16 : Int32)) C dX11_day_30 cbipush_16 ?_
      refine k_ialdc (pc := 32) C ia_10_1 16 dX11_day_32 (by decide) (by decide) ?_
      refine k_sipush (pc := 33) (v := (9999 : Int32)) C dX11_day_33 csipush_9999 ?_
      refine k_icmp_ge (pc := 36) C 52 dX11_day_36 (by decide) h (fun c5 h => ?_) (fun c5 h => ?_)
      · refine k_iconst (pc := 52) (v := (0 : Int32)) C dX11_day_52 ciconst_0 ?_
        exact k_iret (pc := 53) C E (some_1 h) (some_2 h) dX11_day_53
      · refine k_aload_n (pc := 39) C dX11_day_39 0 rfl ?_
        refine k_aload_n (pc := 40) C dX11_day_40 0 rfl ?_
        refine gf_X11_7 (pc := 41) C dX11_day_41 ?_
        refine k_iload_n (pc := 44) C dX11_day_44 1 rfl ?_
        refine k_iload_n (pc := 45) C dX11_day_45 2 rfl ?_
        obtain ⟨z4, e4, h⟩ := bnd h
        refine k_callvI (pc := 46) C lk_X11_112 (by decide) ix_X11 wo_X11 rfl rfl (kc_X11_passDay ia_10_1 e4) dX11_day_46 rfl rfl (Nat.le_of_ble_eq_true rfl) ?_
        refine k_goto (pc := 49) C 53 dX11_day_49 (by decide) ?_
        exact k_iret (pc := 53) C E (some_1 h) (some_2 h) dX11_day_53
    · refine k_sub [0] rfl ?_
      exact k_X11_day_b15 C E T h
def m_X11_undo_h26 (rec26 : TT → Int32 → Option (Int32 × TT)) (T : TT) (x1 : Int32) : Option (Int32 × TT) := if (13 : Int32) ≤ x1 then (some ((T.1 10 1 16), T)) else (if inb (((71 : Int32) + ((13 : Int32) * (T.1 10 1 3))) + x1) 175 then (if inb ((4 : Int32) + x1) 175 then bT (sA T 10 1 (Int32.toNatClampNeg ((4 : Int32) + x1)) (T.1 10 1 (Int32.toNatClampNeg (((71 : Int32) + ((13 : Int32) * (T.1 10 1 3))) + x1)))) (fun T4 => bT (x1 + (1 : Int32)) (fun y5 => rec26 T4 y5)) else none) else none)
def m_X11_undo_l26 : Nat → TT → Int32 → Option (Int32 × TT)
  | 0 => fun _ _ => none
  | n + 1 => fun T x1 => m_X11_undo_h26 (m_X11_undo_l26 n) T x1
def m_X11_undo (T : TT) : Option (Int32 × TT) := if (T.1 10 1 3) = 0 then ((m_X11_no T).bind (fun z2 => some (z2.1, z2.2))) else (bT (sA T 10 1 3 ((T.1 10 1 3) - (1 : Int32))) (fun T1 => m_X11_undo_l26 FU T1 (0 : Int32)))
set_option maxHeartbeats 4000000 in
set_option maxRecDepth 100000 in
theorem k_X11_undo_h26 {B : KB} {X : KE} {rec26 : TT → Int32 → Option (Int32 × TT)} {res : Int32 × TT} (C : Cx B X "GriefEngineModel" cX11_undo 2 2) (E : Cr B X (some .int) (some (.int res.1)) res.2) (hrec26 : ∀ (T : TT) (x1 : Int32), rec26 T x1 = some res → Wk B X 2 T 26 [(0, .ref (B.1 10 0)), (1, .int x1)] []) (T : TT) (x1 : Int32) (h : m_X11_undo_h26 rec26 T x1 = some res) : Wk B X 2 T 26 [(0, .ref (B.1 10 0)), (1, .int x1)] [] := by
  unfold m_X11_undo_h26 at h
  refine k_iload_n (pc := 26) C dX11_undo_26 1 rfl ?_
  refine k_bipush (pc := 27) (v := (13 : Int32)) C dX11_undo_27 cbipush_13 ?_
  refine k_icmp_ge (pc := 29) C 65 dX11_undo_29 (by decide) h (fun c6 h => ?_) (fun c6 h => ?_)
  · refine k_aload_n (pc := 65) C dX11_undo_65 0 rfl ?_
    refine gf_X11_7 (pc := 66) C dX11_undo_66 ?_
    refine k_bipush (pc := 69) (v := (16 : Int32)) C dX11_undo_69 cbipush_16 ?_
    refine k_ialdc (pc := 71) C ia_10_1 16 dX11_undo_71 (by decide) (by decide) ?_
    exact k_iret (pc := 72) C E (some_1 h) (some_2 h) dX11_undo_72
  · refine k_aload_n (pc := 32) C dX11_undo_32 0 rfl ?_
    refine gf_X11_7 (pc := 33) C dX11_undo_33 ?_
    refine k_iconst (pc := 36) (v := (4 : Int32)) C dX11_undo_36 ciconst_4 ?_
    refine k_iload_n (pc := 37) C dX11_undo_37 1 rfl ?_
    refine k_iadd (pc := 38) C dX11_undo_38 ?_
    refine k_aload_n (pc := 39) C dX11_undo_39 0 rfl ?_
    refine gf_X11_7 (pc := 40) C dX11_undo_40 ?_
    refine k_bipush (pc := 43) (v := (71 : Int32)) C dX11_undo_43 cbipush_71 ?_
    refine k_bipush (pc := 45) (v := (13 : Int32)) C dX11_undo_45 cbipush_13 ?_
    refine k_aload_n (pc := 47) C dX11_undo_47 0 rfl ?_
    refine gf_X11_7 (pc := 48) C dX11_undo_48 ?_
    refine k_iconst (pc := 51) (v := (3 : Int32)) C dX11_undo_51 ciconst_3 ?_
    refine k_ialdc (pc := 52) C ia_10_1 3 dX11_undo_52 (by decide) (by decide) ?_
    refine k_imul (pc := 53) C dX11_undo_53 ?_
    refine k_iadd (pc := 54) C dX11_undo_54 ?_
    refine k_iload_n (pc := 55) C dX11_undo_55 1 rfl ?_
    refine k_iadd (pc := 56) C dX11_undo_56 ?_
    refine k_iald (pc := 57) C ia_10_1 dX11_undo_57 h (fun h => ?_)
    refine k_iast (pc := 58) C ia_10_1 dX11_undo_58 h (fun h => ?_)
    refine k_nT h (fun T4 h => ?_)
    refine k_iincN (pc := 59) (x := x1) (c := (1 : Int32)) C (fun y5 => [(1, .int y5), (0, .ref (B.1 10 0))]) dX11_undo_59 1 rfl ciconst_1 (by decide) (fun _ => rfl) h (fun y5 h => ?_)
    refine k_goto (pc := 62) C 26 dX11_undo_62 (by decide) ?_
    refine k_sub [1, 0] rfl ?_
    exact hrec26 T4 y5 h
set_option maxHeartbeats 4000000 in
set_option maxRecDepth 100000 in
theorem k_X11_undo_l26 {B : KB} {X : KE} {res : Int32 × TT} (C : Cx B X "GriefEngineModel" cX11_undo 2 2) (E : Cr B X (some .int) (some (.int res.1)) res.2) : ∀ (n : Nat) (T : TT) (x1 : Int32) (h : m_X11_undo_l26 n T x1 = some res), Wk B X 2 T 26 [(0, .ref (B.1 10 0)), (1, .int x1)] [] := by
  intro n
  induction n with
  | zero =>
    intro T x1 h
    exact no_some h
  | succ n ih =>
    intro T x1 h
    exact k_X11_undo_h26 C E (fun T x1 h => ih T x1 h) T x1 h
set_option maxHeartbeats 4000000 in
set_option maxRecDepth 100000 in
theorem kc_X11_undo {B : KB} {l : Launch} {T : TT} {res : Int32 × TT} (h : m_X11_undo T = some res) : Kt B l 2 yX11_undo cX11_undo 2 (some .int) T [.ref (B.1 10 0)] (some (.int res.1)) res.2 := by
  refine Kt.of (by decide) (Nat.le_of_ble_eq_true rfl) (fun X hX C E => ?_)
  subst hX
  have C : Cx B X "GriefEngineModel" cX11_undo 2 2 := C
  show Wk B X 2 T 0 [(0, .ref (B.1 10 0))] []
  unfold m_X11_undo at h
  refine k_aload_n (pc := 0) C dX11_undo_0 0 rfl ?_
  refine gf_X11_7 (pc := 1) C dX11_undo_1 ?_
  refine k_iconst (pc := 4) (v := (3 : Int32)) C dX11_undo_4 ciconst_3 ?_
  refine k_ialdc (pc := 5) C ia_10_1 3 dX11_undo_5 (by decide) (by decide) ?_
  refine k_if_ne (pc := 6) C 14 dX11_undo_6 (by decide) h (fun c3 h => ?_) (fun c3 h => ?_)
  · refine k_aload_n (pc := 14) C dX11_undo_14 0 rfl ?_
    refine gf_X11_7 (pc := 15) C dX11_undo_15 ?_
    refine k_iconst (pc := 18) (v := (3 : Int32)) C dX11_undo_18 ciconst_3 ?_
    refine k_dup2 (pc := 19) C dX11_undo_19 rfl rfl ?_
    refine k_ialdc (pc := 20) C ia_10_1 3 dX11_undo_20 (by decide) (by decide) ?_
    refine k_iconst (pc := 21) (v := (1 : Int32)) C dX11_undo_21 ciconst_1 ?_
    refine k_isub (pc := 22) C dX11_undo_22 ?_
    refine k_iastc (pc := 23) C ia_10_1 3 dX11_undo_23 (by decide) (by decide) ?_
    refine k_nT h (fun T1 h => ?_)
    refine k_iconst (pc := 24) (v := (0 : Int32)) C dX11_undo_24 ciconst_0 ?_
    refine k_istore_n (pc := 25) C [(1, .int (0 : Int32)), (0, .ref (B.1 10 0))] dX11_undo_25 (by decide) rfl ?_
    refine k_sub [1, 0] rfl ?_
    exact k_X11_undo_l26 C E FU T1 (0 : Int32) h
  · refine k_aload_n (pc := 9) C dX11_undo_9 0 rfl ?_
    obtain ⟨z2, e2, h⟩ := bnd h
    refine k_callvI (pc := 10) C lk_X11_119 (by decide) ix_X11 wo_X11 rfl rfl (kc_X11_no e2) dX11_undo_10 rfl rfl (Nat.le_of_ble_eq_true rfl) ?_
    exact k_iret (pc := 13) C E (some_1 h) (some_2 h) dX11_undo_13
def m_X11_of_b20 (T : TT) : Option (Int32 × TT) := (m_X11_bad T (-2 : Int32)).bind (fun z7 => some (z7.1, z7.2))
def m_X11_of (T : TT) (x1 : Int32) (x2 : Int32) : Option (Int32 × TT) := (m_X11_isDriver T x1).bind (fun z1 => if z1 = 0 then (m_X11_of_b20 T) else ((m_X11_in (x2.toInt64) (0 : Int64) (2 : Int64)).bind (fun z2 => if z2 = 0 then (m_X11_of_b20 T) else (if x2 = 0 then (if inb ((17 : Int32) + x1) 175 then (some ((T.1 10 1 (Int32.toNatClampNeg ((17 : Int32) + x1))), T)) else none) else (if x2 = (1 : Int32) then (if inb ((4 : Int32) + x1) 175 then (some ((T.1 10 1 (Int32.toNatClampNeg ((4 : Int32) + x1))), T)) else none) else (if inb ((10 : Int32) + x1) 175 then (some ((T.1 10 1 (Int32.toNatClampNeg ((10 : Int32) + x1))), T)) else none))))))
set_option maxHeartbeats 4000000 in
set_option maxRecDepth 100000 in
theorem k_X11_of_b20 {B : KB} {X : KE} {res : Int32 × TT} (C : Cx B X "GriefEngineModel" cX11_of 3 3) (E : Cr B X (some .int) (some (.int res.1)) res.2) (T : TT) (h : m_X11_of_b20 T = some res) : Wk B X 3 T 20 [(0, .ref (B.1 10 0))] [] := by
  unfold m_X11_of_b20 at h
  refine k_aload_n (pc := 20) C dX11_of_20 0 rfl ?_
  refine k_bipush (pc := 21) (v := (-2 : Int32)) C dX11_of_21 cbipush_m2 ?_
  obtain ⟨z7, e7, h⟩ := bnd h
  refine k_callvI (pc := 23) C lk_X11_63 (by decide) ix_X11 wo_X11 rfl rfl (kc_X11_bad e7) dX11_of_23 rfl rfl (Nat.le_of_ble_eq_true rfl) ?_
  exact k_iret (pc := 26) C E (some_1 h) (some_2 h) dX11_of_26
set_option maxHeartbeats 4000000 in
set_option maxRecDepth 100000 in
theorem kc_X11_of {B : KB} {l : Launch} {T : TT} {x1 : Int32} {x2 : Int32} {res : Int32 × TT} (h : m_X11_of T x1 x2 = some res) : Kt B l 3 yX11_of cX11_of 3 (some .int) T [.ref (B.1 10 0), .int x1, .int x2] (some (.int res.1)) res.2 := by
  refine Kt.of (by decide) (Nat.le_of_ble_eq_true rfl) (fun X hX C E => ?_)
  subst hX
  have C : Cx B X "GriefEngineModel" cX11_of 3 3 := C
  show Wk B X 3 T 0 [(0, .ref (B.1 10 0)), (1, .int x1), (2, .int x2)] []
  unfold m_X11_of at h
  refine k_aload_n (pc := 0) C dX11_of_0 0 rfl ?_
  refine k_iload_n (pc := 1) C dX11_of_1 1 rfl ?_
  obtain ⟨z1, e1, h⟩ := bnd h
  refine k_callvI (pc := 2) C lk_X11_116 (by decide) ix_X11 wo_X11 rfl rfl (kc_X11_isDriver e1) dX11_of_2 rfl rfl (Nat.le_of_ble_eq_true rfl) ?_
  refine k_if_eq (pc := 5) C 20 dX11_of_5 (by decide) h (fun c6 h => ?_) (fun c6 h => ?_)
  · refine k_sub [0] rfl ?_
    exact k_X11_of_b20 C E T h
  · refine k_iload_n (pc := 8) C dX11_of_8 2 rfl ?_
    refine k_i2l (pc := 9) C dX11_of_9 ?_
    refine k_lconst (pc := 10) (v := (0 : Int64)) C dX11_of_10 (by decide) ?_
    refine k_ldc2_w (pc := 11) (v := (2 : Int64)) C dX11_of_11 tw4_157 ?_
    obtain ⟨z2, e2, h⟩ := bnd h
    refine k_callsI (pc := 14) C lk_X11_53 (by decide) (kc_X11_in e2) dX11_of_14 rfl rfl (Nat.le_of_ble_eq_true rfl) ?_
    refine k_if_ne (pc := 17) C 27 dX11_of_17 (by decide) h (fun c5 h => ?_) (fun c5 h => ?_)
    · refine k_aload_n (pc := 27) C dX11_of_27 0 rfl ?_
      refine gf_X11_7 (pc := 28) C dX11_of_28 ?_
      refine k_iload_n (pc := 31) C dX11_of_31 2 rfl ?_
      refine k_if_ne (pc := 32) C 40 dX11_of_32 (by decide) h (fun c4 h => ?_) (fun c4 h => ?_)
      · refine k_iload_n (pc := 40) C dX11_of_40 2 rfl ?_
        refine k_iconst (pc := 41) (v := (1 : Int32)) C dX11_of_41 ciconst_1 ?_
        refine k_icmp_ne (pc := 42) C 49 dX11_of_42 (by decide) h (fun c3 h => ?_) (fun c3 h => ?_)
        · refine k_bipush (pc := 49) (v := (10 : Int32)) C dX11_of_49 cbipush_10 ?_
          refine k_iload_n (pc := 51) C dX11_of_51 1 rfl ?_
          refine k_iadd (pc := 52) C dX11_of_52 ?_
          refine k_iald (pc := 53) C ia_10_1 dX11_of_53 h (fun h => ?_)
          exact k_iret (pc := 54) C E (some_1 h) (some_2 h) dX11_of_54
        · refine k_iconst (pc := 45) (v := (4 : Int32)) C dX11_of_45 ciconst_4 ?_
          refine k_goto (pc := 46) C 51 dX11_of_46 (by decide) ?_
          refine k_iload_n (pc := 51) C dX11_of_51 1 rfl ?_
          refine k_iadd (pc := 52) C dX11_of_52 ?_
          refine k_iald (pc := 53) C ia_10_1 dX11_of_53 h (fun h => ?_)
          exact k_iret (pc := 54) C E (some_1 h) (some_2 h) dX11_of_54
      · refine k_bipush (pc := 35) (v := (17 : Int32)) C dX11_of_35 cbipush_17 ?_
        refine k_goto (pc := 37) C 51 dX11_of_37 (by decide) ?_
        refine k_iload_n (pc := 51) C dX11_of_51 1 rfl ?_
        refine k_iadd (pc := 52) C dX11_of_52 ?_
        refine k_iald (pc := 53) C ia_10_1 dX11_of_53 h (fun h => ?_)
        exact k_iret (pc := 54) C E (some_1 h) (some_2 h) dX11_of_54
    · refine k_sub [0] rfl ?_
      exact k_X11_of_b20 C E T h
def m_X11_today_b22 (T : TT) : Option (Int32 × TT) := (m_X11_bad T (-2 : Int32)).bind (fun z12 => some (z12.1, z12.2))
def m_X11_today (T : TT) (x1 : Int32) (x2 : Int32) : Option (Int32 × TT) := (m_X11_isDriver T x1).bind (fun z1 => if z1 = 0 then (m_X11_today_b22 T) else ((m_X11_in (x2.toInt64) (-1 : Int64) (2 : Int64)).bind (fun z2 => if z2 = 0 then (m_X11_today_b22 T) else (if inb ((4 : Int32) + x1) 175 then (bT (T.1 10 1 (Int32.toNatClampNeg ((4 : Int32) + x1))) (fun y3 => if x2 = (-1 : Int32) then ((m_X11_kindOf T x1).bind (fun z6 => (m_X11_seasonOf (T.1 10 1 16)).bind (fun z7 => (m_X11_runsAs z6 y3 z7).bind (fun z8 => some (z8, T))))) else ((m_X11_kindOf T x1).bind (fun z4 => (m_X11_leftAs z4 y3 x2).bind (fun z5 => some (z5, T)))))) else none))))
set_option maxHeartbeats 4000000 in
set_option maxRecDepth 100000 in
theorem k_X11_today_b22 {B : KB} {X : KE} {res : Int32 × TT} (C : Cx B X "GriefEngineModel" cX11_today 4 3) (E : Cr B X (some .int) (some (.int res.1)) res.2) (T : TT) (h : m_X11_today_b22 T = some res) : Wk B X 4 T 22 [(0, .ref (B.1 10 0))] [] := by
  unfold m_X11_today_b22 at h
  refine k_aload_n (pc := 22) C dX11_today_22 0 rfl ?_
  refine k_bipush (pc := 23) (v := (-2 : Int32)) C dX11_today_23 cbipush_m2 ?_
  obtain ⟨z12, e12, h⟩ := bnd h
  refine k_callvI (pc := 25) C lk_X11_63 (by decide) ix_X11 wo_X11 rfl rfl (kc_X11_bad e12) dX11_today_25 rfl rfl (Nat.le_of_ble_eq_true rfl) ?_
  exact k_iret (pc := 28) C E (some_1 h) (some_2 h) dX11_today_28
set_option maxHeartbeats 4000000 in
set_option maxRecDepth 100000 in
theorem kc_X11_today {B : KB} {l : Launch} {T : TT} {x1 : Int32} {x2 : Int32} {res : Int32 × TT} (h : m_X11_today T x1 x2 = some res) : Kt B l 3 yX11_today cX11_today 4 (some .int) T [.ref (B.1 10 0), .int x1, .int x2] (some (.int res.1)) res.2 := by
  refine Kt.of (by decide) (Nat.le_of_ble_eq_true rfl) (fun X hX C E => ?_)
  subst hX
  have C : Cx B X "GriefEngineModel" cX11_today 4 3 := C
  show Wk B X 4 T 0 [(0, .ref (B.1 10 0)), (1, .int x1), (2, .int x2)] []
  unfold m_X11_today at h
  refine k_aload_n (pc := 0) C dX11_today_0 0 rfl ?_
  refine k_iload_n (pc := 1) C dX11_today_1 1 rfl ?_
  obtain ⟨z1, e1, h⟩ := bnd h
  refine k_callvI (pc := 2) C lk_X11_116 (by decide) ix_X11 wo_X11 rfl rfl (kc_X11_isDriver e1) dX11_today_2 rfl rfl (Nat.le_of_ble_eq_true rfl) ?_
  refine k_if_eq (pc := 5) C 22 dX11_today_5 (by decide) h (fun c11 h => ?_) (fun c11 h => ?_)
  · refine k_sub [0] rfl ?_
    exact k_X11_today_b22 C E T h
  · refine k_iload_n (pc := 8) C dX11_today_8 2 rfl ?_
    refine k_i2l (pc := 9) C dX11_today_9 ?_
    refine k_ldc2_w (pc := 10) (v := (-1 : Int64)) C dX11_today_10 tw4_212 ?_
    refine k_ldc2_w (pc := 13) (v := (2 : Int64)) C dX11_today_13 tw4_157 ?_
    obtain ⟨z2, e2, h⟩ := bnd h
    refine k_callsI (pc := 16) C lk_X11_53 (by decide) (kc_X11_in e2) dX11_today_16 rfl rfl (Nat.le_of_ble_eq_true rfl) ?_
    refine k_if_ne (pc := 19) C 29 dX11_today_19 (by decide) h (fun c10 h => ?_) (fun c10 h => ?_)
    · refine k_aload_n (pc := 29) C dX11_today_29 0 rfl ?_
      refine gf_X11_7 (pc := 30) C dX11_today_30 ?_
      refine k_iconst (pc := 33) (v := (4 : Int32)) C dX11_today_33 ciconst_4 ?_
      refine k_iload_n (pc := 34) C dX11_today_34 1 rfl ?_
      refine k_iadd (pc := 35) C dX11_today_35 ?_
      refine k_iald (pc := 36) C ia_10_1 dX11_today_36 h (fun h => ?_)
      refine k_nI h (fun y3 h => ?_)
      refine k_istore_n (pc := 37) C [(3, .int y3), (0, .ref (B.1 10 0)), (1, .int x1), (2, .int x2)] dX11_today_37 (by decide) rfl ?_
      refine k_iload_n (pc := 38) C dX11_today_38 3 rfl ?_
      refine k_iconst (pc := 39) (v := (-1 : Int32)) C dX11_today_39 ciconst_m1 ?_
      refine k_icmp_ne (pc := 40) C 65 dX11_today_40 (by decide) h (fun c9 h => ?_) (fun c9 h => ?_)
      · refine k_aload_n (pc := 65) C dX11_today_65 1 rfl ?_
        refine k_iload_n (pc := 66) C dX11_today_66 2 rfl ?_
        obtain ⟨z4, e4, h⟩ := bnd h
        refine k_callvI (pc := 67) C lk_X11_124 (by decide) ix_X11 wo_X11 rfl rfl (kc_X11_kindOf e4) dX11_today_67 rfl rfl (Nat.le_of_ble_eq_true rfl) ?_
        refine k_iload_n (pc := 70) C dX11_today_70 0 rfl ?_
        refine k_iload_n (pc := 71) C dX11_today_71 3 rfl ?_
        obtain ⟨z5, e5, h⟩ := bnd h
        refine k_callsI (pc := 72) C lk_X11_98 (by decide) (kc_X11_leftAs e5) dX11_today_72 rfl rfl (Nat.le_of_ble_eq_true rfl) ?_
        exact k_iret (pc := 75) C E (some_1 h) (some_2 h) dX11_today_75
      · refine k_aload_n (pc := 43) C dX11_today_43 1 rfl ?_
        refine k_iload_n (pc := 44) C dX11_today_44 2 rfl ?_
        obtain ⟨z6, e6, h⟩ := bnd h
        refine k_callvI (pc := 45) C lk_X11_124 (by decide) ix_X11 wo_X11 rfl rfl (kc_X11_kindOf e6) dX11_today_45 rfl rfl (Nat.le_of_ble_eq_true rfl) ?_
        refine k_iload_n (pc := 48) C dX11_today_48 0 rfl ?_
        refine k_aload_n (pc := 49) C dX11_today_49 1 rfl ?_
        refine gf_X11_7 (pc := 50) C dX11_today_50 ?_
        refine k_bipush (pc := 53) (v := (16 : Int32)) C dX11_today_53 cbipush_16 ?_
        refine k_ialdc (pc := 55) C ia_10_1 16 dX11_today_55 (by decide) (by decide) ?_
        obtain ⟨z7, e7, h⟩ := bnd h
        refine k_callsI (pc := 56) C lk_X11_91 (by decide) (kc_X11_seasonOf e7) dX11_today_56 rfl rfl (Nat.le_of_ble_eq_true rfl) ?_
        obtain ⟨z8, e8, h⟩ := bnd h
        refine k_callsI (pc := 59) C lk_X11_94 (by decide) (kc_X11_runsAs e8) dX11_today_59 rfl rfl (Nat.le_of_ble_eq_true rfl) ?_
        refine k_goto (pc := 62) C 75 dX11_today_62 (by decide) ?_
        exact k_iret (pc := 75) C E (some_1 h) (some_2 h) dX11_today_75
    · refine k_sub [0] rfl ?_
      exact k_X11_today_b22 C E T h
def m_X11_then_h53 (rec53 : TT → Int32 → Int32 → Int32 → Int32 → Int32 → Option (Int32 × TT)) (T : TT) (x1 : Int32) (x2 : Int32) (x3 : Int32) (x4 : Int32) (x5 : Int32) : Option (Int32 × TT) := if x2 ≤ x5 then (if x4 = 0 then (some ((T.2.1 10 6), T)) else (if inb ((10 : Int32) + x1) 175 then (some (((T.1 10 1 (Int32.toNatClampNeg ((10 : Int32) + x1))) + (T.2.1 10 7)), T)) else none)) else ((m_X11_kindOf T x1).bind (fun z11 => (m_X11_goDay T z11 ((T.1 10 1 16) + x5) x3).bind (fun z12 => bT (x5 + (1 : Int32)) (fun y13 => rec53 z12 x1 x2 x3 x4 y13))))
def m_X11_then_l53 : Nat → TT → Int32 → Int32 → Int32 → Int32 → Int32 → Option (Int32 × TT)
  | 0 => fun _ _ _ _ _ _ => none
  | n + 1 => fun T x1 x2 x3 x4 x5 => m_X11_then_h53 (m_X11_then_l53 n) T x1 x2 x3 x4 x5
def m_X11_then_b38 (T : TT) : Option (Int32 × TT) := (m_X11_bad T (-2 : Int32)).bind (fun z15 => some (z15.1, z15.2))
def m_X11_then (T : TT) (x1 : Int32) (x2 : Int32) (x3 : Int32) (x4 : Int32) : Option (Int32 × TT) := (m_X11_isDriver T x1).bind (fun z1 => if z1 = 0 then (m_X11_then_b38 T) else ((m_X11_in (x2.toInt64) (0 : Int64) (99 : Int64)).bind (fun z2 => if z2 = 0 then (m_X11_then_b38 T) else ((m_X11_isChoice x3).bind (fun z3 => if z3 = 0 then (m_X11_then_b38 T) else ((m_X11_in (x4.toInt64) (0 : Int64) (1 : Int64)).bind (fun z4 => if z4 = 0 then (m_X11_then_b38 T) else ((m_X11_layOne T x1).bind (fun z5 => m_X11_then_l53 FU z5 x1 x2 x3 x4 (0 : Int32))))))))))
set_option maxHeartbeats 4000000 in
set_option maxRecDepth 100000 in
theorem k_X11_then_h53 {B : KB} {X : KE} {rec53 : TT → Int32 → Int32 → Int32 → Int32 → Int32 → Option (Int32 × TT)} {res : Int32 × TT} (C : Cx B X "GriefEngineModel" cX11_then 6 4) (E : Cr B X (some .int) (some (.int res.1)) res.2) (hrec53 : ∀ (T : TT) (x1 : Int32) (x2 : Int32) (x3 : Int32) (x4 : Int32) (x5 : Int32), rec53 T x1 x2 x3 x4 x5 = some res → Wk B X 6 T 53 [(0, .ref (B.1 10 0)), (1, .int x1), (2, .int x2), (3, .int x3), (4, .int x4), (5, .int x5)] []) (T : TT) (x1 : Int32) (x2 : Int32) (x3 : Int32) (x4 : Int32) (x5 : Int32) (h : m_X11_then_h53 rec53 T x1 x2 x3 x4 x5 = some res) : Wk B X 6 T 53 [(0, .ref (B.1 10 0)), (1, .int x1), (2, .int x2), (3, .int x3), (4, .int x4), (5, .int x5)] [] := by
  unfold m_X11_then_h53 at h
  refine k_iload (pc := 53) C dX11_then_53 5 rfl ?_
  refine k_iload_n (pc := 55) C dX11_then_55 2 rfl ?_
  refine k_icmp_ge (pc := 56) C 85 dX11_then_56 (by decide) h (fun c14 h => ?_) (fun c14 h => ?_)
  · refine k_iload (pc := 85) C dX11_then_85 4 rfl ?_
    refine k_if_ne (pc := 87) C 97 dX11_then_87 (by decide) h (fun c10 h => ?_) (fun c10 h => ?_)
    · refine k_aload_n (pc := 97) C dX11_then_97 0 rfl ?_
      refine gf_X11_7 (pc := 98) C dX11_then_98 ?_
      refine k_bipush (pc := 101) (v := (10 : Int32)) C dX11_then_101 cbipush_10 ?_
      refine k_iload_n (pc := 103) C dX11_then_103 1 rfl ?_
      refine k_iadd (pc := 104) C dX11_then_104 ?_
      refine k_iald (pc := 105) C ia_10_1 dX11_then_105 h (fun h => ?_)
      refine k_aload_n (pc := 106) C dX11_then_106 0 rfl ?_
      refine gf_X11_84 (pc := 107) C dX11_then_107 ?_
      refine k_iadd (pc := 110) C dX11_then_110 ?_
      exact k_iret (pc := 111) C E (some_1 h) (some_2 h) dX11_then_111
    · refine k_aload_n (pc := 90) C dX11_then_90 0 rfl ?_
      refine gf_X11_88 (pc := 91) C dX11_then_91 ?_
      refine k_goto (pc := 94) C 111 dX11_then_94 (by decide) ?_
      exact k_iret (pc := 111) C E (some_1 h) (some_2 h) dX11_then_111
  · refine k_aload_n (pc := 59) C dX11_then_59 0 rfl ?_
    refine k_aload_n (pc := 60) C dX11_then_60 0 rfl ?_
    refine k_iload_n (pc := 61) C dX11_then_61 1 rfl ?_
    obtain ⟨z11, e11, h⟩ := bnd h
    refine k_callvI (pc := 62) C lk_X11_124 (by decide) ix_X11 wo_X11 rfl rfl (kc_X11_kindOf e11) dX11_then_62 rfl rfl (Nat.le_of_ble_eq_true rfl) ?_
    refine k_aload_n (pc := 65) C dX11_then_65 0 rfl ?_
    refine gf_X11_7 (pc := 66) C dX11_then_66 ?_
    refine k_bipush (pc := 69) (v := (16 : Int32)) C dX11_then_69 cbipush_16 ?_
    refine k_ialdc (pc := 71) C ia_10_1 16 dX11_then_71 (by decide) (by decide) ?_
    refine k_iload (pc := 72) C dX11_then_72 5 rfl ?_
    refine k_iadd (pc := 74) C dX11_then_74 ?_
    refine k_iload_n (pc := 75) C dX11_then_75 3 rfl ?_
    obtain ⟨z12, e12, h⟩ := bnd h
    refine k_callvV (pc := 76) C lk_X11_101 (by decide) ix_X11 wo_X11 rfl rfl (kc_X11_goDay e12) dX11_then_76 rfl rfl (Nat.le_of_ble_eq_true rfl) ?_
    refine k_iincN (pc := 79) (x := x5) (c := (1 : Int32)) C (fun y13 => [(5, .int y13), (0, .ref (B.1 10 0)), (1, .int x1), (2, .int x2), (3, .int x3), (4, .int x4)]) dX11_then_79 5 rfl ciconst_1 (by decide) (fun _ => rfl) h (fun y13 h => ?_)
    refine k_goto (pc := 82) C 53 dX11_then_82 (by decide) ?_
    refine k_sub [1, 2, 3, 4, 5, 0] rfl ?_
    exact hrec53 z12 x1 x2 x3 x4 y13 h
set_option maxHeartbeats 4000000 in
set_option maxRecDepth 100000 in
theorem k_X11_then_l53 {B : KB} {X : KE} {res : Int32 × TT} (C : Cx B X "GriefEngineModel" cX11_then 6 4) (E : Cr B X (some .int) (some (.int res.1)) res.2) : ∀ (n : Nat) (T : TT) (x1 : Int32) (x2 : Int32) (x3 : Int32) (x4 : Int32) (x5 : Int32) (h : m_X11_then_l53 n T x1 x2 x3 x4 x5 = some res), Wk B X 6 T 53 [(0, .ref (B.1 10 0)), (1, .int x1), (2, .int x2), (3, .int x3), (4, .int x4), (5, .int x5)] [] := by
  intro n
  induction n with
  | zero =>
    intro T x1 x2 x3 x4 x5 h
    exact no_some h
  | succ n ih =>
    intro T x1 x2 x3 x4 x5 h
    exact k_X11_then_h53 C E (fun T x1 x2 x3 x4 x5 h => ih T x1 x2 x3 x4 x5 h) T x1 x2 x3 x4 x5 h
set_option maxHeartbeats 4000000 in
set_option maxRecDepth 100000 in
theorem k_X11_then_b38 {B : KB} {X : KE} {res : Int32 × TT} (C : Cx B X "GriefEngineModel" cX11_then 6 4) (E : Cr B X (some .int) (some (.int res.1)) res.2) (T : TT) (h : m_X11_then_b38 T = some res) : Wk B X 6 T 38 [(0, .ref (B.1 10 0))] [] := by
  unfold m_X11_then_b38 at h
  refine k_aload_n (pc := 38) C dX11_then_38 0 rfl ?_
  refine k_bipush (pc := 39) (v := (-2 : Int32)) C dX11_then_39 cbipush_m2 ?_
  obtain ⟨z15, e15, h⟩ := bnd h
  refine k_callvI (pc := 41) C lk_X11_63 (by decide) ix_X11 wo_X11 rfl rfl (kc_X11_bad e15) dX11_then_41 rfl rfl (Nat.le_of_ble_eq_true rfl) ?_
  exact k_iret (pc := 44) C E (some_1 h) (some_2 h) dX11_then_44
set_option maxHeartbeats 4000000 in
set_option maxRecDepth 100000 in
theorem kc_X11_then {B : KB} {l : Launch} {T : TT} {x1 : Int32} {x2 : Int32} {x3 : Int32} {x4 : Int32} {res : Int32 × TT} (h : m_X11_then T x1 x2 x3 x4 = some res) : Kt B l 4 yX11_then cX11_then 6 (some .int) T [.ref (B.1 10 0), .int x1, .int x2, .int x3, .int x4] (some (.int res.1)) res.2 := by
  refine Kt.of (by decide) (Nat.le_of_ble_eq_true rfl) (fun X hX C E => ?_)
  subst hX
  have C : Cx B X "GriefEngineModel" cX11_then 6 4 := C
  show Wk B X 6 T 0 [(0, .ref (B.1 10 0)), (1, .int x1), (2, .int x2), (3, .int x3), (4, .int x4)] []
  unfold m_X11_then at h
  refine k_aload_n (pc := 0) C dX11_then_0 0 rfl ?_
  refine k_iload_n (pc := 1) C dX11_then_1 1 rfl ?_
  obtain ⟨z1, e1, h⟩ := bnd h
  refine k_callvI (pc := 2) C lk_X11_116 (by decide) ix_X11 wo_X11 rfl rfl (kc_X11_isDriver e1) dX11_then_2 rfl rfl (Nat.le_of_ble_eq_true rfl) ?_
  refine k_if_eq (pc := 5) C 38 dX11_then_5 (by decide) h (fun c9 h => ?_) (fun c9 h => ?_)
  · refine k_sub [0] rfl ?_
    exact k_X11_then_b38 C E T h
  · refine k_iload_n (pc := 8) C dX11_then_8 2 rfl ?_
    refine k_i2l (pc := 9) C dX11_then_9 ?_
    refine k_lconst (pc := 10) (v := (0 : Int64)) C dX11_then_10 (by decide) ?_
    refine k_ldc2_w (pc := 11) (v := (99 : Int64)) C dX11_then_11 tw4_138 ?_
    obtain ⟨z2, e2, h⟩ := bnd h
    refine k_callsI (pc := 14) C lk_X11_53 (by decide) (kc_X11_in e2) dX11_then_14 rfl rfl (Nat.le_of_ble_eq_true rfl) ?_
    refine k_if_eq (pc := 17) C 38 dX11_then_17 (by decide) h (fun c8 h => ?_) (fun c8 h => ?_)
    · refine k_sub [0] rfl ?_
      exact k_X11_then_b38 C E T h
    · refine k_iload_n (pc := 20) C dX11_then_20 3 rfl ?_
      obtain ⟨z3, e3, h⟩ := bnd h
      refine k_callsI (pc := 21) C lk_X11_105 (by decide) (kc_X11_isChoice e3) dX11_then_21 rfl rfl (Nat.le_of_ble_eq_true rfl) ?_
      refine k_if_eq (pc := 24) C 38 dX11_then_24 (by decide) h (fun c7 h => ?_) (fun c7 h => ?_)
      · refine k_sub [0] rfl ?_
        exact k_X11_then_b38 C E T h
      · refine k_iload (pc := 27) C dX11_then_27 4 rfl ?_
        refine k_i2l (pc := 29) C dX11_then_29 ?_
        refine k_lconst (pc := 30) (v := (0 : Int64)) C dX11_then_30 (by decide) ?_
        refine k_lconst (pc := 31) (v := (1 : Int64)) C dX11_then_31 (by decide) ?_
        obtain ⟨z4, e4, h⟩ := bnd h
        refine k_callsI (pc := 32) C lk_X11_53 (by decide) (kc_X11_in e4) dX11_then_32 rfl rfl (Nat.le_of_ble_eq_true rfl) ?_
        refine k_if_ne (pc := 35) C 45 dX11_then_35 (by decide) h (fun c6 h => ?_) (fun c6 h => ?_)
        · refine k_aload_n (pc := 45) C dX11_then_45 0 rfl ?_
          refine k_iload_n (pc := 46) C dX11_then_46 1 rfl ?_
          obtain ⟨z5, e5, h⟩ := bnd h
          refine k_callvV (pc := 47) C lk_X11_127 (by decide) ix_X11 wo_X11 rfl rfl (kc_X11_layOne e5) dX11_then_47 rfl rfl (Nat.le_of_ble_eq_true rfl) ?_
          refine k_iconst (pc := 50) (v := (0 : Int32)) C dX11_then_50 ciconst_0 ?_
          refine k_istore (pc := 51) C [(5, .int (0 : Int32)), (0, .ref (B.1 10 0)), (1, .int x1), (2, .int x2), (3, .int x3), (4, .int x4)] dX11_then_51 (by decide) rfl ?_
          refine k_sub [1, 2, 3, 4, 5, 0] rfl ?_
          exact k_X11_then_l53 C E FU z5 x1 x2 x3 x4 (0 : Int32) h
        · refine k_sub [0] rfl ?_
          exact k_X11_then_b38 C E T h
def m_X11_over_h22 (rec22 : TT → Int32 → Int32 → Option (Int32 × TT)) (T : TT) (x1 : Int32) (x2 : Int32) : Option (Int32 × TT) := if (100 : Int32) ≤ x2 then (some ((-1 : Int32), T)) else (if (T.2.1 10 6) = 0 then (some (x2, T)) else ((m_X11_kindOf T x1).bind (fun z5 => (m_X11_goDay T z5 ((T.1 10 1 16) + x2) (0 : Int32)).bind (fun z6 => bT (x2 + (1 : Int32)) (fun y7 => rec22 z6 x1 y7)))))
def m_X11_over_l22 : Nat → TT → Int32 → Int32 → Option (Int32 × TT)
  | 0 => fun _ _ _ => none
  | n + 1 => fun T x1 x2 => m_X11_over_h22 (m_X11_over_l22 n) T x1 x2
def m_X11_over (T : TT) (x1 : Int32) : Option (Int32 × TT) := (m_X11_isDriver T x1).bind (fun z1 => if z1 = 0 then ((m_X11_bad T (-2 : Int32)).bind (fun z3 => some (z3.1, z3.2))) else ((m_X11_layOne T x1).bind (fun z2 => m_X11_over_l22 FU z2 x1 (0 : Int32))))
set_option maxHeartbeats 4000000 in
set_option maxRecDepth 100000 in
theorem k_X11_over_h22 {B : KB} {X : KE} {rec22 : TT → Int32 → Int32 → Option (Int32 × TT)} {res : Int32 × TT} (C : Cx B X "GriefEngineModel" cX11_over 3 4) (E : Cr B X (some .int) (some (.int res.1)) res.2) (hrec22 : ∀ (T : TT) (x1 : Int32) (x2 : Int32), rec22 T x1 x2 = some res → Wk B X 3 T 22 [(0, .ref (B.1 10 0)), (1, .int x1), (2, .int x2)] []) (T : TT) (x1 : Int32) (x2 : Int32) (h : m_X11_over_h22 rec22 T x1 x2 = some res) : Wk B X 3 T 22 [(0, .ref (B.1 10 0)), (1, .int x1), (2, .int x2)] [] := by
  unfold m_X11_over_h22 at h
  refine k_iload_n (pc := 22) C dX11_over_22 2 rfl ?_
  refine k_bipush (pc := 23) (v := (100 : Int32)) C dX11_over_23 cbipush_100 ?_
  refine k_icmp_ge (pc := 25) C 62 dX11_over_25 (by decide) h (fun c9 h => ?_) (fun c9 h => ?_)
  · refine k_iconst (pc := 62) (v := (-1 : Int32)) C dX11_over_62 ciconst_m1 ?_
    exact k_iret (pc := 63) C E (some_1 h) (some_2 h) dX11_over_63
  · refine k_aload_n (pc := 28) C dX11_over_28 0 rfl ?_
    refine gf_X11_88 (pc := 29) C dX11_over_29 ?_
    refine k_if_ne (pc := 32) C 37 dX11_over_32 (by decide) h (fun c8 h => ?_) (fun c8 h => ?_)
    · refine k_aload_n (pc := 37) C dX11_over_37 0 rfl ?_
      refine k_aload_n (pc := 38) C dX11_over_38 0 rfl ?_
      refine k_iload_n (pc := 39) C dX11_over_39 1 rfl ?_
      obtain ⟨z5, e5, h⟩ := bnd h
      refine k_callvI (pc := 40) C lk_X11_124 (by decide) ix_X11 wo_X11 rfl rfl (kc_X11_kindOf e5) dX11_over_40 rfl rfl (Nat.le_of_ble_eq_true rfl) ?_
      refine k_aload_n (pc := 43) C dX11_over_43 0 rfl ?_
      refine gf_X11_7 (pc := 44) C dX11_over_44 ?_
      refine k_bipush (pc := 47) (v := (16 : Int32)) C dX11_over_47 cbipush_16 ?_
      refine k_ialdc (pc := 49) C ia_10_1 16 dX11_over_49 (by decide) (by decide) ?_
      refine k_iload_n (pc := 50) C dX11_over_50 2 rfl ?_
      refine k_iadd (pc := 51) C dX11_over_51 ?_
      refine k_iconst (pc := 52) (v := (0 : Int32)) C dX11_over_52 ciconst_0 ?_
      obtain ⟨z6, e6, h⟩ := bnd h
      refine k_callvV (pc := 53) C lk_X11_101 (by decide) ix_X11 wo_X11 rfl rfl (kc_X11_goDay e6) dX11_over_53 rfl rfl (Nat.le_of_ble_eq_true rfl) ?_
      refine k_iincN (pc := 56) (x := x2) (c := (1 : Int32)) C (fun y7 => [(2, .int y7), (0, .ref (B.1 10 0)), (1, .int x1)]) dX11_over_56 2 rfl ciconst_1 (by decide) (fun _ => rfl) h (fun y7 h => ?_)
      refine k_goto (pc := 59) C 22 dX11_over_59 (by decide) ?_
      refine k_sub [1, 2, 0] rfl ?_
      exact hrec22 z6 x1 y7 h
    · refine k_iload_n (pc := 35) C dX11_over_35 2 rfl ?_
      exact k_iret (pc := 36) C E (some_1 h) (some_2 h) dX11_over_36
set_option maxHeartbeats 4000000 in
set_option maxRecDepth 100000 in
theorem k_X11_over_l22 {B : KB} {X : KE} {res : Int32 × TT} (C : Cx B X "GriefEngineModel" cX11_over 3 4) (E : Cr B X (some .int) (some (.int res.1)) res.2) : ∀ (n : Nat) (T : TT) (x1 : Int32) (x2 : Int32) (h : m_X11_over_l22 n T x1 x2 = some res), Wk B X 3 T 22 [(0, .ref (B.1 10 0)), (1, .int x1), (2, .int x2)] [] := by
  intro n
  induction n with
  | zero =>
    intro T x1 x2 h
    exact no_some h
  | succ n ih =>
    intro T x1 x2 h
    exact k_X11_over_h22 C E (fun T x1 x2 h => ih T x1 x2 h) T x1 x2 h
set_option maxHeartbeats 4000000 in
set_option maxRecDepth 100000 in
theorem kc_X11_over {B : KB} {l : Launch} {T : TT} {x1 : Int32} {res : Int32 × TT} (h : m_X11_over T x1 = some res) : Kt B l 4 yX11_over cX11_over 3 (some .int) T [.ref (B.1 10 0), .int x1] (some (.int res.1)) res.2 := by
  refine Kt.of (by decide) (Nat.le_of_ble_eq_true rfl) (fun X hX C E => ?_)
  subst hX
  have C : Cx B X "GriefEngineModel" cX11_over 3 4 := C
  show Wk B X 3 T 0 [(0, .ref (B.1 10 0)), (1, .int x1)] []
  unfold m_X11_over at h
  refine k_aload_n (pc := 0) C dX11_over_0 0 rfl ?_
  refine k_iload_n (pc := 1) C dX11_over_1 1 rfl ?_
  obtain ⟨z1, e1, h⟩ := bnd h
  refine k_callvI (pc := 2) C lk_X11_116 (by decide) ix_X11 wo_X11 rfl rfl (kc_X11_isDriver e1) dX11_over_2 rfl rfl (Nat.le_of_ble_eq_true rfl) ?_
  refine k_if_ne (pc := 5) C 15 dX11_over_5 (by decide) h (fun c4 h => ?_) (fun c4 h => ?_)
  · refine k_aload_n (pc := 15) C dX11_over_15 0 rfl ?_
    refine k_iload_n (pc := 16) C dX11_over_16 1 rfl ?_
    obtain ⟨z2, e2, h⟩ := bnd h
    refine k_callvV (pc := 17) C lk_X11_127 (by decide) ix_X11 wo_X11 rfl rfl (kc_X11_layOne e2) dX11_over_17 rfl rfl (Nat.le_of_ble_eq_true rfl) ?_
    refine k_iconst (pc := 20) (v := (0 : Int32)) C dX11_over_20 ciconst_0 ?_
    refine k_istore_n (pc := 21) C [(2, .int (0 : Int32)), (0, .ref (B.1 10 0)), (1, .int x1)] dX11_over_21 (by decide) rfl ?_
    refine k_sub [1, 2, 0] rfl ?_
    exact k_X11_over_l22 C E FU z2 x1 (0 : Int32) h
  · refine k_aload_n (pc := 8) C dX11_over_8 0 rfl ?_
    refine k_bipush (pc := 9) (v := (-2 : Int32)) C dX11_over_9 cbipush_m2 ?_
    obtain ⟨z3, e3, h⟩ := bnd h
    refine k_callvI (pc := 11) C lk_X11_63 (by decide) ix_X11 wo_X11 rfl rfl (kc_X11_bad e3) dX11_over_11 rfl rfl (Nat.le_of_ble_eq_true rfl) ?_
    exact k_iret (pc := 14) C E (some_1 h) (some_2 h) dX11_over_14
def m_X11_powerOfThree_h4 (rec4 : Int32 → Int32 → Int32 → Option (Int32)) (x0 : Int32) (x1 : Int32) (x2 : Int32) : Option (Int32) := if x0 ≤ x2 then (some x1) else (bT (x1 * (3 : Int32)) (fun y1 => bT (x2 + (1 : Int32)) (fun y2 => rec4 x0 y1 y2)))
def m_X11_powerOfThree_l4 : Nat → Int32 → Int32 → Int32 → Option (Int32)
  | 0 => fun _ _ _ => none
  | n + 1 => fun x0 x1 x2 => m_X11_powerOfThree_h4 (m_X11_powerOfThree_l4 n) x0 x1 x2
def m_X11_powerOfThree (x0 : Int32) : Option (Int32) := m_X11_powerOfThree_l4 FU x0 (1 : Int32) (0 : Int32)
set_option maxHeartbeats 4000000 in
set_option maxRecDepth 100000 in
theorem k_X11_powerOfThree_h4 {B : KB} {X : KE} {rec4 : Int32 → Int32 → Int32 → Option (Int32)} {T0 : TT} {res : Int32} (C : Cx B X "GriefEngineModel" cX11_powerOfThree 3 1) (E : Cr B X (some .int) (some (.int res)) T0) (hrec4 : ∀ (x0 : Int32) (x1 : Int32) (x2 : Int32), rec4 x0 x1 x2 = some res → Wk B X 3 T0 4 [(0, .int x0), (1, .int x1), (2, .int x2)] []) (x0 : Int32) (x1 : Int32) (x2 : Int32) (h : m_X11_powerOfThree_h4 rec4 x0 x1 x2 = some res) : Wk B X 3 T0 4 [(0, .int x0), (1, .int x1), (2, .int x2)] [] := by
  unfold m_X11_powerOfThree_h4 at h
  refine k_iload_n (pc := 4) C dX11_powerOfThree_4 2 rfl ?_
  refine k_iload_n (pc := 5) C dX11_powerOfThree_5 0 rfl ?_
  refine k_icmp_ge (pc := 6) C 19 dX11_powerOfThree_6 (by decide) h (fun c3 h => ?_) (fun c3 h => ?_)
  · refine k_iload_n (pc := 19) C dX11_powerOfThree_19 1 rfl ?_
    exact k_iret (pc := 20) C E (some_i h) rfl dX11_powerOfThree_20
  · refine k_iload_n (pc := 9) C dX11_powerOfThree_9 1 rfl ?_
    refine k_iconst (pc := 10) (v := (3 : Int32)) C dX11_powerOfThree_10 ciconst_3 ?_
    refine k_imul (pc := 11) C dX11_powerOfThree_11 ?_
    refine k_nI h (fun y1 h => ?_)
    refine k_istore_n (pc := 12) C [(1, .int y1), (0, .int x0), (2, .int x2)] dX11_powerOfThree_12 (by decide) rfl ?_
    refine k_iincN (pc := 13) (x := x2) (c := (1 : Int32)) C (fun y2 => [(2, .int y2), (1, .int y1), (0, .int x0)]) dX11_powerOfThree_13 2 rfl ciconst_1 (by decide) (fun _ => rfl) h (fun y2 h => ?_)
    refine k_goto (pc := 16) C 4 dX11_powerOfThree_16 (by decide) ?_
    refine k_sub [2, 1, 0] rfl ?_
    exact hrec4 x0 y1 y2 h
set_option maxHeartbeats 4000000 in
set_option maxRecDepth 100000 in
theorem k_X11_powerOfThree_l4 {B : KB} {X : KE} {T0 : TT} {res : Int32} (C : Cx B X "GriefEngineModel" cX11_powerOfThree 3 1) (E : Cr B X (some .int) (some (.int res)) T0) : ∀ (n : Nat) (x0 : Int32) (x1 : Int32) (x2 : Int32) (h : m_X11_powerOfThree_l4 n x0 x1 x2 = some res), Wk B X 3 T0 4 [(0, .int x0), (1, .int x1), (2, .int x2)] [] := by
  intro n
  induction n with
  | zero =>
    intro x0 x1 x2 h
    exact no_some h
  | succ n ih =>
    intro x0 x1 x2 h
    exact k_X11_powerOfThree_h4 C E (fun x0 x1 x2 h => ih x0 x1 x2 h) x0 x1 x2 h
set_option maxHeartbeats 4000000 in
set_option maxRecDepth 100000 in
theorem kc_X11_powerOfThree {B : KB} {l : Launch} {T : TT} {x0 : Int32} {res : Int32} (h : m_X11_powerOfThree x0 = some res) : Kt B l 1 yX11_powerOfThree cX11_powerOfThree 3 (some .int) T [.int x0] (some (.int res)) T := by
  refine Kt.of (by decide) (Nat.le_of_ble_eq_true rfl) (fun X hX C E => ?_)
  subst hX
  have C : Cx B X "GriefEngineModel" cX11_powerOfThree 3 1 := C
  show Wk B X 3 T 0 [(0, .int x0)] []
  unfold m_X11_powerOfThree at h
  refine k_iconst (pc := 0) (v := (1 : Int32)) C dX11_powerOfThree_0 ciconst_1 ?_
  refine k_istore_n (pc := 1) C [(1, .int (1 : Int32)), (0, .int x0)] dX11_powerOfThree_1 (by decide) rfl ?_
  refine k_iconst (pc := 2) (v := (0 : Int32)) C dX11_powerOfThree_2 ciconst_0 ?_
  refine k_istore_n (pc := 3) C [(2, .int (0 : Int32)), (1, .int (1 : Int32)), (0, .int x0)] dX11_powerOfThree_3 (by decide) rfl ?_
  refine k_sub [2, 1, 0] rfl ?_
  exact k_X11_powerOfThree_l4 C E FU x0 (1 : Int32) (0 : Int32) h
