def m_X11_fits_b106 (rec5 : TT → Int32 → Int32 → Int32 → Int32 → Option (Int32 × TT)) (T : TT) (x1 : Int32) (x2 : Int32) (x4 : Int32) (s0 : Int32) : Option (Int32 × TT) := bT (x4 + (1 : Int32)) (fun y12 => rec5 T x1 x2 s0 y12)
def m_X11_fits_b105 (rec5 : TT → Int32 → Int32 → Int32 → Int32 → Option (Int32 × TT)) (T : TT) (x1 : Int32) (x2 : Int32) (x4 : Int32) : Option (Int32 × TT) := m_X11_fits_b106 rec5 T x1 x2 x4 (0 : Int32)
def m_X11_fits_b101 (rec5 : TT → Int32 → Int32 → Int32 → Int32 → Option (Int32 × TT)) (T : TT) (x1 : Int32) (x2 : Int32) (x4 : Int32) : Option (Int32 × TT) := m_X11_fits_b106 rec5 T x1 x2 x4 (1 : Int32)
def m_X11_fits_h38 (rec5 : TT → Int32 → Int32 → Int32 → Int32 → Option (Int32 × TT)) (rec38 : TT → Int32 → Int32 → Int32 → Int32 → Int32 → Int32 → Option (Int32 × TT)) (T : TT) (x1 : Int32) (x2 : Int32) (x3 : Int32) (x4 : Int32) (x5 : Int32) (x6 : Int32) : Option (Int32 × TT) := if inb (x5 + (1 : Int32)) 175 then (if (T.1 10 1 (Int32.toNatClampNeg (x5 + (1 : Int32)))) ≤ x6 then (if x3 = 0 then (m_X11_fits_b105 rec5 T x1 x2 x4) else (if inb x5 175 then (if (T.1 10 1 (Int32.toNatClampNeg x5)) = x1 then (if inb (x5 + (2 : Int32)) 175 then (if (T.2.1 10 7) = (T.1 10 1 (Int32.toNatClampNeg (x5 + (2 : Int32)))) then (m_X11_fits_b101 rec5 T x1 x2 x4) else (m_X11_fits_b105 rec5 T x1 x2 x4)) else none) else (m_X11_fits_b101 rec5 T x1 x2 x4)) else none)) else ((m_X11_kindOf T x1).bind (fun z8 => (m_X11_goDay T z8 x6 (0 : Int32)).bind (fun z9 => bT (x6 + (1 : Int32)) (fun y10 => rec38 z9 x1 x2 x3 x4 x5 y10))))) else none
def m_X11_fits_l38 (rec5 : TT → Int32 → Int32 → Int32 → Int32 → Option (Int32 × TT)) : Nat → TT → Int32 → Int32 → Int32 → Int32 → Int32 → Int32 → Option (Int32 × TT)
  | 0 => fun _ _ _ _ _ _ _ => none
  | n + 1 => fun T x1 x2 x3 x4 x5 x6 => m_X11_fits_h38 rec5 (m_X11_fits_l38 rec5 n) T x1 x2 x3 x4 x5 x6
def m_X11_fits_h5 (rec5 : TT → Int32 → Int32 → Int32 → Int32 → Option (Int32 × TT)) (T : TT) (x1 : Int32) (x2 : Int32) (x3 : Int32) (x4 : Int32) : Option (Int32 × TT) := if (T.1 10 1 2) ≤ x4 then (if x3 = 0 ∨ x3 = 1 then some (x3, T) else none) else (bT ((59 : Int32) + ((3 : Int32) * x4)) (fun y1 => bT (sI T 10 6 x2) (fun T2 => bT (sI T2 10 7 (0 : Int32)) (fun T3 => m_X11_fits_l38 rec5 FU T3 x1 x2 x3 x4 y1 (0 : Int32)))))
def m_X11_fits_l5 : Nat → TT → Int32 → Int32 → Int32 → Int32 → Option (Int32 × TT)
  | 0 => fun _ _ _ _ _ => none
  | n + 1 => fun T x1 x2 x3 x4 => m_X11_fits_h5 (m_X11_fits_l5 n) T x1 x2 x3 x4
def m_X11_fits (T : TT) (x1 : Int32) (x2 : Int32) : Option (Int32 × TT) := m_X11_fits_l5 FU T x1 x2 (1 : Int32) (0 : Int32)
set_option maxHeartbeats 4000000 in
set_option maxRecDepth 100000 in
theorem k_X11_fits_b106 {B : KB} {X : KE} {rec5 : TT → Int32 → Int32 → Int32 → Int32 → Option (Int32 × TT)} {res : Int32 × TT} (C : Cx B X "GriefEngineModel" cX11_fits 7 4) (E : Cr B X (some .boolean) (some (.int res.1)) res.2) (hrec5 : ∀ (T : TT) (x1 : Int32) (x2 : Int32) (x3 : Int32) (x4 : Int32), rec5 T x1 x2 x3 x4 = some res → Wk B X 7 T 5 [(0, .ref (B.1 10 0)), (1, .int x1), (2, .int x2), (3, .int x3), (4, .int x4)] []) (T : TT) (x1 : Int32) (x2 : Int32) (x4 : Int32) (s0 : Int32) (h : m_X11_fits_b106 rec5 T x1 x2 x4 s0 = some res) : Wk B X 7 T 106 [(0, .ref (B.1 10 0)), (1, .int x1), (2, .int x2), (4, .int x4)] [.int s0] := by
  unfold m_X11_fits_b106 at h
  refine k_istore_n (pc := 106) C [(3, .int s0), (0, .ref (B.1 10 0)), (1, .int x1), (2, .int x2), (4, .int x4)] dX11_fits_106 (by decide) rfl ?_
  refine k_iincN (pc := 107) (x := x4) (c := (1 : Int32)) C (fun y12 => [(4, .int y12), (3, .int s0), (0, .ref (B.1 10 0)), (1, .int x1), (2, .int x2)]) dX11_fits_107 4 rfl ciconst_1 (by decide) (fun _ => rfl) h (fun y12 h => ?_)
  refine k_goto (pc := 110) C 5 dX11_fits_110 (by decide) ?_
  refine k_sub [2, 3, 4, 1, 0] rfl ?_
  exact hrec5 T x1 x2 s0 y12 h
set_option maxHeartbeats 4000000 in
set_option maxRecDepth 100000 in
theorem k_X11_fits_b105 {B : KB} {X : KE} {rec5 : TT → Int32 → Int32 → Int32 → Int32 → Option (Int32 × TT)} {res : Int32 × TT} (C : Cx B X "GriefEngineModel" cX11_fits 7 4) (E : Cr B X (some .boolean) (some (.int res.1)) res.2) (hrec5 : ∀ (T : TT) (x1 : Int32) (x2 : Int32) (x3 : Int32) (x4 : Int32), rec5 T x1 x2 x3 x4 = some res → Wk B X 7 T 5 [(0, .ref (B.1 10 0)), (1, .int x1), (2, .int x2), (3, .int x3), (4, .int x4)] []) (T : TT) (x1 : Int32) (x2 : Int32) (x4 : Int32) (h : m_X11_fits_b105 rec5 T x1 x2 x4 = some res) : Wk B X 7 T 105 [(0, .ref (B.1 10 0)), (1, .int x1), (2, .int x2), (4, .int x4)] [] := by
  unfold m_X11_fits_b105 at h
  refine k_iconst (pc := 105) (v := (0 : Int32)) C dX11_fits_105 ciconst_0 ?_
  refine k_sub [0, 1, 2, 3] rfl ?_
  exact k_X11_fits_b106 C E hrec5 T x1 x2 x4 (0 : Int32) h
set_option maxHeartbeats 4000000 in
set_option maxRecDepth 100000 in
theorem k_X11_fits_b101 {B : KB} {X : KE} {rec5 : TT → Int32 → Int32 → Int32 → Int32 → Option (Int32 × TT)} {res : Int32 × TT} (C : Cx B X "GriefEngineModel" cX11_fits 7 4) (E : Cr B X (some .boolean) (some (.int res.1)) res.2) (hrec5 : ∀ (T : TT) (x1 : Int32) (x2 : Int32) (x3 : Int32) (x4 : Int32), rec5 T x1 x2 x3 x4 = some res → Wk B X 7 T 5 [(0, .ref (B.1 10 0)), (1, .int x1), (2, .int x2), (3, .int x3), (4, .int x4)] []) (T : TT) (x1 : Int32) (x2 : Int32) (x4 : Int32) (h : m_X11_fits_b101 rec5 T x1 x2 x4 = some res) : Wk B X 7 T 101 [(0, .ref (B.1 10 0)), (1, .int x1), (2, .int x2), (4, .int x4)] [] := by
  unfold m_X11_fits_b101 at h
  refine k_iconst (pc := 101) (v := (1 : Int32)) C dX11_fits_101 ciconst_1 ?_
  refine k_goto (pc := 102) C 106 dX11_fits_102 (by decide) ?_
  refine k_sub [0, 1, 2, 3] rfl ?_
  exact k_X11_fits_b106 C E hrec5 T x1 x2 x4 (1 : Int32) h
set_option maxHeartbeats 4000000 in
set_option maxRecDepth 100000 in
theorem k_X11_fits_h38 {B : KB} {X : KE} {rec5 : TT → Int32 → Int32 → Int32 → Int32 → Option (Int32 × TT)} {rec38 : TT → Int32 → Int32 → Int32 → Int32 → Int32 → Int32 → Option (Int32 × TT)} {res : Int32 × TT} (C : Cx B X "GriefEngineModel" cX11_fits 7 4) (E : Cr B X (some .boolean) (some (.int res.1)) res.2) (hrec5 : ∀ (T : TT) (x1 : Int32) (x2 : Int32) (x3 : Int32) (x4 : Int32), rec5 T x1 x2 x3 x4 = some res → Wk B X 7 T 5 [(0, .ref (B.1 10 0)), (1, .int x1), (2, .int x2), (3, .int x3), (4, .int x4)] []) (hrec38 : ∀ (T : TT) (x1 : Int32) (x2 : Int32) (x3 : Int32) (x4 : Int32) (x5 : Int32) (x6 : Int32), rec38 T x1 x2 x3 x4 x5 x6 = some res → Wk B X 7 T 38 [(0, .ref (B.1 10 0)), (1, .int x1), (2, .int x2), (3, .int x3), (4, .int x4), (5, .int x5), (6, .int x6)] []) (T : TT) (x1 : Int32) (x2 : Int32) (x3 : Int32) (x4 : Int32) (x5 : Int32) (x6 : Int32) (h : m_X11_fits_h38 rec5 rec38 T x1 x2 x3 x4 x5 x6 = some res) : Wk B X 7 T 38 [(0, .ref (B.1 10 0)), (1, .int x1), (2, .int x2), (3, .int x3), (4, .int x4), (5, .int x5), (6, .int x6)] [] := by
  unfold m_X11_fits_h38 at h
  refine k_iload (pc := 38) C dX11_fits_38 6 rfl ?_
  refine k_aload_n (pc := 40) C dX11_fits_40 0 rfl ?_
  refine gf_X11_7 (pc := 41) C dX11_fits_41 ?_
  refine k_iload (pc := 44) C dX11_fits_44 5 rfl ?_
  refine k_iconst (pc := 46) (v := (1 : Int32)) C dX11_fits_46 ciconst_1 ?_
  refine k_iadd (pc := 47) C dX11_fits_47 ?_
  refine k_iald (pc := 48) C ia_10_1 dX11_fits_48 h (fun h => ?_)
  refine k_icmp_ge (pc := 49) C 70 dX11_fits_49 (by decide) h (fun c11 h => ?_) (fun c11 h => ?_)
  · refine k_iload_n (pc := 70) C dX11_fits_70 3 rfl ?_
    refine k_if_eq (pc := 71) C 105 dX11_fits_71 (by decide) h (fun c7 h => ?_) (fun c7 h => ?_)
    · refine k_sub [0, 1, 2, 4] rfl ?_
      exact k_X11_fits_b105 C E hrec5 T x1 x2 x4 h
    · refine k_aload_n (pc := 74) C dX11_fits_74 0 rfl ?_
      refine gf_X11_7 (pc := 75) C dX11_fits_75 ?_
      refine k_iload (pc := 78) C dX11_fits_78 5 rfl ?_
      refine k_iald (pc := 80) C ia_10_1 dX11_fits_80 h (fun h => ?_)
      refine k_iload_n (pc := 81) C dX11_fits_81 1 rfl ?_
      refine k_icmp_ne (pc := 82) C 101 dX11_fits_82 (by decide) h (fun c6 h => ?_) (fun c6 h => ?_)
      · refine k_sub [0, 1, 2, 4] rfl ?_
        exact k_X11_fits_b101 C E hrec5 T x1 x2 x4 h
      · refine k_aload_n (pc := 85) C dX11_fits_85 0 rfl ?_
        refine gf_X11_84 (pc := 86) C dX11_fits_86 ?_
        refine k_aload_n (pc := 89) C dX11_fits_89 0 rfl ?_
        refine gf_X11_7 (pc := 90) C dX11_fits_90 ?_
        refine k_iload (pc := 93) C dX11_fits_93 5 rfl ?_
        refine k_iconst (pc := 95) (v := (2 : Int32)) C dX11_fits_95 ciconst_2 ?_
        refine k_iadd (pc := 96) C dX11_fits_96 ?_
        refine k_iald (pc := 97) C ia_10_1 dX11_fits_97 h (fun h => ?_)
        refine k_icmp_ne (pc := 98) C 105 dX11_fits_98 (by decide) h (fun c5 h => ?_) (fun c5 h => ?_)
        · refine k_sub [0, 1, 2, 4] rfl ?_
          exact k_X11_fits_b105 C E hrec5 T x1 x2 x4 h
        · refine k_sub [0, 1, 2, 4] rfl ?_
          exact k_X11_fits_b101 C E hrec5 T x1 x2 x4 h
  · refine k_aload_n (pc := 52) C dX11_fits_52 0 rfl ?_
    refine k_aload_n (pc := 53) C dX11_fits_53 0 rfl ?_
    refine k_iload_n (pc := 54) C dX11_fits_54 1 rfl ?_
    obtain ⟨z8, e8, h⟩ := bnd h
    refine k_callvI (pc := 55) C lk_X11_124 (by decide) ix_X11 wo_X11 rfl rfl (kc_X11_kindOf e8) dX11_fits_55 rfl rfl (Nat.le_of_ble_eq_true rfl) ?_
    refine k_iload (pc := 58) C dX11_fits_58 6 rfl ?_
    refine k_iconst (pc := 60) (v := (0 : Int32)) C dX11_fits_60 ciconst_0 ?_
    obtain ⟨z9, e9, h⟩ := bnd h
    refine k_callvV (pc := 61) C lk_X11_101 (by decide) ix_X11 wo_X11 rfl rfl (kc_X11_goDay e9) dX11_fits_61 rfl rfl (Nat.le_of_ble_eq_true rfl) ?_
    refine k_iincN (pc := 64) (x := x6) (c := (1 : Int32)) C (fun y10 => [(6, .int y10), (0, .ref (B.1 10 0)), (1, .int x1), (2, .int x2), (3, .int x3), (4, .int x4), (5, .int x5)]) dX11_fits_64 6 rfl ciconst_1 (by decide) (fun _ => rfl) h (fun y10 h => ?_)
    refine k_goto (pc := 67) C 38 dX11_fits_67 (by decide) ?_
    refine k_sub [1, 2, 3, 4, 5, 6, 0] rfl ?_
    exact hrec38 z9 x1 x2 x3 x4 x5 y10 h
set_option maxHeartbeats 4000000 in
set_option maxRecDepth 100000 in
theorem k_X11_fits_l38 {B : KB} {X : KE} {rec5 : TT → Int32 → Int32 → Int32 → Int32 → Option (Int32 × TT)} {res : Int32 × TT} (C : Cx B X "GriefEngineModel" cX11_fits 7 4) (E : Cr B X (some .boolean) (some (.int res.1)) res.2) (hrec5 : ∀ (T : TT) (x1 : Int32) (x2 : Int32) (x3 : Int32) (x4 : Int32), rec5 T x1 x2 x3 x4 = some res → Wk B X 7 T 5 [(0, .ref (B.1 10 0)), (1, .int x1), (2, .int x2), (3, .int x3), (4, .int x4)] []) : ∀ (n : Nat) (T : TT) (x1 : Int32) (x2 : Int32) (x3 : Int32) (x4 : Int32) (x5 : Int32) (x6 : Int32) (h : m_X11_fits_l38 rec5 n T x1 x2 x3 x4 x5 x6 = some res), Wk B X 7 T 38 [(0, .ref (B.1 10 0)), (1, .int x1), (2, .int x2), (3, .int x3), (4, .int x4), (5, .int x5), (6, .int x6)] [] := by
  intro n
  induction n with
  | zero =>
    intro T x1 x2 x3 x4 x5 x6 h
    exact no_some h
  | succ n ih =>
    intro T x1 x2 x3 x4 x5 x6 h
    exact k_X11_fits_h38 C E hrec5 (fun T x1 x2 x3 x4 x5 x6 h => ih T x1 x2 x3 x4 x5 x6 h) T x1 x2 x3 x4 x5 x6 h
set_option maxHeartbeats 4000000 in
set_option maxRecDepth 100000 in
theorem k_X11_fits_h5 {B : KB} {X : KE} {rec5 : TT → Int32 → Int32 → Int32 → Int32 → Option (Int32 × TT)} {res : Int32 × TT} (C : Cx B X "GriefEngineModel" cX11_fits 7 4) (E : Cr B X (some .boolean) (some (.int res.1)) res.2) (hrec5 : ∀ (T : TT) (x1 : Int32) (x2 : Int32) (x3 : Int32) (x4 : Int32), rec5 T x1 x2 x3 x4 = some res → Wk B X 7 T 5 [(0, .ref (B.1 10 0)), (1, .int x1), (2, .int x2), (3, .int x3), (4, .int x4)] []) (T : TT) (x1 : Int32) (x2 : Int32) (x3 : Int32) (x4 : Int32) (h : m_X11_fits_h5 rec5 T x1 x2 x3 x4 = some res) : Wk B X 7 T 5 [(0, .ref (B.1 10 0)), (1, .int x1), (2, .int x2), (3, .int x3), (4, .int x4)] [] := by
  unfold m_X11_fits_h5 at h
  refine k_iload (pc := 5) C dX11_fits_5 4 rfl ?_
  refine k_aload_n (pc := 7) C dX11_fits_7 0 rfl ?_
  refine gf_X11_7 (pc := 8) C dX11_fits_8 ?_
  refine k_iconst (pc := 11) (v := (2 : Int32)) C dX11_fits_11 ciconst_2 ?_
  refine k_ialdc (pc := 12) C ia_10_1 2 dX11_fits_12 (by decide) (by decide) ?_
  refine k_icmp_ge (pc := 13) C 113 dX11_fits_13 (by decide) h (fun c4 h => ?_) (fun c4 h => ?_)
  · refine k_iload_n (pc := 113) C dX11_fits_113 3 rfl ?_
    by_cases cz : x3 = 0 ∨ x3 = 1
    · rw [if_pos cz] at h
      exact k_zret (pc := 114) C E (bool01 cz) (some_1 h) (some_2 h) dX11_fits_114
    · rw [if_neg cz] at h
      exact no_some h
  · refine k_bipush (pc := 16) (v := (59 : Int32)) C dX11_fits_16 cbipush_59 ?_
    refine k_iconst (pc := 18) (v := (3 : Int32)) C dX11_fits_18 ciconst_3 ?_
    refine k_iload (pc := 19) C dX11_fits_19 4 rfl ?_
    refine k_imul (pc := 21) C dX11_fits_21 ?_
    refine k_iadd (pc := 22) C dX11_fits_22 ?_
    refine k_nI h (fun y1 h => ?_)
    refine k_istore (pc := 23) C [(5, .int y1), (0, .ref (B.1 10 0)), (1, .int x1), (2, .int x2), (3, .int x3), (4, .int x4)] dX11_fits_23 (by decide) rfl ?_
    refine k_aload_n (pc := 25) C dX11_fits_25 1 rfl ?_
    refine k_iload_n (pc := 26) C dX11_fits_26 3 rfl ?_
    refine pf_X11_88 (pc := 27) C dX11_fits_27 ?_
    refine k_nT h (fun T2 h => ?_)
    refine k_aload_n (pc := 30) C dX11_fits_30 1 rfl ?_
    refine k_iconst (pc := 31) (v := (0 : Int32)) C dX11_fits_31 ciconst_0 ?_
    refine pf_X11_84 (pc := 32) C dX11_fits_32 ?_
    refine k_nT h (fun T3 h => ?_)
    refine k_iconst (pc := 35) (v := (0 : Int32)) C dX11_fits_35 ciconst_0 ?_
    refine k_istore (pc := 36) C [(6, .int (0 : Int32)), (5, .int y1), (0, .ref (B.1 10 0)), (1, .int x1), (2, .int x2), (3, .int x3), (4, .int x4)] dX11_fits_36 (by decide) rfl ?_
    refine k_sub [2, 3, 4, 5, 6, 1, 0] rfl ?_
    exact k_X11_fits_l38 C E hrec5 FU T3 x1 x2 x3 x4 y1 (0 : Int32) h
set_option maxHeartbeats 4000000 in
set_option maxRecDepth 100000 in
theorem k_X11_fits_l5 {B : KB} {X : KE} {res : Int32 × TT} (C : Cx B X "GriefEngineModel" cX11_fits 7 4) (E : Cr B X (some .boolean) (some (.int res.1)) res.2) : ∀ (n : Nat) (T : TT) (x1 : Int32) (x2 : Int32) (x3 : Int32) (x4 : Int32) (h : m_X11_fits_l5 n T x1 x2 x3 x4 = some res), Wk B X 7 T 5 [(0, .ref (B.1 10 0)), (1, .int x1), (2, .int x2), (3, .int x3), (4, .int x4)] [] := by
  intro n
  induction n with
  | zero =>
    intro T x1 x2 x3 x4 h
    exact no_some h
  | succ n ih =>
    intro T x1 x2 x3 x4 h
    exact k_X11_fits_h5 C E (fun T x1 x2 x3 x4 h => ih T x1 x2 x3 x4 h) T x1 x2 x3 x4 h
set_option maxHeartbeats 4000000 in
set_option maxRecDepth 100000 in
theorem kc_X11_fits {B : KB} {l : Launch} {T : TT} {x1 : Int32} {x2 : Int32} {res : Int32 × TT} (h : m_X11_fits T x1 x2 = some res) : Kt B l 4 yX11_fits cX11_fits 7 (some .boolean) T [.ref (B.1 10 0), .int x1, .int x2] (some (.int res.1)) res.2 := by
  refine Kt.of (by decide) (Nat.le_of_ble_eq_true rfl) (fun X hX C E => ?_)
  subst hX
  have C : Cx B X "GriefEngineModel" cX11_fits 7 4 := C
  show Wk B X 7 T 0 [(0, .ref (B.1 10 0)), (1, .int x1), (2, .int x2)] []
  unfold m_X11_fits at h
  refine k_iconst (pc := 0) (v := (1 : Int32)) C dX11_fits_0 ciconst_1 ?_
  refine k_istore_n (pc := 1) C [(3, .int (1 : Int32)), (0, .ref (B.1 10 0)), (1, .int x1), (2, .int x2)] dX11_fits_1 (by decide) rfl ?_
  refine k_iconst (pc := 2) (v := (0 : Int32)) C dX11_fits_2 ciconst_0 ?_
  refine k_istore (pc := 3) C [(4, .int (0 : Int32)), (3, .int (1 : Int32)), (0, .ref (B.1 10 0)), (1, .int x1), (2, .int x2)] dX11_fits_3 (by decide) rfl ?_
  refine k_sub [2, 3, 4, 1, 0] rfl ?_
  exact k_X11_fits_l5 C E FU T x1 x2 (1 : Int32) (0 : Int32) h
def m_X11_had_b66 (rec33 : TT → Int32 → Int32 → Int32 → Int32 → Int32 → Option (Int32 × TT)) (T : TT) (x1 : Int32) (x2 : Int32) (x3 : Int32) (x4 : Int32) (x5 : Int32) : Option (Int32 × TT) := bT (x5 + (1 : Int32)) (fun y11 => rec33 T x1 x2 x3 x4 y11)
def m_X11_had_b61 (rec33 : TT → Int32 → Int32 → Int32 → Int32 → Int32 → Option (Int32 × TT)) (T : TT) (x1 : Int32) (x2 : Int32) (x3 : Int32) (x5 : Int32) (s0 : Int32) : Option (Int32 × TT) := bT (x3 + (1 : Int32)) (fun y10 => m_X11_had_b66 rec33 T x1 x2 y10 s0 x5)
def m_X11_had_h33 (rec33 : TT → Int32 → Int32 → Int32 → Int32 → Int32 → Option (Int32 × TT)) (T : TT) (x1 : Int32) (x2 : Int32) (x3 : Int32) (x4 : Int32) (x5 : Int32) : Option (Int32 × TT) := if (99 : Int32) < x5 then (if x2 = 0 then (some (x3, T)) else (some (x4, T))) else ((m_X11_fits T x1 x5).bind (fun z6 => if z6.1 = 0 then (m_X11_had_b66 rec33 z6.2 x1 x2 x3 x4 x5) else (if x3 = 0 then (m_X11_had_b61 rec33 z6.2 x1 x2 x3 x5 x5) else (m_X11_had_b61 rec33 z6.2 x1 x2 x3 x5 x4))))
def m_X11_had_l33 : Nat → TT → Int32 → Int32 → Int32 → Int32 → Int32 → Option (Int32 × TT)
  | 0 => fun _ _ _ _ _ _ => none
  | n + 1 => fun T x1 x2 x3 x4 x5 => m_X11_had_h33 (m_X11_had_l33 n) T x1 x2 x3 x4 x5
def m_X11_had_b18 (T : TT) : Option (Int32 × TT) := (m_X11_bad T (-2 : Int32)).bind (fun z12 => some (z12.1, z12.2))
def m_X11_had (T : TT) (x1 : Int32) (x2 : Int32) : Option (Int32 × TT) := (m_X11_isDriver T x1).bind (fun z1 => if z1 = 0 then (m_X11_had_b18 T) else ((m_X11_in (x2.toInt64) (0 : Int64) (1 : Int64)).bind (fun z2 => if z2 = 0 then (m_X11_had_b18 T) else (m_X11_had_l33 FU T x1 x2 (0 : Int32) (-1 : Int32) (0 : Int32)))))
set_option maxHeartbeats 4000000 in
set_option maxRecDepth 100000 in
theorem k_X11_had_b66 {B : KB} {X : KE} {rec33 : TT → Int32 → Int32 → Int32 → Int32 → Int32 → Option (Int32 × TT)} {res : Int32 × TT} (C : Cx B X "GriefEngineModel" cX11_had 6 5) (E : Cr B X (some .int) (some (.int res.1)) res.2) (hrec33 : ∀ (T : TT) (x1 : Int32) (x2 : Int32) (x3 : Int32) (x4 : Int32) (x5 : Int32), rec33 T x1 x2 x3 x4 x5 = some res → Wk B X 6 T 33 [(0, .ref (B.1 10 0)), (1, .int x1), (2, .int x2), (3, .int x3), (4, .int x4), (5, .int x5)] []) (T : TT) (x1 : Int32) (x2 : Int32) (x3 : Int32) (x4 : Int32) (x5 : Int32) (h : m_X11_had_b66 rec33 T x1 x2 x3 x4 x5 = some res) : Wk B X 6 T 66 [(0, .ref (B.1 10 0)), (1, .int x1), (2, .int x2), (3, .int x3), (4, .int x4), (5, .int x5)] [] := by
  unfold m_X11_had_b66 at h
  refine k_iincN (pc := 66) (x := x5) (c := (1 : Int32)) C (fun y11 => [(5, .int y11), (0, .ref (B.1 10 0)), (1, .int x1), (2, .int x2), (3, .int x3), (4, .int x4)]) dX11_had_66 5 rfl ciconst_1 (by decide) (fun _ => rfl) h (fun y11 h => ?_)
  refine k_goto (pc := 69) C 33 dX11_had_69 (by decide) ?_
  refine k_sub [1, 2, 3, 4, 5, 0] rfl ?_
  exact hrec33 T x1 x2 x3 x4 y11 h
set_option maxHeartbeats 4000000 in
set_option maxRecDepth 100000 in
theorem k_X11_had_b61 {B : KB} {X : KE} {rec33 : TT → Int32 → Int32 → Int32 → Int32 → Int32 → Option (Int32 × TT)} {res : Int32 × TT} (C : Cx B X "GriefEngineModel" cX11_had 6 5) (E : Cr B X (some .int) (some (.int res.1)) res.2) (hrec33 : ∀ (T : TT) (x1 : Int32) (x2 : Int32) (x3 : Int32) (x4 : Int32) (x5 : Int32), rec33 T x1 x2 x3 x4 x5 = some res → Wk B X 6 T 33 [(0, .ref (B.1 10 0)), (1, .int x1), (2, .int x2), (3, .int x3), (4, .int x4), (5, .int x5)] []) (T : TT) (x1 : Int32) (x2 : Int32) (x3 : Int32) (x5 : Int32) (s0 : Int32) (h : m_X11_had_b61 rec33 T x1 x2 x3 x5 s0 = some res) : Wk B X 6 T 61 [(0, .ref (B.1 10 0)), (1, .int x1), (2, .int x2), (3, .int x3), (5, .int x5)] [.int s0] := by
  unfold m_X11_had_b61 at h
  refine k_istore (pc := 61) C [(4, .int s0), (0, .ref (B.1 10 0)), (1, .int x1), (2, .int x2), (3, .int x3), (5, .int x5)] dX11_had_61 (by decide) rfl ?_
  refine k_iincN (pc := 63) (x := x3) (c := (1 : Int32)) C (fun y10 => [(3, .int y10), (4, .int s0), (0, .ref (B.1 10 0)), (1, .int x1), (2, .int x2), (5, .int x5)]) dX11_had_63 4 rfl ciconst_1 (by decide) (fun _ => rfl) h (fun y10 h => ?_)
  refine k_sub [2, 3, 4, 0, 1, 5] rfl ?_
  exact k_X11_had_b66 C E hrec33 T x1 x2 y10 s0 x5 h
set_option maxHeartbeats 4000000 in
set_option maxRecDepth 100000 in
theorem k_X11_had_h33 {B : KB} {X : KE} {rec33 : TT → Int32 → Int32 → Int32 → Int32 → Int32 → Option (Int32 × TT)} {res : Int32 × TT} (C : Cx B X "GriefEngineModel" cX11_had 6 5) (E : Cr B X (some .int) (some (.int res.1)) res.2) (hrec33 : ∀ (T : TT) (x1 : Int32) (x2 : Int32) (x3 : Int32) (x4 : Int32) (x5 : Int32), rec33 T x1 x2 x3 x4 x5 = some res → Wk B X 6 T 33 [(0, .ref (B.1 10 0)), (1, .int x1), (2, .int x2), (3, .int x3), (4, .int x4), (5, .int x5)] []) (T : TT) (x1 : Int32) (x2 : Int32) (x3 : Int32) (x4 : Int32) (x5 : Int32) (h : m_X11_had_h33 rec33 T x1 x2 x3 x4 x5 = some res) : Wk B X 6 T 33 [(0, .ref (B.1 10 0)), (1, .int x1), (2, .int x2), (3, .int x3), (4, .int x4), (5, .int x5)] [] := by
  unfold m_X11_had_h33 at h
  refine k_iload (pc := 33) C dX11_had_33 5 rfl ?_
  refine k_bipush (pc := 35) (v := (99 : Int32)) C dX11_had_35 cbipush_99 ?_
  refine k_icmp_gt (pc := 37) C 72 dX11_had_37 (by decide) h (fun c9 h => ?_) (fun c9 h => ?_)
  · refine k_iload_n (pc := 72) C dX11_had_72 2 rfl ?_
    refine k_if_ne (pc := 73) C 80 dX11_had_73 (by decide) h (fun c5 h => ?_) (fun c5 h => ?_)
    · refine k_iload (pc := 80) C dX11_had_80 4 rfl ?_
      exact k_iret (pc := 82) C E (some_1 h) (some_2 h) dX11_had_82
    · refine k_iload_n (pc := 76) C dX11_had_76 3 rfl ?_
      refine k_goto (pc := 77) C 82 dX11_had_77 (by decide) ?_
      exact k_iret (pc := 82) C E (some_1 h) (some_2 h) dX11_had_82
  · refine k_aload_n (pc := 40) C dX11_had_40 0 rfl ?_
    refine k_iload_n (pc := 41) C dX11_had_41 1 rfl ?_
    refine k_iload (pc := 42) C dX11_had_42 5 rfl ?_
    obtain ⟨z6, e6, h⟩ := bnd h
    refine k_callvI (pc := 44) C lk_X11_174 (by decide) ix_X11 wo_X11 rfl rfl (kc_X11_fits e6) dX11_had_44 rfl rfl (Nat.le_of_ble_eq_true rfl) ?_
    refine k_if_eq (pc := 47) C 66 dX11_had_47 (by decide) h (fun c8 h => ?_) (fun c8 h => ?_)
    · refine k_sub [0, 1, 2, 3, 4, 5] rfl ?_
      exact k_X11_had_b66 C E hrec33 z6.2 x1 x2 x3 x4 x5 h
    · refine k_iload_n (pc := 50) C dX11_had_50 3 rfl ?_
      refine k_if_ne (pc := 51) C 59 dX11_had_51 (by decide) h (fun c7 h => ?_) (fun c7 h => ?_)
      · refine k_iload (pc := 59) C dX11_had_59 4 rfl ?_
        refine k_sub [0, 1, 2, 3, 5] rfl ?_
        exact k_X11_had_b61 C E hrec33 z6.2 x1 x2 x3 x5 x4 h
      · refine k_iload (pc := 54) C dX11_had_54 5 rfl ?_
        refine k_goto (pc := 56) C 61 dX11_had_56 (by decide) ?_
        refine k_sub [0, 1, 2, 3, 5] rfl ?_
        exact k_X11_had_b61 C E hrec33 z6.2 x1 x2 x3 x5 x5 h
set_option maxHeartbeats 4000000 in
set_option maxRecDepth 100000 in
theorem k_X11_had_l33 {B : KB} {X : KE} {res : Int32 × TT} (C : Cx B X "GriefEngineModel" cX11_had 6 5) (E : Cr B X (some .int) (some (.int res.1)) res.2) : ∀ (n : Nat) (T : TT) (x1 : Int32) (x2 : Int32) (x3 : Int32) (x4 : Int32) (x5 : Int32) (h : m_X11_had_l33 n T x1 x2 x3 x4 x5 = some res), Wk B X 6 T 33 [(0, .ref (B.1 10 0)), (1, .int x1), (2, .int x2), (3, .int x3), (4, .int x4), (5, .int x5)] [] := by
  intro n
  induction n with
  | zero =>
    intro T x1 x2 x3 x4 x5 h
    exact no_some h
  | succ n ih =>
    intro T x1 x2 x3 x4 x5 h
    exact k_X11_had_h33 C E (fun T x1 x2 x3 x4 x5 h => ih T x1 x2 x3 x4 x5 h) T x1 x2 x3 x4 x5 h
set_option maxHeartbeats 4000000 in
set_option maxRecDepth 100000 in
theorem k_X11_had_b18 {B : KB} {X : KE} {res : Int32 × TT} (C : Cx B X "GriefEngineModel" cX11_had 6 5) (E : Cr B X (some .int) (some (.int res.1)) res.2) (T : TT) (h : m_X11_had_b18 T = some res) : Wk B X 6 T 18 [(0, .ref (B.1 10 0))] [] := by
  unfold m_X11_had_b18 at h
  refine k_aload_n (pc := 18) C dX11_had_18 0 rfl ?_
  refine k_bipush (pc := 19) (v := (-2 : Int32)) C dX11_had_19 cbipush_m2 ?_
  obtain ⟨z12, e12, h⟩ := bnd h
  refine k_callvI (pc := 21) C lk_X11_63 (by decide) ix_X11 wo_X11 rfl rfl (kc_X11_bad e12) dX11_had_21 rfl rfl (Nat.le_of_ble_eq_true rfl) ?_
  exact k_iret (pc := 24) C E (some_1 h) (some_2 h) dX11_had_24
set_option maxHeartbeats 4000000 in
set_option maxRecDepth 100000 in
theorem kc_X11_had {B : KB} {l : Launch} {T : TT} {x1 : Int32} {x2 : Int32} {res : Int32 × TT} (h : m_X11_had T x1 x2 = some res) : Kt B l 5 yX11_had cX11_had 6 (some .int) T [.ref (B.1 10 0), .int x1, .int x2] (some (.int res.1)) res.2 := by
  refine Kt.of (by decide) (Nat.le_of_ble_eq_true rfl) (fun X hX C E => ?_)
  subst hX
  have C : Cx B X "GriefEngineModel" cX11_had 6 5 := C
  show Wk B X 6 T 0 [(0, .ref (B.1 10 0)), (1, .int x1), (2, .int x2)] []
  unfold m_X11_had at h
  refine k_aload_n (pc := 0) C dX11_had_0 0 rfl ?_
  refine k_iload_n (pc := 1) C dX11_had_1 1 rfl ?_
  obtain ⟨z1, e1, h⟩ := bnd h
  refine k_callvI (pc := 2) C lk_X11_116 (by decide) ix_X11 wo_X11 rfl rfl (kc_X11_isDriver e1) dX11_had_2 rfl rfl (Nat.le_of_ble_eq_true rfl) ?_
  refine k_if_eq (pc := 5) C 18 dX11_had_5 (by decide) h (fun c4 h => ?_) (fun c4 h => ?_)
  · refine k_sub [0] rfl ?_
    exact k_X11_had_b18 C E T h
  · refine k_iload_n (pc := 8) C dX11_had_8 2 rfl ?_
    refine k_i2l (pc := 9) C dX11_had_9 ?_
    refine k_lconst (pc := 10) (v := (0 : Int64)) C dX11_had_10 (by decide) ?_
    refine k_lconst (pc := 11) (v := (1 : Int64)) C dX11_had_11 (by decide) ?_
    obtain ⟨z2, e2, h⟩ := bnd h
    refine k_callsI (pc := 12) C lk_X11_53 (by decide) (kc_X11_in e2) dX11_had_12 rfl rfl (Nat.le_of_ble_eq_true rfl) ?_
    refine k_if_ne (pc := 15) C 25 dX11_had_15 (by decide) h (fun c3 h => ?_) (fun c3 h => ?_)
    · refine k_iconst (pc := 25) (v := (0 : Int32)) C dX11_had_25 ciconst_0 ?_
      refine k_istore_n (pc := 26) C [(3, .int (0 : Int32)), (0, .ref (B.1 10 0)), (1, .int x1), (2, .int x2)] dX11_had_26 (by decide) rfl ?_
      refine k_iconst (pc := 27) (v := (-1 : Int32)) C dX11_had_27 ciconst_m1 ?_
      refine k_istore (pc := 28) C [(4, .int (-1 : Int32)), (3, .int (0 : Int32)), (0, .ref (B.1 10 0)), (1, .int x1), (2, .int x2)] dX11_had_28 (by decide) rfl ?_
      refine k_iconst (pc := 30) (v := (0 : Int32)) C dX11_had_30 ciconst_0 ?_
      refine k_istore (pc := 31) C [(5, .int (0 : Int32)), (4, .int (-1 : Int32)), (3, .int (0 : Int32)), (0, .ref (B.1 10 0)), (1, .int x1), (2, .int x2)] dX11_had_31 (by decide) rfl ?_
      refine k_sub [3, 4, 5, 2, 1, 0] rfl ?_
      exact k_X11_had_l33 C E FU T x1 x2 (0 : Int32) (-1 : Int32) (0 : Int32) h
    · refine k_sub [0] rfl ?_
      exact k_X11_had_b18 C E T h
def m_X11_getsBy (T : TT) (x1 : Int32) (x2 : Int32) (x3 : Int32) : Option (Int32) := if inb ((4 : Int32) + x1) 175 then (bT (T.1 10 1 (Int32.toNatClampNeg ((4 : Int32) + x1))) (fun y1 => (m_X11_kindOf T x1).bind (fun z2 => (m_X11_seasonOf (T.1 10 1 16)).bind (fun z3 => (m_X11_runsAs z2 y1 z3).bind (fun z4 => if x2 = 0 then (if x3 = 0 then (some (z4 / (2 : Int32))) else (some z4)) else ((m_X11_kindOf T x1).bind (fun z6 => (m_X11_leftAs z6 y1 (2 : Int32)).bind (fun z7 => (m_X11_kindOf T x1).bind (fun z8 => (m_X11_leftAs z8 y1 (0 : Int32)).bind (fun z9 => some (z7 - z9))))))))))) else none
set_option maxHeartbeats 4000000 in
set_option maxRecDepth 100000 in
theorem kc_X11_getsBy {B : KB} {l : Launch} {T : TT} {x1 : Int32} {x2 : Int32} {x3 : Int32} {res : Int32} (h : m_X11_getsBy T x1 x2 x3 = some res) : Kt B l 3 yX11_getsBy cX11_getsBy 6 (some .int) T [.ref (B.1 10 0), .int x1, .int x2, .int x3] (some (.int res)) T := by
  refine Kt.of (by decide) (Nat.le_of_ble_eq_true rfl) (fun X hX C E => ?_)
  subst hX
  have C : Cx B X "GriefEngineModel" cX11_getsBy 6 3 := C
  show Wk B X 6 T 0 [(0, .ref (B.1 10 0)), (1, .int x1), (2, .int x2), (3, .int x3)] []
  unfold m_X11_getsBy at h
  refine k_aload_n (pc := 0) C dX11_getsBy_0 0 rfl ?_
  refine gf_X11_7 (pc := 1) C dX11_getsBy_1 ?_
  refine k_iconst (pc := 4) (v := (4 : Int32)) C dX11_getsBy_4 ciconst_4 ?_
  refine k_iload_n (pc := 5) C dX11_getsBy_5 1 rfl ?_
  refine k_iadd (pc := 6) C dX11_getsBy_6 ?_
  refine k_iald (pc := 7) C ia_10_1 dX11_getsBy_7 h (fun h => ?_)
  refine k_nI h (fun y1 h => ?_)
  refine k_istore (pc := 8) C [(4, .int y1), (0, .ref (B.1 10 0)), (1, .int x1), (2, .int x2), (3, .int x3)] dX11_getsBy_8 (by decide) rfl ?_
  refine k_aload_n (pc := 10) C dX11_getsBy_10 1 rfl ?_
  refine k_iload_n (pc := 11) C dX11_getsBy_11 2 rfl ?_
  obtain ⟨z2, e2, h⟩ := bnd h
  refine k_callvI (pc := 12) C lk_X11_124 (by decide) ix_X11 wo_X11 rfl rfl (kc_X11_kindOf e2) dX11_getsBy_12 rfl rfl (Nat.le_of_ble_eq_true rfl) ?_
  refine k_iload (pc := 15) C dX11_getsBy_15 0 rfl ?_
  refine k_aload_n (pc := 17) C dX11_getsBy_17 1 rfl ?_
  refine gf_X11_7 (pc := 18) C dX11_getsBy_18 ?_
  refine k_bipush (pc := 21) (v := (16 : Int32)) C dX11_getsBy_21 cbipush_16 ?_
  refine k_ialdc (pc := 23) C ia_10_1 16 dX11_getsBy_23 (by decide) (by decide) ?_
  obtain ⟨z3, e3, h⟩ := bnd h
  refine k_callsI (pc := 24) C lk_X11_91 (by decide) (kc_X11_seasonOf e3) dX11_getsBy_24 rfl rfl (Nat.le_of_ble_eq_true rfl) ?_
  obtain ⟨z4, e4, h⟩ := bnd h
  refine k_callsI (pc := 27) C lk_X11_94 (by decide) (kc_X11_runsAs e4) dX11_getsBy_27 rfl rfl (Nat.le_of_ble_eq_true rfl) ?_
  refine k_istore (pc := 30) C [(5, .int z4), (4, .int y1), (0, .ref (B.1 10 0)), (1, .int x1), (2, .int x2), (3, .int x3)] dX11_getsBy_30 (by decide) rfl ?_
  refine k_iload_n (pc := 32) C dX11_getsBy_32 4 rfl ?_
  refine k_if_eq (pc := 33) C 60 dX11_getsBy_33 (by decide) h (fun c10 h => ?_) (fun c10 h => ?_)
  · refine k_iload_n (pc := 60) C dX11_getsBy_60 5 rfl ?_
    refine k_if_eq (pc := 61) C 69 dX11_getsBy_61 (by decide) h (fun c5 h => ?_) (fun c5 h => ?_)
    · refine k_iload (pc := 69) C dX11_getsBy_69 0 rfl ?_
      refine k_iconst (pc := 71) (v := (2 : Int32)) C dX11_getsBy_71 ciconst_2 ?_
      refine k_idivc (pc := 72) C dX11_getsBy_72 (by decide) ?_
      exact k_iret (pc := 73) C E (some_i h) rfl dX11_getsBy_73
    · refine k_iload (pc := 64) C dX11_getsBy_64 0 rfl ?_
      refine k_goto (pc := 66) C 73 dX11_getsBy_66 (by decide) ?_
      exact k_iret (pc := 73) C E (some_i h) rfl dX11_getsBy_73
  · refine k_aload_n (pc := 36) C dX11_getsBy_36 2 rfl ?_
    refine k_iload_n (pc := 37) C dX11_getsBy_37 3 rfl ?_
    obtain ⟨z6, e6, h⟩ := bnd h
    refine k_callvI (pc := 38) C lk_X11_124 (by decide) ix_X11 wo_X11 rfl rfl (kc_X11_kindOf e6) dX11_getsBy_38 rfl rfl (Nat.le_of_ble_eq_true rfl) ?_
    refine k_iload (pc := 41) C dX11_getsBy_41 1 rfl ?_
    refine k_iconst (pc := 43) (v := (2 : Int32)) C dX11_getsBy_43 ciconst_2 ?_
    obtain ⟨z7, e7, h⟩ := bnd h
    refine k_callsI (pc := 44) C lk_X11_98 (by decide) (kc_X11_leftAs e7) dX11_getsBy_44 rfl rfl (Nat.le_of_ble_eq_true rfl) ?_
    refine k_aload_n (pc := 47) C dX11_getsBy_47 2 rfl ?_
    refine k_iload_n (pc := 48) C dX11_getsBy_48 3 rfl ?_
    obtain ⟨z8, e8, h⟩ := bnd h
    refine k_callvI (pc := 49) C lk_X11_124 (by decide) ix_X11 wo_X11 rfl rfl (kc_X11_kindOf e8) dX11_getsBy_49 rfl rfl (Nat.le_of_ble_eq_true rfl) ?_
    refine k_iload (pc := 52) C dX11_getsBy_52 1 rfl ?_
    refine k_iconst (pc := 54) (v := (0 : Int32)) C dX11_getsBy_54 ciconst_0 ?_
    obtain ⟨z9, e9, h⟩ := bnd h
    refine k_callsI (pc := 55) C lk_X11_98 (by decide) (kc_X11_leftAs e9) dX11_getsBy_55 rfl rfl (Nat.le_of_ble_eq_true rfl) ?_
    refine k_isub (pc := 58) C dX11_getsBy_58 ?_
    exact k_iret (pc := 59) C E (some_i h) rfl dX11_getsBy_59
def m_X11_fares_b134 (rec33 : TT → Int32 → Int32 → Int32 → Int32 → Option (Int32 × TT)) (T : TT) (x1 : Int32) (x2 : Int32) (x4 : Int32) (s0 : Int32) (s1 : Int32) : Option (Int32 × TT) := bT (s0 ||| s1) (fun y18 => bT (x4 + (1 : Int32)) (fun y19 => rec33 T x1 x2 y18 y19))
def m_X11_fares_b118 (rec33 : TT → Int32 → Int32 → Int32 → Int32 → Option (Int32 × TT)) (T : TT) (x1 : Int32) (x2 : Int32) (x3 : Int32) (x4 : Int32) (s0 : Int32) : Option (Int32 × TT) := if s0 = 0 then (m_X11_fares_b134 rec33 T x1 x2 x4 x3 (0 : Int32)) else (m_X11_fares_b134 rec33 T x1 x2 x4 x3 ((1 : Int32) <<< (x4 &&& 31)))
def m_X11_fares_b117 (rec33 : TT → Int32 → Int32 → Int32 → Int32 → Option (Int32 × TT)) (T : TT) (x1 : Int32) (x2 : Int32) (x3 : Int32) (x4 : Int32) : Option (Int32 × TT) := m_X11_fares_b118 rec33 T x1 x2 x3 x4 (0 : Int32)
def m_X11_fares_b105 (rec33 : TT → Int32 → Int32 → Int32 → Int32 → Option (Int32 × TT)) (T : TT) (x1 : Int32) (x2 : Int32) (x3 : Int32) (x4 : Int32) (x5 : Int32) (s0 : Int32) (s2 : Int32) (s3 : Int32) : Option (Int32 × TT) := (m_X11_getsBy T s2 s3 x5).bind (fun z15 => if s0 < z15 then (m_X11_fares_b117 rec33 T x1 x2 x3 x4) else (m_X11_fares_b118 rec33 T x1 x2 x3 x4 (1 : Int32)))
def m_X11_fares_b76 (rec33 : TT → Int32 → Int32 → Int32 → Int32 → Option (Int32 × TT)) (T : TT) (x1 : Int32) (x2 : Int32) (x3 : Int32) (x4 : Int32) (x5 : Int32) (x6 : Int32) (s0 : Int32) (s2 : Int32) (s3 : Int32) : Option (Int32 × TT) := (m_X11_getsBy T s2 s3 x6).bind (fun z11 => if s0 < z11 then (m_X11_fares_b117 rec33 T x1 x2 x3 x4) else ((m_X11_getsBy T x2 x6 x5).bind (fun z12 => if x6 = 0 then (m_X11_fares_b105 rec33 T x1 x2 x3 x4 x5 z12 x2 (1 : Int32)) else (m_X11_fares_b105 rec33 T x1 x2 x3 x4 x5 z12 x2 (0 : Int32)))))
def m_X11_fares_h33 (rec33 : TT → Int32 → Int32 → Int32 → Int32 → Option (Int32 × TT)) (T : TT) (x1 : Int32) (x2 : Int32) (x3 : Int32) (x4 : Int32) : Option (Int32 × TT) := if (4 : Int32) ≤ x4 then (some (x3, T)) else ((m_X11_has x4 (0 : Int32)).bind (fun z6 => (m_X11_has x4 (1 : Int32)).bind (fun z7 => (m_X11_getsBy T x1 z6 z7).bind (fun z8 => if z6 = 0 then (m_X11_fares_b76 rec33 T x1 x2 x3 x4 z6 z7 z8 x1 (1 : Int32)) else (m_X11_fares_b76 rec33 T x1 x2 x3 x4 z6 z7 z8 x1 (0 : Int32))))))
def m_X11_fares_l33 : Nat → TT → Int32 → Int32 → Int32 → Int32 → Option (Int32 × TT)
  | 0 => fun _ _ _ _ _ => none
  | n + 1 => fun T x1 x2 x3 x4 => m_X11_fares_h33 (m_X11_fares_l33 n) T x1 x2 x3 x4
def m_X11_fares_b21 (T : TT) : Option (Int32 × TT) := (m_X11_bad T (-2 : Int32)).bind (fun z20 => some (z20.1, z20.2))
def m_X11_fares (T : TT) (x1 : Int32) (x2 : Int32) : Option (Int32 × TT) := (m_X11_isDriver T x1).bind (fun z1 => if z1 = 0 then (m_X11_fares_b21 T) else ((m_X11_isDriver T x2).bind (fun z2 => if z2 = 0 then (m_X11_fares_b21 T) else (if x1 = x2 then (m_X11_fares_b21 T) else (m_X11_fares_l33 FU T x1 x2 (0 : Int32) (0 : Int32))))))
set_option maxHeartbeats 4000000 in
set_option maxRecDepth 100000 in
theorem k_X11_fares_b134 {B : KB} {X : KE} {rec33 : TT → Int32 → Int32 → Int32 → Int32 → Option (Int32 × TT)} {res : Int32 × TT} (C : Cx B X "GriefEngineModel" cX11_fares 8 4) (E : Cr B X (some .int) (some (.int res.1)) res.2) (hrec33 : ∀ (T : TT) (x1 : Int32) (x2 : Int32) (x3 : Int32) (x4 : Int32), rec33 T x1 x2 x3 x4 = some res → Wk B X 8 T 33 [(0, .ref (B.1 10 0)), (1, .int x1), (2, .int x2), (3, .int x3), (4, .int x4)] []) (T : TT) (x1 : Int32) (x2 : Int32) (x4 : Int32) (s0 : Int32) (s1 : Int32) (h : m_X11_fares_b134 rec33 T x1 x2 x4 s0 s1 = some res) : Wk B X 8 T 134 [(0, .ref (B.1 10 0)), (1, .int x1), (2, .int x2), (4, .int x4)] [.int s1, .int s0] := by
  unfold m_X11_fares_b134 at h
  refine k_ior (pc := 134) C dX11_fares_134 ?_
  refine k_nI h (fun y18 h => ?_)
  refine k_istore_n (pc := 135) C [(3, .int y18), (0, .ref (B.1 10 0)), (1, .int x1), (2, .int x2), (4, .int x4)] dX11_fares_135 (by decide) rfl ?_
  refine k_iincN (pc := 136) (x := x4) (c := (1 : Int32)) C (fun y19 => [(4, .int y19), (3, .int y18), (0, .ref (B.1 10 0)), (1, .int x1), (2, .int x2)]) dX11_fares_136 4 rfl ciconst_1 (by decide) (fun _ => rfl) h (fun y19 h => ?_)
  refine k_goto (pc := 139) C 33 dX11_fares_139 (by decide) ?_
  refine k_sub [2, 3, 4, 1, 0] rfl ?_
  exact hrec33 T x1 x2 y18 y19 h
set_option maxHeartbeats 4000000 in
set_option maxRecDepth 100000 in
theorem k_X11_fares_b118 {B : KB} {X : KE} {rec33 : TT → Int32 → Int32 → Int32 → Int32 → Option (Int32 × TT)} {res : Int32 × TT} (C : Cx B X "GriefEngineModel" cX11_fares 8 4) (E : Cr B X (some .int) (some (.int res.1)) res.2) (hrec33 : ∀ (T : TT) (x1 : Int32) (x2 : Int32) (x3 : Int32) (x4 : Int32), rec33 T x1 x2 x3 x4 = some res → Wk B X 8 T 33 [(0, .ref (B.1 10 0)), (1, .int x1), (2, .int x2), (3, .int x3), (4, .int x4)] []) (T : TT) (x1 : Int32) (x2 : Int32) (x3 : Int32) (x4 : Int32) (s0 : Int32) (h : m_X11_fares_b118 rec33 T x1 x2 x3 x4 s0 = some res) : Wk B X 8 T 118 [(0, .ref (B.1 10 0)), (1, .int x1), (2, .int x2), (3, .int x3), (4, .int x4)] [.int s0] := by
  unfold m_X11_fares_b118 at h
  refine k_istore (pc := 118) C [(7, .int s0), (0, .ref (B.1 10 0)), (1, .int x1), (2, .int x2), (3, .int x3), (4, .int x4)] dX11_fares_118 (by decide) rfl ?_
  refine k_iload_n (pc := 120) C dX11_fares_120 4 rfl ?_
  refine k_iload (pc := 121) C dX11_fares_121 0 rfl ?_
  refine k_if_eq (pc := 123) C 133 dX11_fares_123 (by decide) h (fun c17 h => ?_) (fun c17 h => ?_)
  · refine k_iconst (pc := 133) (v := (0 : Int32)) C dX11_fares_133 ciconst_0 ?_
    refine k_sub [1, 2, 3, 5] rfl ?_
    exact k_X11_fares_b134 C E hrec33 T x1 x2 x4 x3 (0 : Int32) h
  · refine k_iconst (pc := 126) (v := (1 : Int32)) C dX11_fares_126 ciconst_1 ?_
    refine k_iload (pc := 127) C dX11_fares_127 5 rfl ?_
    refine k_ishl (pc := 129) C dX11_fares_129 ?_
    refine k_goto (pc := 130) C 134 dX11_fares_130 (by decide) ?_
    refine k_sub [1, 2, 3, 5] rfl ?_
    exact k_X11_fares_b134 C E hrec33 T x1 x2 x4 x3 ((1 : Int32) <<< (x4 &&& 31)) h
set_option maxHeartbeats 4000000 in
set_option maxRecDepth 100000 in
theorem k_X11_fares_b117 {B : KB} {X : KE} {rec33 : TT → Int32 → Int32 → Int32 → Int32 → Option (Int32 × TT)} {res : Int32 × TT} (C : Cx B X "GriefEngineModel" cX11_fares 8 4) (E : Cr B X (some .int) (some (.int res.1)) res.2) (hrec33 : ∀ (T : TT) (x1 : Int32) (x2 : Int32) (x3 : Int32) (x4 : Int32), rec33 T x1 x2 x3 x4 = some res → Wk B X 8 T 33 [(0, .ref (B.1 10 0)), (1, .int x1), (2, .int x2), (3, .int x3), (4, .int x4)] []) (T : TT) (x1 : Int32) (x2 : Int32) (x3 : Int32) (x4 : Int32) (h : m_X11_fares_b117 rec33 T x1 x2 x3 x4 = some res) : Wk B X 8 T 117 [(0, .ref (B.1 10 0)), (1, .int x1), (2, .int x2), (3, .int x3), (4, .int x4)] [] := by
  unfold m_X11_fares_b117 at h
  refine k_iconst (pc := 117) (v := (0 : Int32)) C dX11_fares_117 ciconst_0 ?_
  refine k_sub [0, 1, 2, 3, 4] rfl ?_
  exact k_X11_fares_b118 C E hrec33 T x1 x2 x3 x4 (0 : Int32) h
set_option maxHeartbeats 4000000 in
set_option maxRecDepth 100000 in
theorem k_X11_fares_b105 {B : KB} {X : KE} {rec33 : TT → Int32 → Int32 → Int32 → Int32 → Option (Int32 × TT)} {res : Int32 × TT} (C : Cx B X "GriefEngineModel" cX11_fares 8 4) (E : Cr B X (some .int) (some (.int res.1)) res.2) (hrec33 : ∀ (T : TT) (x1 : Int32) (x2 : Int32) (x3 : Int32) (x4 : Int32), rec33 T x1 x2 x3 x4 = some res → Wk B X 8 T 33 [(0, .ref (B.1 10 0)), (1, .int x1), (2, .int x2), (3, .int x3), (4, .int x4)] []) (T : TT) (x1 : Int32) (x2 : Int32) (x3 : Int32) (x4 : Int32) (x5 : Int32) (s0 : Int32) (s2 : Int32) (s3 : Int32) (h : m_X11_fares_b105 rec33 T x1 x2 x3 x4 x5 s0 s2 s3 = some res) : Wk B X 8 T 105 [(0, .ref (B.1 10 0)), (1, .int x1), (2, .int x2), (3, .int x3), (4, .int x4), (5, .int x5)] [.int s3, .int s2, .ref (B.1 10 0), .int s0] := by
  unfold m_X11_fares_b105 at h
  refine k_iload (pc := 105) C dX11_fares_105 5 rfl ?_
  obtain ⟨z15, e15, h⟩ := bnd h
  refine k_callvI (pc := 107) C lk_X11_177 (by decide) ix_X11 wo_X11 rfl rfl (kc_X11_getsBy e15) dX11_fares_107 rfl rfl (Nat.le_of_ble_eq_true rfl) ?_
  refine k_icmp_lt (pc := 110) C 117 dX11_fares_110 (by decide) h (fun c16 h => ?_) (fun c16 h => ?_)
  · refine k_sub [0, 1, 2, 3, 4] rfl ?_
    exact k_X11_fares_b117 C E hrec33 T x1 x2 x3 x4 h
  · refine k_iconst (pc := 113) (v := (1 : Int32)) C dX11_fares_113 ciconst_1 ?_
    refine k_goto (pc := 114) C 118 dX11_fares_114 (by decide) ?_
    refine k_sub [0, 1, 2, 3, 4] rfl ?_
    exact k_X11_fares_b118 C E hrec33 T x1 x2 x3 x4 (1 : Int32) h
set_option maxHeartbeats 4000000 in
set_option maxRecDepth 100000 in
theorem k_X11_fares_b76 {B : KB} {X : KE} {rec33 : TT → Int32 → Int32 → Int32 → Int32 → Option (Int32 × TT)} {res : Int32 × TT} (C : Cx B X "GriefEngineModel" cX11_fares 8 4) (E : Cr B X (some .int) (some (.int res.1)) res.2) (hrec33 : ∀ (T : TT) (x1 : Int32) (x2 : Int32) (x3 : Int32) (x4 : Int32), rec33 T x1 x2 x3 x4 = some res → Wk B X 8 T 33 [(0, .ref (B.1 10 0)), (1, .int x1), (2, .int x2), (3, .int x3), (4, .int x4)] []) (T : TT) (x1 : Int32) (x2 : Int32) (x3 : Int32) (x4 : Int32) (x5 : Int32) (x6 : Int32) (s0 : Int32) (s2 : Int32) (s3 : Int32) (h : m_X11_fares_b76 rec33 T x1 x2 x3 x4 x5 x6 s0 s2 s3 = some res) : Wk B X 8 T 76 [(0, .ref (B.1 10 0)), (1, .int x1), (2, .int x2), (3, .int x3), (4, .int x4), (5, .int x5), (6, .int x6)] [.int s3, .int s2, .ref (B.1 10 0), .int s0] := by
  unfold m_X11_fares_b76 at h
  refine k_iload (pc := 76) C dX11_fares_76 6 rfl ?_
  obtain ⟨z11, e11, h⟩ := bnd h
  refine k_callvI (pc := 78) C lk_X11_177 (by decide) ix_X11 wo_X11 rfl rfl (kc_X11_getsBy e11) dX11_fares_78 rfl rfl (Nat.le_of_ble_eq_true rfl) ?_
  refine k_icmp_lt (pc := 81) C 117 dX11_fares_81 (by decide) h (fun c14 h => ?_) (fun c14 h => ?_)
  · refine k_sub [0, 1, 2, 3, 4] rfl ?_
    exact k_X11_fares_b117 C E hrec33 T x1 x2 x3 x4 h
  · refine k_aload_n (pc := 84) C dX11_fares_84 0 rfl ?_
    refine k_iload_n (pc := 85) C dX11_fares_85 2 rfl ?_
    refine k_iload (pc := 86) C dX11_fares_86 6 rfl ?_
    refine k_iload (pc := 88) C dX11_fares_88 5 rfl ?_
    obtain ⟨z12, e12, h⟩ := bnd h
    refine k_callvI (pc := 90) C lk_X11_177 (by decide) ix_X11 wo_X11 rfl rfl (kc_X11_getsBy e12) dX11_fares_90 rfl rfl (Nat.le_of_ble_eq_true rfl) ?_
    refine k_aload_n (pc := 93) C dX11_fares_93 0 rfl ?_
    refine k_iload_n (pc := 94) C dX11_fares_94 2 rfl ?_
    refine k_iload (pc := 95) C dX11_fares_95 6 rfl ?_
    refine k_if_ne (pc := 97) C 104 dX11_fares_97 (by decide) h (fun c13 h => ?_) (fun c13 h => ?_)
    · refine k_iconst (pc := 104) (v := (0 : Int32)) C dX11_fares_104 ciconst_0 ?_
      refine k_sub [0, 1, 2, 3, 4, 5] rfl ?_
      exact k_X11_fares_b105 C E hrec33 T x1 x2 x3 x4 x5 z12 x2 (0 : Int32) h
    · refine k_iconst (pc := 100) (v := (1 : Int32)) C dX11_fares_100 ciconst_1 ?_
      refine k_goto (pc := 101) C 105 dX11_fares_101 (by decide) ?_
      refine k_sub [0, 1, 2, 3, 4, 5] rfl ?_
      exact k_X11_fares_b105 C E hrec33 T x1 x2 x3 x4 x5 z12 x2 (1 : Int32) h
set_option maxHeartbeats 4000000 in
set_option maxRecDepth 100000 in
theorem k_X11_fares_h33 {B : KB} {X : KE} {rec33 : TT → Int32 → Int32 → Int32 → Int32 → Option (Int32 × TT)} {res : Int32 × TT} (C : Cx B X "GriefEngineModel" cX11_fares 8 4) (E : Cr B X (some .int) (some (.int res.1)) res.2) (hrec33 : ∀ (T : TT) (x1 : Int32) (x2 : Int32) (x3 : Int32) (x4 : Int32), rec33 T x1 x2 x3 x4 = some res → Wk B X 8 T 33 [(0, .ref (B.1 10 0)), (1, .int x1), (2, .int x2), (3, .int x3), (4, .int x4)] []) (T : TT) (x1 : Int32) (x2 : Int32) (x3 : Int32) (x4 : Int32) (h : m_X11_fares_h33 rec33 T x1 x2 x3 x4 = some res) : Wk B X 8 T 33 [(0, .ref (B.1 10 0)), (1, .int x1), (2, .int x2), (3, .int x3), (4, .int x4)] [] := by
  unfold m_X11_fares_h33 at h
  refine k_iload (pc := 33) C dX11_fares_33 4 rfl ?_
  refine k_iconst (pc := 35) (v := (4 : Int32)) C dX11_fares_35 ciconst_4 ?_
  refine k_icmp_ge (pc := 36) C 142 dX11_fares_36 (by decide) h (fun c10 h => ?_) (fun c10 h => ?_)
  · refine k_iload_n (pc := 142) C dX11_fares_142 3 rfl ?_
    exact k_iret (pc := 143) C E (some_1 h) (some_2 h) dX11_fares_143
  · refine k_iload (pc := 39) C dX11_fares_39 4 rfl ?_
    refine k_iconst (pc := 41) (v := (0 : Int32)) C dX11_fares_41 ciconst_0 ?_
    obtain ⟨z6, e6, h⟩ := bnd h
    refine k_callsI (pc := 42) C lk_X11_166 (by decide) (kc_X11_has e6) dX11_fares_42 rfl rfl (Nat.le_of_ble_eq_true rfl) ?_
    refine k_istore (pc := 45) C [(5, .int z6), (0, .ref (B.1 10 0)), (1, .int x1), (2, .int x2), (3, .int x3), (4, .int x4)] dX11_fares_45 (by decide) rfl ?_
    refine k_iload (pc := 47) C dX11_fares_47 5 rfl ?_
    refine k_iconst (pc := 49) (v := (1 : Int32)) C dX11_fares_49 ciconst_1 ?_
    obtain ⟨z7, e7, h⟩ := bnd h
    refine k_callsI (pc := 50) C lk_X11_166 (by decide) (kc_X11_has e7) dX11_fares_50 rfl rfl (Nat.le_of_ble_eq_true rfl) ?_
    refine k_istore (pc := 53) C [(6, .int z7), (5, .int z6), (0, .ref (B.1 10 0)), (1, .int x1), (2, .int x2), (3, .int x3), (4, .int x4)] dX11_fares_53 (by decide) rfl ?_
    refine k_aload_n (pc := 55) C dX11_fares_55 2 rfl ?_
    refine k_iload_n (pc := 56) C dX11_fares_56 3 rfl ?_
    refine k_iload (pc := 57) C dX11_fares_57 1 rfl ?_
    refine k_iload (pc := 59) C dX11_fares_59 0 rfl ?_
    obtain ⟨z8, e8, h⟩ := bnd h
    refine k_callvI (pc := 61) C lk_X11_177 (by decide) ix_X11 wo_X11 rfl rfl (kc_X11_getsBy e8) dX11_fares_61 rfl rfl (Nat.le_of_ble_eq_true rfl) ?_
    refine k_aload_n (pc := 64) C dX11_fares_64 2 rfl ?_
    refine k_iload_n (pc := 65) C dX11_fares_65 3 rfl ?_
    refine k_iload (pc := 66) C dX11_fares_66 1 rfl ?_
    refine k_if_ne (pc := 68) C 75 dX11_fares_68 (by decide) h (fun c9 h => ?_) (fun c9 h => ?_)
    · refine k_iconst (pc := 75) (v := (0 : Int32)) C dX11_fares_75 ciconst_0 ?_
      refine k_sub [2, 3, 4, 5, 6, 1, 0] rfl ?_
      exact k_X11_fares_b76 C E hrec33 T x1 x2 x3 x4 z6 z7 z8 x1 (0 : Int32) h
    · refine k_iconst (pc := 71) (v := (1 : Int32)) C dX11_fares_71 ciconst_1 ?_
      refine k_goto (pc := 72) C 76 dX11_fares_72 (by decide) ?_
      refine k_sub [2, 3, 4, 5, 6, 1, 0] rfl ?_
      exact k_X11_fares_b76 C E hrec33 T x1 x2 x3 x4 z6 z7 z8 x1 (1 : Int32) h
set_option maxHeartbeats 4000000 in
set_option maxRecDepth 100000 in
theorem k_X11_fares_l33 {B : KB} {X : KE} {res : Int32 × TT} (C : Cx B X "GriefEngineModel" cX11_fares 8 4) (E : Cr B X (some .int) (some (.int res.1)) res.2) : ∀ (n : Nat) (T : TT) (x1 : Int32) (x2 : Int32) (x3 : Int32) (x4 : Int32) (h : m_X11_fares_l33 n T x1 x2 x3 x4 = some res), Wk B X 8 T 33 [(0, .ref (B.1 10 0)), (1, .int x1), (2, .int x2), (3, .int x3), (4, .int x4)] [] := by
  intro n
  induction n with
  | zero =>
    intro T x1 x2 x3 x4 h
    exact no_some h
  | succ n ih =>
    intro T x1 x2 x3 x4 h
    exact k_X11_fares_h33 C E (fun T x1 x2 x3 x4 h => ih T x1 x2 x3 x4 h) T x1 x2 x3 x4 h
set_option maxHeartbeats 4000000 in
set_option maxRecDepth 100000 in
theorem k_X11_fares_b21 {B : KB} {X : KE} {res : Int32 × TT} (C : Cx B X "GriefEngineModel" cX11_fares 8 4) (E : Cr B X (some .int) (some (.int res.1)) res.2) (T : TT) (h : m_X11_fares_b21 T = some res) : Wk B X 8 T 21 [(0, .ref (B.1 10 0))] [] := by
  unfold m_X11_fares_b21 at h
  refine k_aload_n (pc := 21) C dX11_fares_21 0 rfl ?_
  refine k_bipush (pc := 22) (v := (-2 : Int32)) C dX11_fares_22 cbipush_m2 ?_
  obtain ⟨z20, e20, h⟩ := bnd h
  refine k_callvI (pc := 24) C lk_X11_63 (by decide) ix_X11 wo_X11 rfl rfl (kc_X11_bad e20) dX11_fares_24 rfl rfl (Nat.le_of_ble_eq_true rfl) ?_
  exact k_iret (pc := 27) C E (some_1 h) (some_2 h) dX11_fares_27
set_option maxHeartbeats 4000000 in
set_option maxRecDepth 100000 in
theorem kc_X11_fares {B : KB} {l : Launch} {T : TT} {x1 : Int32} {x2 : Int32} {res : Int32 × TT} (h : m_X11_fares T x1 x2 = some res) : Kt B l 4 yX11_fares cX11_fares 8 (some .int) T [.ref (B.1 10 0), .int x1, .int x2] (some (.int res.1)) res.2 := by
  refine Kt.of (by decide) (Nat.le_of_ble_eq_true rfl) (fun X hX C E => ?_)
  subst hX
  have C : Cx B X "GriefEngineModel" cX11_fares 8 4 := C
  show Wk B X 8 T 0 [(0, .ref (B.1 10 0)), (1, .int x1), (2, .int x2)] []
  unfold m_X11_fares at h
  refine k_aload_n (pc := 0) C dX11_fares_0 0 rfl ?_
  refine k_iload_n (pc := 1) C dX11_fares_1 1 rfl ?_
  obtain ⟨z1, e1, h⟩ := bnd h
  refine k_callvI (pc := 2) C lk_X11_116 (by decide) ix_X11 wo_X11 rfl rfl (kc_X11_isDriver e1) dX11_fares_2 rfl rfl (Nat.le_of_ble_eq_true rfl) ?_
  refine k_if_eq (pc := 5) C 21 dX11_fares_5 (by decide) h (fun c5 h => ?_) (fun c5 h => ?_)
  · refine k_sub [0] rfl ?_
    exact k_X11_fares_b21 C E T h
  · refine k_aload_n (pc := 8) C dX11_fares_8 0 rfl ?_
    refine k_iload_n (pc := 9) C dX11_fares_9 2 rfl ?_
    obtain ⟨z2, e2, h⟩ := bnd h
    refine k_callvI (pc := 10) C lk_X11_116 (by decide) ix_X11 wo_X11 rfl rfl (kc_X11_isDriver e2) dX11_fares_10 rfl rfl (Nat.le_of_ble_eq_true rfl) ?_
    refine k_if_eq (pc := 13) C 21 dX11_fares_13 (by decide) h (fun c4 h => ?_) (fun c4 h => ?_)
    · refine k_sub [0] rfl ?_
      exact k_X11_fares_b21 C E T h
    · refine k_iload_n (pc := 16) C dX11_fares_16 1 rfl ?_
      refine k_iload_n (pc := 17) C dX11_fares_17 2 rfl ?_
      refine k_icmp_ne (pc := 18) C 28 dX11_fares_18 (by decide) h (fun c3 h => ?_) (fun c3 h => ?_)
      · refine k_iconst (pc := 28) (v := (0 : Int32)) C dX11_fares_28 ciconst_0 ?_
        refine k_istore_n (pc := 29) C [(3, .int (0 : Int32)), (0, .ref (B.1 10 0)), (1, .int x1), (2, .int x2)] dX11_fares_29 (by decide) rfl ?_
        refine k_iconst (pc := 30) (v := (0 : Int32)) C dX11_fares_30 ciconst_0 ?_
        refine k_istore (pc := 31) C [(4, .int (0 : Int32)), (3, .int (0 : Int32)), (0, .ref (B.1 10 0)), (1, .int x1), (2, .int x2)] dX11_fares_31 (by decide) rfl ?_
        refine k_sub [2, 3, 4, 1, 0] rfl ?_
        exact k_X11_fares_l33 C E FU T x1 x2 (0 : Int32) (0 : Int32) h
      · refine k_sub [0] rfl ?_
        exact k_X11_fares_b21 C E T h
def m_X11_fraction_h6 (rec6 : TT → Int64 → Int64 → Int64 → Int64 → Option (TT)) (T : TT) (x1 : Int64) (x3 : Int64) (x5 : Int64) (x7 : Int64) : Option (TT) := if (lg_cmp x7 (0 : Int64)) = 0 then (if x5 = 0 then none else (bT (sL T 10 4 (x1 / x5)) (fun T1 => if x5 = 0 then none else (bT (sL T1 10 5 (x3 / x5)) (fun T2 => some T2))))) else (if x7 = 0 then none else (bT (x5 - x5 / x7 * x7) (fun y3 => rec6 T x1 x3 x7 y3)))
def m_X11_fraction_l6 : Nat → TT → Int64 → Int64 → Int64 → Int64 → Option (TT)
  | 0 => fun _ _ _ _ _ => none
  | n + 1 => fun T x1 x3 x5 x7 => m_X11_fraction_h6 (m_X11_fraction_l6 n) T x1 x3 x5 x7
def m_X11_fraction (T : TT) (x1 : Int64) (x3 : Int64) : Option (TT) := m_X11_fraction_l6 FU T x1 x3 x1 x3
set_option maxHeartbeats 4000000 in
set_option maxRecDepth 100000 in
theorem k_X11_fraction_h6 {B : KB} {X : KE} {rec6 : TT → Int64 → Int64 → Int64 → Int64 → Option (TT)} {res : TT} (C : Cx B X "GriefEngineModel" cX11_fraction 11 1) (E : Cr B X none none res) (hrec6 : ∀ (T : TT) (x1 : Int64) (x3 : Int64) (x5 : Int64) (x7 : Int64), rec6 T x1 x3 x5 x7 = some res → Wk B X 11 T 6 [(0, .ref (B.1 10 0)), (1, .long x1), (3, .long x3), (5, .long x5), (7, .long x7)] []) (T : TT) (x1 : Int64) (x3 : Int64) (x5 : Int64) (x7 : Int64) (h : m_X11_fraction_h6 rec6 T x1 x3 x5 x7 = some res) : Wk B X 11 T 6 [(0, .ref (B.1 10 0)), (1, .long x1), (3, .long x3), (5, .long x5), (7, .long x7)] [] := by
  unfold m_X11_fraction_h6 at h
  refine k_lload (pc := 6) C dX11_fraction_6 4 rfl ?_
  refine k_lconst (pc := 8) (v := (0 : Int64)) C dX11_fraction_8 (by decide) ?_
  refine k_lcmp (pc := 9) C dX11_fraction_9 ?_
  refine k_if_eq (pc := 10) C 31 dX11_fraction_10 (by decide) h (fun c4 h => ?_) (fun c4 h => ?_)
  · refine k_aload_n (pc := 31) C dX11_fraction_31 0 rfl ?_
    refine k_lload_n (pc := 32) C dX11_fraction_32 1 rfl ?_
    refine k_lload (pc := 33) C dX11_fraction_33 3 rfl ?_
    refine k_ldiv (pc := 35) C dX11_fraction_35 h (fun h => ?_)
    refine pf_X11_181 (pc := 36) C dX11_fraction_36 ?_
    refine k_nT h (fun T1 h => ?_)
    refine k_aload_n (pc := 39) C dX11_fraction_39 0 rfl ?_
    refine k_lload_n (pc := 40) C dX11_fraction_40 2 rfl ?_
    refine k_lload (pc := 41) C dX11_fraction_41 3 rfl ?_
    refine k_ldiv (pc := 43) C dX11_fraction_43 h (fun h => ?_)
    refine pf_X11_23 (pc := 44) C dX11_fraction_44 ?_
    refine k_nT h (fun T2 h => ?_)
    exact k_vret (pc := 47) C E (some_i h) dX11_fraction_47
  · refine k_lload (pc := 13) C dX11_fraction_13 3 rfl ?_
    refine k_lload (pc := 15) C dX11_fraction_15 4 rfl ?_
    refine k_lrem (pc := 17) C dX11_fraction_17 h (fun h => ?_)
    refine k_nL h (fun y3 h => ?_)
    refine k_lstore (pc := 18) C [(9, .long y3), (0, .ref (B.1 10 0)), (1, .long x1), (3, .long x3), (5, .long x5), (7, .long x7)] dX11_fraction_18 (by decide) rfl ?_
    refine k_lload (pc := 20) C dX11_fraction_20 5 rfl ?_
    refine k_lstore (pc := 22) C [(5, .long x7), (9, .long y3), (0, .ref (B.1 10 0)), (1, .long x1), (3, .long x3), (7, .long x7)] dX11_fraction_22 (by decide) rfl ?_
    refine k_lload (pc := 24) C dX11_fraction_24 1 rfl ?_
    refine k_lstore (pc := 26) C [(7, .long y3), (5, .long x7), (9, .long y3), (0, .ref (B.1 10 0)), (1, .long x1), (3, .long x3)] dX11_fraction_26 (by decide) rfl ?_
    refine k_goto (pc := 28) C 6 dX11_fraction_28 (by decide) ?_
    refine k_sub [3, 4, 5, 1, 0] rfl ?_
    exact hrec6 T x1 x3 x7 y3 h
set_option maxHeartbeats 4000000 in
set_option maxRecDepth 100000 in
theorem k_X11_fraction_l6 {B : KB} {X : KE} {res : TT} (C : Cx B X "GriefEngineModel" cX11_fraction 11 1) (E : Cr B X none none res) : ∀ (n : Nat) (T : TT) (x1 : Int64) (x3 : Int64) (x5 : Int64) (x7 : Int64) (h : m_X11_fraction_l6 n T x1 x3 x5 x7 = some res), Wk B X 11 T 6 [(0, .ref (B.1 10 0)), (1, .long x1), (3, .long x3), (5, .long x5), (7, .long x7)] [] := by
  intro n
  induction n with
  | zero =>
    intro T x1 x3 x5 x7 h
    exact no_some h
  | succ n ih =>
    intro T x1 x3 x5 x7 h
    exact k_X11_fraction_h6 C E (fun T x1 x3 x5 x7 h => ih T x1 x3 x5 x7 h) T x1 x3 x5 x7 h
set_option maxHeartbeats 4000000 in
set_option maxRecDepth 100000 in
theorem kc_X11_fraction {B : KB} {l : Launch} {T : TT} {x1 : Int64} {x3 : Int64} {res : TT} (h : m_X11_fraction T x1 x3 = some res) : Kt B l 1 yX11_fraction cX11_fraction 11 none T [.ref (B.1 10 0), .long x1, .long x3] none res := by
  refine Kt.of (by decide) (Nat.le_of_ble_eq_true rfl) (fun X hX C E => ?_)
  subst hX
  have C : Cx B X "GriefEngineModel" cX11_fraction 11 1 := C
  show Wk B X 11 T 0 [(0, .ref (B.1 10 0)), (1, .long x1), (3, .long x3)] []
  unfold m_X11_fraction at h
  refine k_lload_n (pc := 0) C dX11_fraction_0 1 rfl ?_
  refine k_lstore (pc := 1) C [(5, .long x1), (0, .ref (B.1 10 0)), (1, .long x1), (3, .long x3)] dX11_fraction_1 (by decide) rfl ?_
  refine k_lload_n (pc := 3) C dX11_fraction_3 3 rfl ?_
  refine k_lstore (pc := 4) C [(7, .long x3), (5, .long x1), (0, .ref (B.1 10 0)), (1, .long x1), (3, .long x3)] dX11_fraction_4 (by decide) rfl ?_
  refine k_sub [2, 3, 4, 1, 0] rfl ?_
  exact k_X11_fraction_l6 C E FU T x1 x3 x1 x3 h
