def m_X4_notesFit_b112 (T : TT) (g : Nat) (rec2 : Int32 → (Nat × Nat) → Int32 → Option (Int32)) (x1 : Int32) (hx2 : Nat × Nat) (x3 : Int32) : Option (Int32) := bT (x3 + (1 : Int32)) (fun y11 => rec2 x1 hx2 y11)
def m_X4_notesFit_b76 (T : TT) (g : Nat) (rec2 : Int32 → (Nat × Nat) → Int32 → Option (Int32)) (x1 : Int32) (hx2 : Nat × Nat) (x3 : Int32) (x4 : Int32) (x5 : Int32) (s0 : Int32) : Option (Int32) := if s0 = 0 then (some (0 : Int32)) else (if inb (x4 + (4 : Int32)) 36 then ((v_left hx2 (T.1 g 5 (Int32.toNatClampNeg (x4 + (4 : Int32)))) x5).bind (fun z8 => if inb (x4 + (5 : Int32)) 36 then (if z8 = (T.1 g 5 (Int32.toNatClampNeg (x4 + (5 : Int32)))) then (m_X4_notesFit_b112 T g rec2 x1 hx2 x3) else (some (0 : Int32))) else none)) else none)
def m_X4_notesFit_h2 (T : TT) (g : Nat) (rec2 : Int32 → (Nat × Nat) → Int32 → Option (Int32)) (x1 : Int32) (hx2 : Nat × Nat) (x3 : Int32) : Option (Int32) := if (T.2.1 g 9) ≤ x3 then (some (1 : Int32)) else (if (6 : Int32) ≤ x3 then (some (1 : Int32)) else (bT (x3 * (6 : Int32)) (fun y1 => if inb y1 36 then (if (T.1 g 5 (Int32.toNatClampNeg y1)) = x1 then (if inb (y1 + (1 : Int32)) 36 then (bT (T.1 g 5 (Int32.toNatClampNeg (y1 + (1 : Int32)))) (fun y2 => if inb (y1 + (2 : Int32)) 36 then ((v_runs hx2 (T.1 g 5 (Int32.toNatClampNeg (y1 + (2 : Int32)))) y2).bind (fun z3 => if inb (y1 + (3 : Int32)) 36 then (if z3 = (T.1 g 5 (Int32.toNatClampNeg (y1 + (3 : Int32)))) then (m_X4_notesFit_b76 T g rec2 x1 hx2 x3 y1 y2 (1 : Int32)) else (m_X4_notesFit_b76 T g rec2 x1 hx2 x3 y1 y2 (0 : Int32))) else none)) else none)) else none) else (m_X4_notesFit_b112 T g rec2 x1 hx2 x3)) else none)))
def m_X4_notesFit_l2 (T : TT) (g : Nat) : Nat → Int32 → (Nat × Nat) → Int32 → Option (Int32)
  | 0 => fun _ _ _ => none
  | n + 1 => fun x1 hx2 x3 => m_X4_notesFit_h2 T g (m_X4_notesFit_l2 T g n) x1 hx2 x3
def m_X4_notesFit (T : TT) (g : Nat) (x1 : Int32) (h2 : Nat × Nat) : Option (Int32) := m_X4_notesFit_l2 T g FU x1 h2 (0 : Int32)
set_option maxHeartbeats 4000000 in
set_option maxRecDepth 100000 in
theorem k_X4_notesFit_b112 {B : KB} {X : KE} {T : TT} {g : Nat} {rec2 : Int32 → (Nat × Nat) → Int32 → Option (Int32)} {res : Int32} (C : Cx B X "GriefEngine$Rank" cX4_notesFit 7 4) (E : Cr B X (some .boolean) (some (.int res)) T) (hg : g < 4) (hrec2 : ∀ (x1 : Int32) (hx2 : Nat × Nat) (x3 : Int32), kok hx2.1 hx2.2 → rec2 x1 hx2 x3 = some res → Wk B X 7 T 2 [(0, .ref (B.1 g 0)), (1, .int x1), (2, .ref (B.1 hx2.1 hx2.2)), (3, .int x3)] []) (x1 : Int32) (hx2 : Nat × Nat) (x3 : Int32) (hkx2 : kok hx2.1 hx2.2) (h : m_X4_notesFit_b112 T g rec2 x1 hx2 x3 = some res) : Wk B X 7 T 112 [(0, .ref (B.1 g 0)), (1, .int x1), (2, .ref (B.1 hx2.1 hx2.2)), (3, .int x3)] [] := by
  unfold m_X4_notesFit_b112 at h
  refine k_iincN (pc := 112) (x := x3) (c := (1 : Int32)) C (fun y11 => [(3, .int y11), (0, .ref (B.1 g 0)), (1, .int x1), (2, .ref (B.1 hx2.1 hx2.2))]) dX4_notesFit_112 3 rfl ciconst_1 (by decide) (fun _ => rfl) h (fun y11 h => ?_)
  refine k_goto (pc := 115) C 2 dX4_notesFit_115 (by decide) ?_
  refine k_sub [1, 2, 3, 0] rfl ?_
  exact hrec2 x1 hx2 y11 hkx2 h
set_option maxHeartbeats 4000000 in
set_option maxRecDepth 100000 in
theorem k_X4_notesFit_b76 {B : KB} {X : KE} {T : TT} {g : Nat} {rec2 : Int32 → (Nat × Nat) → Int32 → Option (Int32)} {res : Int32} (C : Cx B X "GriefEngine$Rank" cX4_notesFit 7 4) (E : Cr B X (some .boolean) (some (.int res)) T) (hg : g < 4) (hrec2 : ∀ (x1 : Int32) (hx2 : Nat × Nat) (x3 : Int32), kok hx2.1 hx2.2 → rec2 x1 hx2 x3 = some res → Wk B X 7 T 2 [(0, .ref (B.1 g 0)), (1, .int x1), (2, .ref (B.1 hx2.1 hx2.2)), (3, .int x3)] []) (x1 : Int32) (hx2 : Nat × Nat) (x3 : Int32) (x4 : Int32) (x5 : Int32) (s0 : Int32) (hkx2 : kok hx2.1 hx2.2) (h : m_X4_notesFit_b76 T g rec2 x1 hx2 x3 x4 x5 s0 = some res) : Wk B X 7 T 76 [(0, .ref (B.1 g 0)), (1, .int x1), (2, .ref (B.1 hx2.1 hx2.2)), (3, .int x3), (4, .int x4), (5, .int x5)] [.int s0] := by
  unfold m_X4_notesFit_b76 at h
  refine k_istore (pc := 76) C [(6, .int s0), (0, .ref (B.1 g 0)), (1, .int x1), (2, .ref (B.1 hx2.1 hx2.2)), (3, .int x3), (4, .int x4), (5, .int x5)] dX4_notesFit_76 (by decide) rfl ?_
  refine k_iload (pc := 78) C dX4_notesFit_78 0 rfl ?_
  refine k_if_eq (pc := 80) C 110 dX4_notesFit_80 (by decide) h (fun c10 h => ?_) (fun c10 h => ?_)
  · refine k_iconst (pc := 110) (v := (0 : Int32)) C dX4_notesFit_110 ciconst_0 ?_
    exact k_zret (pc := 111) C E rfl (some_i h) rfl dX4_notesFit_111
  · refine k_aload_n (pc := 83) C dX4_notesFit_83 3 rfl ?_
    refine k_aload_n (pc := 84) C dX4_notesFit_84 1 rfl ?_
    refine gf_X4_43 (pc := 85) C hg dX4_notesFit_85 ?_
    refine k_iload (pc := 88) C dX4_notesFit_88 5 rfl ?_
    refine k_iconst (pc := 90) (v := (4 : Int32)) C dX4_notesFit_90 ciconst_4 ?_
    refine k_iadd (pc := 91) C dX4_notesFit_91 ?_
    refine k_iald (pc := 92) C (ia_R5 hg) dX4_notesFit_92 h (fun h => ?_)
    refine k_iload (pc := 93) C dX4_notesFit_93 6 rfl ?_
    obtain ⟨z8, e8, h⟩ := bnd h
    refine kv_left (pc := 95) C lk_X4_97 (by decide) hkx2 e8 dX4_notesFit_95 (Nat.le_of_ble_eq_true rfl) ?_
    refine k_aload_n (pc := 98) C dX4_notesFit_98 1 rfl ?_
    refine gf_X4_43 (pc := 99) C hg dX4_notesFit_99 ?_
    refine k_iload (pc := 102) C dX4_notesFit_102 5 rfl ?_
    refine k_iconst (pc := 104) (v := (5 : Int32)) C dX4_notesFit_104 ciconst_5 ?_
    refine k_iadd (pc := 105) C dX4_notesFit_105 ?_
    refine k_iald (pc := 106) C (ia_R5 hg) dX4_notesFit_106 h (fun h => ?_)
    refine k_icmp_eq (pc := 107) C 112 dX4_notesFit_107 (by decide) h (fun c9 h => ?_) (fun c9 h => ?_)
    · refine k_sub [1, 2, 3, 4] rfl ?_
      exact k_X4_notesFit_b112 C E hg hrec2 x1 hx2 x3 hkx2 h
    · refine k_iconst (pc := 110) (v := (0 : Int32)) C dX4_notesFit_110 ciconst_0 ?_
      exact k_zret (pc := 111) C E rfl (some_i h) rfl dX4_notesFit_111
set_option maxHeartbeats 4000000 in
set_option maxRecDepth 100000 in
theorem k_X4_notesFit_h2 {B : KB} {X : KE} {T : TT} {g : Nat} {rec2 : Int32 → (Nat × Nat) → Int32 → Option (Int32)} {res : Int32} (C : Cx B X "GriefEngine$Rank" cX4_notesFit 7 4) (E : Cr B X (some .boolean) (some (.int res)) T) (hg : g < 4) (hrec2 : ∀ (x1 : Int32) (hx2 : Nat × Nat) (x3 : Int32), kok hx2.1 hx2.2 → rec2 x1 hx2 x3 = some res → Wk B X 7 T 2 [(0, .ref (B.1 g 0)), (1, .int x1), (2, .ref (B.1 hx2.1 hx2.2)), (3, .int x3)] []) (x1 : Int32) (hx2 : Nat × Nat) (x3 : Int32) (hkx2 : kok hx2.1 hx2.2) (h : m_X4_notesFit_h2 T g rec2 x1 hx2 x3 = some res) : Wk B X 7 T 2 [(0, .ref (B.1 g 0)), (1, .int x1), (2, .ref (B.1 hx2.1 hx2.2)), (3, .int x3)] [] := by
  unfold m_X4_notesFit_h2 at h
  refine k_iload_n (pc := 2) C dX4_notesFit_2 3 rfl ?_
  refine k_aload_n (pc := 3) C dX4_notesFit_3 0 rfl ?_
  refine gf_X4_59 (pc := 4) C hg dX4_notesFit_4 ?_
  refine k_icmp_ge (pc := 7) C 118 dX4_notesFit_7 (by decide) h (fun c7 h => ?_) (fun c7 h => ?_)
  · refine k_iconst (pc := 118) (v := (1 : Int32)) C dX4_notesFit_118 ciconst_1 ?_
    exact k_zret (pc := 119) C E rfl (some_i h) rfl dX4_notesFit_119
  · refine k_iload_n (pc := 10) C dX4_notesFit_10 3 rfl ?_
    refine k_bipush (pc := 11) (v := (6 : Int32)) C dX4_notesFit_11 cbipush_6 ?_
    refine k_icmp_ge (pc := 13) C 118 dX4_notesFit_13 (by decide) h (fun c6 h => ?_) (fun c6 h => ?_)
    · refine k_iconst (pc := 118) (v := (1 : Int32)) C dX4_notesFit_118 ciconst_1 ?_
      exact k_zret (pc := 119) C E rfl (some_i h) rfl dX4_notesFit_119
    · refine k_iload_n (pc := 16) C dX4_notesFit_16 3 rfl ?_
      refine k_bipush (pc := 17) (v := (6 : Int32)) C dX4_notesFit_17 cbipush_6 ?_
      refine k_imul (pc := 19) C dX4_notesFit_19 ?_
      refine k_nI h (fun y1 h => ?_)
      refine k_istore (pc := 20) C [(4, .int y1), (0, .ref (B.1 g 0)), (1, .int x1), (2, .ref (B.1 hx2.1 hx2.2)), (3, .int x3)] dX4_notesFit_20 (by decide) rfl ?_
      refine k_aload_n (pc := 22) C dX4_notesFit_22 1 rfl ?_
      refine gf_X4_43 (pc := 23) C hg dX4_notesFit_23 ?_
      refine k_iload (pc := 26) C dX4_notesFit_26 0 rfl ?_
      refine k_iald (pc := 28) C (ia_R5 hg) dX4_notesFit_28 h (fun h => ?_)
      refine k_iload_n (pc := 29) C dX4_notesFit_29 2 rfl ?_
      refine k_icmp_ne (pc := 30) C 112 dX4_notesFit_30 (by decide) h (fun c5 h => ?_) (fun c5 h => ?_)
      · refine k_sub [1, 2, 3, 4] rfl ?_
        exact k_X4_notesFit_b112 C E hg hrec2 x1 hx2 x3 hkx2 h
      · refine k_aload_n (pc := 33) C dX4_notesFit_33 1 rfl ?_
        refine gf_X4_43 (pc := 34) C hg dX4_notesFit_34 ?_
        refine k_iload (pc := 37) C dX4_notesFit_37 0 rfl ?_
        refine k_iconst (pc := 39) (v := (1 : Int32)) C dX4_notesFit_39 ciconst_1 ?_
        refine k_iadd (pc := 40) C dX4_notesFit_40 ?_
        refine k_iald (pc := 41) C (ia_R5 hg) dX4_notesFit_41 h (fun h => ?_)
        refine k_nI h (fun y2 h => ?_)
        refine k_istore (pc := 42) C [(5, .int y2), (4, .int y1), (0, .ref (B.1 g 0)), (1, .int x1), (2, .ref (B.1 hx2.1 hx2.2)), (3, .int x3)] dX4_notesFit_42 (by decide) rfl ?_
        refine k_aload_n (pc := 44) C dX4_notesFit_44 4 rfl ?_
        refine k_aload_n (pc := 45) C dX4_notesFit_45 2 rfl ?_
        refine gf_X4_43 (pc := 46) C hg dX4_notesFit_46 ?_
        refine k_iload (pc := 49) C dX4_notesFit_49 1 rfl ?_
        refine k_iconst (pc := 51) (v := (2 : Int32)) C dX4_notesFit_51 ciconst_2 ?_
        refine k_iadd (pc := 52) C dX4_notesFit_52 ?_
        refine k_iald (pc := 53) C (ia_R5 hg) dX4_notesFit_53 h (fun h => ?_)
        refine k_iload (pc := 54) C dX4_notesFit_54 0 rfl ?_
        obtain ⟨z3, e3, h⟩ := bnd h
        refine kv_runs (pc := 56) C lk_X4_94 (by decide) hkx2 e3 dX4_notesFit_56 (Nat.le_of_ble_eq_true rfl) ?_
        refine k_aload_n (pc := 59) C dX4_notesFit_59 2 rfl ?_
        refine gf_X4_43 (pc := 60) C hg dX4_notesFit_60 ?_
        refine k_iload (pc := 63) C dX4_notesFit_63 1 rfl ?_
        refine k_iconst (pc := 65) (v := (3 : Int32)) C dX4_notesFit_65 ciconst_3 ?_
        refine k_iadd (pc := 66) C dX4_notesFit_66 ?_
        refine k_iald (pc := 67) C (ia_R5 hg) dX4_notesFit_67 h (fun h => ?_)
        refine k_icmp_ne (pc := 68) C 75 dX4_notesFit_68 (by decide) h (fun c4 h => ?_) (fun c4 h => ?_)
        · refine k_iconst (pc := 75) (v := (0 : Int32)) C dX4_notesFit_75 ciconst_0 ?_
          refine k_sub [2, 3, 4, 5, 1, 0] rfl ?_
          exact k_X4_notesFit_b76 C E hg hrec2 x1 hx2 x3 y1 y2 (0 : Int32) hkx2 h
        · refine k_iconst (pc := 71) (v := (1 : Int32)) C dX4_notesFit_71 ciconst_1 ?_
          refine k_goto (pc := 72) C 76 dX4_notesFit_72 (by decide) ?_
          refine k_sub [2, 3, 4, 5, 1, 0] rfl ?_
          exact k_X4_notesFit_b76 C E hg hrec2 x1 hx2 x3 y1 y2 (1 : Int32) hkx2 h
set_option maxHeartbeats 4000000 in
set_option maxRecDepth 100000 in
theorem k_X4_notesFit_l2 {B : KB} {X : KE} {T : TT} {g : Nat} {res : Int32} (C : Cx B X "GriefEngine$Rank" cX4_notesFit 7 4) (E : Cr B X (some .boolean) (some (.int res)) T) (hg : g < 4) : ∀ (n : Nat) (x1 : Int32) (hx2 : Nat × Nat) (x3 : Int32) (hkx2 : kok hx2.1 hx2.2) (h : m_X4_notesFit_l2 T g n x1 hx2 x3 = some res), Wk B X 7 T 2 [(0, .ref (B.1 g 0)), (1, .int x1), (2, .ref (B.1 hx2.1 hx2.2)), (3, .int x3)] [] := by
  intro n
  induction n with
  | zero =>
    intro x1 hx2 x3 hkx2 h
    exact no_some h
  | succ n ih =>
    intro x1 hx2 x3 hkx2 h
    exact k_X4_notesFit_h2 C E hg (fun x1 hx2 x3 hkx2 h => ih x1 hx2 x3 hkx2 h) x1 hx2 x3 hkx2 h
set_option maxHeartbeats 4000000 in
set_option maxRecDepth 100000 in
theorem kc_X4_notesFit {B : KB} {l : Launch} {T : TT} {g : Nat} {x1 : Int32} {h2 : Nat × Nat} {res : Int32} (hg : g < 4) (hk2 : kok h2.1 h2.2) (h : m_X4_notesFit T g x1 h2 = some res) : Kt B l 4 yX4_notesFit cX4_notesFit 7 (some .boolean) T [.ref (B.1 g 0), .int x1, .ref (B.1 h2.1 h2.2)] (some (.int res)) T := by
  refine Kt.of (by decide) (Nat.le_of_ble_eq_true rfl) (fun X hX C E => ?_)
  subst hX
  have C : Cx B X "GriefEngine$Rank" cX4_notesFit 7 4 := C
  show Wk B X 7 T 0 [(0, .ref (B.1 g 0)), (1, .int x1), (2, .ref (B.1 h2.1 h2.2))] []
  unfold m_X4_notesFit at h
  refine k_iconst (pc := 0) (v := (0 : Int32)) C dX4_notesFit_0 ciconst_0 ?_
  refine k_istore_n (pc := 1) C [(3, .int (0 : Int32)), (0, .ref (B.1 g 0)), (1, .int x1), (2, .ref (B.1 h2.1 h2.2))] dX4_notesFit_1 (by decide) rfl ?_
  refine k_sub [1, 2, 3, 0] rfl ?_
  exact k_X4_notesFit_l2 C E hg FU x1 h2 (0 : Int32) hk2 h
def m_X4_addTrip (T : TT) (g : Nat) (x1 : Int32) (x2 : Int32) (x3 : Int32) : Option (Int32 × TT) := if (T.2.1 g 10) < (4 : Int32) then (bT ((T.2.1 g 10) * (3 : Int32)) (fun y1 => if inb y1 12 then bT (sA T g 6 (Int32.toNatClampNeg y1) x1) (fun T2 => if inb (y1 + (1 : Int32)) 12 then bT (sA T2 g 6 (Int32.toNatClampNeg (y1 + (1 : Int32))) x2) (fun T3 => if inb (y1 + (2 : Int32)) 12 then bT (sA T3 g 6 (Int32.toNatClampNeg (y1 + (2 : Int32))) x3) (fun T4 => bT (sI T4 g 10 ((T4.2.1 g 10) + (1 : Int32))) (fun T5 => some ((T5.2.1 g 10), T5))) else none) else none) else none)) else (some ((-4 : Int32), T))
set_option maxHeartbeats 4000000 in
set_option maxRecDepth 100000 in
theorem kc_X4_addTrip {B : KB} {l : Launch} {T : TT} {g : Nat} {x1 : Int32} {x2 : Int32} {x3 : Int32} {res : Int32 × TT} (hg : g < 4) (h : m_X4_addTrip T g x1 x2 x3 = some res) : Kt B l 1 yX4_addTrip cX4_addTrip 5 (some .int) T [.ref (B.1 g 0), .int x1, .int x2, .int x3] (some (.int res.1)) res.2 := by
  refine Kt.of (by decide) (Nat.le_of_ble_eq_true rfl) (fun X hX C E => ?_)
  subst hX
  have C : Cx B X "GriefEngine$Rank" cX4_addTrip 5 1 := C
  show Wk B X 5 T 0 [(0, .ref (B.1 g 0)), (1, .int x1), (2, .int x2), (3, .int x3)] []
  unfold m_X4_addTrip at h
  refine k_aload_n (pc := 0) C dX4_addTrip_0 0 rfl ?_
  refine gf_X4_62 (pc := 1) C hg dX4_addTrip_1 ?_
  refine k_iconst (pc := 4) (v := (4 : Int32)) C dX4_addTrip_4 ciconst_4 ?_
  refine k_icmp_lt (pc := 5) C 11 dX4_addTrip_5 (by decide) h (fun c6 h => ?_) (fun c6 h => ?_)
  · refine k_aload_n (pc := 11) C dX4_addTrip_11 0 rfl ?_
    refine gf_X4_62 (pc := 12) C hg dX4_addTrip_12 ?_
    refine k_iconst (pc := 15) (v := (3 : Int32)) C dX4_addTrip_15 ciconst_3 ?_
    refine k_imul (pc := 16) C dX4_addTrip_16 ?_
    refine k_nI h (fun y1 h => ?_)
    refine k_istore (pc := 17) C [(4, .int y1), (0, .ref (B.1 g 0)), (1, .int x1), (2, .int x2), (3, .int x3)] dX4_addTrip_17 (by decide) rfl ?_
    refine k_aload_n (pc := 19) C dX4_addTrip_19 1 rfl ?_
    refine gf_X4_46 (pc := 20) C hg dX4_addTrip_20 ?_
    refine k_iload (pc := 23) C dX4_addTrip_23 0 rfl ?_
    refine k_iload_n (pc := 25) C dX4_addTrip_25 2 rfl ?_
    refine k_iast (pc := 26) C (ia_R6 hg) dX4_addTrip_26 h (fun h => ?_)
    refine k_nT h (fun T2 h => ?_)
    refine k_aload_n (pc := 27) C dX4_addTrip_27 1 rfl ?_
    refine gf_X4_46 (pc := 28) C hg dX4_addTrip_28 ?_
    refine k_iload (pc := 31) C dX4_addTrip_31 0 rfl ?_
    refine k_iconst (pc := 33) (v := (1 : Int32)) C dX4_addTrip_33 ciconst_1 ?_
    refine k_iadd (pc := 34) C dX4_addTrip_34 ?_
    refine k_iload_n (pc := 35) C dX4_addTrip_35 3 rfl ?_
    refine k_iast (pc := 36) C (ia_R6 hg) dX4_addTrip_36 h (fun h => ?_)
    refine k_nT h (fun T3 h => ?_)
    refine k_aload_n (pc := 37) C dX4_addTrip_37 1 rfl ?_
    refine gf_X4_46 (pc := 38) C hg dX4_addTrip_38 ?_
    refine k_iload (pc := 41) C dX4_addTrip_41 0 rfl ?_
    refine k_iconst (pc := 43) (v := (2 : Int32)) C dX4_addTrip_43 ciconst_2 ?_
    refine k_iadd (pc := 44) C dX4_addTrip_44 ?_
    refine k_iload_n (pc := 45) C dX4_addTrip_45 4 rfl ?_
    refine k_iast (pc := 46) C (ia_R6 hg) dX4_addTrip_46 h (fun h => ?_)
    refine k_nT h (fun T4 h => ?_)
    refine k_aload_n (pc := 47) C dX4_addTrip_47 1 rfl ?_
    refine k_dup (pc := 48) C dX4_addTrip_48 rfl ?_
    refine gf_X4_62 (pc := 49) C hg dX4_addTrip_49 ?_
    refine k_iconst (pc := 52) (v := (1 : Int32)) C dX4_addTrip_52 ciconst_1 ?_
    refine k_iadd (pc := 53) C dX4_addTrip_53 ?_
    refine pf_X4_62 (pc := 54) C hg dX4_addTrip_54 ?_
    refine k_nT h (fun T5 h => ?_)
    refine k_aload_n (pc := 57) C dX4_addTrip_57 1 rfl ?_
    refine gf_X4_62 (pc := 58) C hg dX4_addTrip_58 ?_
    exact k_iret (pc := 61) C E (some_1 h) (some_2 h) dX4_addTrip_61
  · refine k_bipush (pc := 8) (v := (-4 : Int32)) C dX4_addTrip_8 cbipush_m4 ?_
    exact k_iret (pc := 10) C E (some_1 h) (some_2 h) dX4_addTrip_10
/-- milesFromFirstDay, by the kind -/
def v_milesFromFirstDay (h0 : Nat × Nat) (x1 x2 : Int32) : Option Int32 := if kn h0.1 h0.2 = 0 then m_X3_milesFromFirstDay h0 x1 x2 else (if kn h0.1 h0.2 = 1 then m_X3_milesFromFirstDay h0 x1 x2 else (if kn h0.1 h0.2 = 2 then m_X3_milesFromFirstDay h0 x1 x2 else (if kn h0.1 h0.2 = 3 then m_X3_milesFromFirstDay h0 x1 x2 else (if kn h0.1 h0.2 = 4 then m_X3_milesFromFirstDay h0 x1 x2 else (m_X3_milesFromFirstDay h0 x1 x2)))))
set_option maxHeartbeats 4000000 in
set_option maxRecDepth 100000 in
theorem kv_milesFromFirstDay {B : KB} {X : KE} {own : String} {cc : ByteArray} {nL d : Nat} {T : TT} {pc : Nat} {lv : List (Nat × Value)} {rest : List Value} {idx : Nat} {h0 : Nat × Nat} {x1 x2 r : Int32} (C : Cx B X own cc nL d) (lk : Cond.methodLink own idx yX3_milesFromFirstDay ∈ GW) (hdd : 4 < d) (hk : kok h0.1 h0.2) (e : v_milesFromFirstDay h0 x1 x2 = some r) (hd : decode cc pc = .ok (.invokevirtual idx, 3)) (hW : (rest.map fun v => v.category).sum ≤ 8) (kk : Wk B X nL T (pc + 3) lv (.int r :: rest)) : Wk B X nL T pc lv (.int x2 :: .int x1 :: .ref (B.1 h0.1 h0.2) :: rest) := by
  obtain ⟨hx, hw, h6⟩ := kok_at hk
  unfold v_milesFromFirstDay at e
  rcases (show kn h0.1 h0.2 = 0 ∨ kn h0.1 h0.2 = 1 ∨ kn h0.1 h0.2 = 2 ∨ kn h0.1 h0.2 = 3 ∨ kn h0.1 h0.2 = 4 ∨ kn h0.1 h0.2 = 5 by omega) with q | q | q | q | q | q
  · rw [q] at e
    have e : m_X3_milesFromFirstDay h0 x1 x2 = some r := e
    exact k_calluI C (lu_milesFromFirstDay_0 lk) (Nat.lt_of_le_of_lt (by decide) hdd) hx (ci := 3) (by rw [hw, q]; rfl) rfl rfl (kc_X3_milesFromFirstDay hk e) hd rfl rfl hW kk
  · rw [q] at e
    have e : m_X3_milesFromFirstDay h0 x1 x2 = some r := e
    exact k_calluI C (lu_milesFromFirstDay_1 lk) (Nat.lt_of_le_of_lt (by decide) hdd) hx (ci := 0) (by rw [hw, q]; rfl) rfl rfl (kc_X3_milesFromFirstDay hk e) hd rfl rfl hW kk
  · rw [q] at e
    have e : m_X3_milesFromFirstDay h0 x1 x2 = some r := e
    exact k_calluI C (lu_milesFromFirstDay_2 lk) (Nat.lt_of_le_of_lt (by decide) hdd) hx (ci := 6) (by rw [hw, q]; rfl) rfl rfl (kc_X3_milesFromFirstDay hk e) hd rfl rfl hW kk
  · rw [q] at e
    have e : m_X3_milesFromFirstDay h0 x1 x2 = some r := e
    exact k_calluI C (lu_milesFromFirstDay_3 lk) (Nat.lt_of_le_of_lt (by decide) hdd) hx (ci := 7) (by rw [hw, q]; rfl) rfl rfl (kc_X3_milesFromFirstDay hk e) hd rfl rfl hW kk
  · rw [q] at e
    have e : m_X3_milesFromFirstDay h0 x1 x2 = some r := e
    exact k_calluI C (lu_milesFromFirstDay_4 lk) (Nat.lt_of_le_of_lt (by decide) hdd) hx (ci := 8) (by rw [hw, q]; rfl) rfl rfl (kc_X3_milesFromFirstDay hk e) hd rfl rfl hW kk
  · rw [q] at e
    have e : m_X3_milesFromFirstDay h0 x1 x2 = some r := e
    exact k_calluI C (lu_milesFromFirstDay_5 lk) (Nat.lt_of_le_of_lt (by decide) hdd) hx (ci := 1) (by rw [hw, q]; rfl) rfl rfl (kc_X3_milesFromFirstDay hk e) hd rfl rfl hW kk
def m_X4_tripsFit_b69 (T : TT) (g : Nat) (rec9 : Int32 → Int32 → (Nat × Nat) → Int32 → Option (Int32)) (x1 : Int32) (x2 : Int32) (hx3 : Nat × Nat) (x4 : Int32) : Option (Int32) := bT (x4 + (1 : Int32)) (fun y8 => rec9 x1 x2 hx3 y8)
def m_X4_tripsFit_h9 (T : TT) (g : Nat) (rec9 : Int32 → Int32 → (Nat × Nat) → Int32 → Option (Int32)) (x1 : Int32) (x2 : Int32) (hx3 : Nat × Nat) (x4 : Int32) : Option (Int32) := if (T.2.1 g 10) ≤ x4 then (some (1 : Int32)) else (if (4 : Int32) ≤ x4 then (some (1 : Int32)) else (bT (x4 * (3 : Int32)) (fun y2 => if inb y2 12 then (if (T.1 g 6 (Int32.toNatClampNeg y2)) = x1 then (if inb (y2 + (1 : Int32)) 12 then ((v_milesFromFirstDay hx3 x2 (T.1 g 6 (Int32.toNatClampNeg (y2 + (1 : Int32))))).bind (fun z3 => if inb (y2 + (2 : Int32)) 12 then (if z3 = (T.1 g 6 (Int32.toNatClampNeg (y2 + (2 : Int32)))) then (m_X4_tripsFit_b69 T g rec9 x1 x2 hx3 x4) else (some (0 : Int32))) else none)) else none) else (m_X4_tripsFit_b69 T g rec9 x1 x2 hx3 x4)) else none)))
def m_X4_tripsFit_l9 (T : TT) (g : Nat) : Nat → Int32 → Int32 → (Nat × Nat) → Int32 → Option (Int32)
  | 0 => fun _ _ _ _ => none
  | n + 1 => fun x1 x2 hx3 x4 => m_X4_tripsFit_h9 T g (m_X4_tripsFit_l9 T g n) x1 x2 hx3 x4
def m_X4_tripsFit (T : TT) (g : Nat) (x1 : Int32) (x2 : Int32) : Option (Int32) := (m_X4_kindOf T g x1).bind (fun z1 => m_X4_tripsFit_l9 T g FU x1 x2 z1 (0 : Int32))
set_option maxHeartbeats 4000000 in
set_option maxRecDepth 100000 in
theorem k_X4_tripsFit_b69 {B : KB} {X : KE} {T : TT} {g : Nat} {rec9 : Int32 → Int32 → (Nat × Nat) → Int32 → Option (Int32)} {res : Int32} (C : Cx B X "GriefEngine$Rank" cX4_tripsFit 6 5) (E : Cr B X (some .boolean) (some (.int res)) T) (hg : g < 4) (hrec9 : ∀ (x1 : Int32) (x2 : Int32) (hx3 : Nat × Nat) (x4 : Int32), kok hx3.1 hx3.2 → rec9 x1 x2 hx3 x4 = some res → Wk B X 6 T 9 [(0, .ref (B.1 g 0)), (1, .int x1), (2, .int x2), (3, .ref (B.1 hx3.1 hx3.2)), (4, .int x4)] []) (x1 : Int32) (x2 : Int32) (hx3 : Nat × Nat) (x4 : Int32) (hkx3 : kok hx3.1 hx3.2) (h : m_X4_tripsFit_b69 T g rec9 x1 x2 hx3 x4 = some res) : Wk B X 6 T 69 [(0, .ref (B.1 g 0)), (1, .int x1), (2, .int x2), (3, .ref (B.1 hx3.1 hx3.2)), (4, .int x4)] [] := by
  unfold m_X4_tripsFit_b69 at h
  refine k_iincN (pc := 69) (x := x4) (c := (1 : Int32)) C (fun y8 => [(4, .int y8), (0, .ref (B.1 g 0)), (1, .int x1), (2, .int x2), (3, .ref (B.1 hx3.1 hx3.2))]) dX4_tripsFit_69 4 rfl ciconst_1 (by decide) (fun _ => rfl) h (fun y8 h => ?_)
  refine k_goto (pc := 72) C 9 dX4_tripsFit_72 (by decide) ?_
  refine k_sub [1, 2, 3, 4, 0] rfl ?_
  exact hrec9 x1 x2 hx3 y8 hkx3 h
set_option maxHeartbeats 4000000 in
set_option maxRecDepth 100000 in
theorem k_X4_tripsFit_h9 {B : KB} {X : KE} {T : TT} {g : Nat} {rec9 : Int32 → Int32 → (Nat × Nat) → Int32 → Option (Int32)} {res : Int32} (C : Cx B X "GriefEngine$Rank" cX4_tripsFit 6 5) (E : Cr B X (some .boolean) (some (.int res)) T) (hg : g < 4) (hrec9 : ∀ (x1 : Int32) (x2 : Int32) (hx3 : Nat × Nat) (x4 : Int32), kok hx3.1 hx3.2 → rec9 x1 x2 hx3 x4 = some res → Wk B X 6 T 9 [(0, .ref (B.1 g 0)), (1, .int x1), (2, .int x2), (3, .ref (B.1 hx3.1 hx3.2)), (4, .int x4)] []) (x1 : Int32) (x2 : Int32) (hx3 : Nat × Nat) (x4 : Int32) (hkx3 : kok hx3.1 hx3.2) (h : m_X4_tripsFit_h9 T g rec9 x1 x2 hx3 x4 = some res) : Wk B X 6 T 9 [(0, .ref (B.1 g 0)), (1, .int x1), (2, .int x2), (3, .ref (B.1 hx3.1 hx3.2)), (4, .int x4)] [] := by
  unfold m_X4_tripsFit_h9 at h
  refine k_iload (pc := 9) C dX4_tripsFit_9 4 rfl ?_
  refine k_aload_n (pc := 11) C dX4_tripsFit_11 0 rfl ?_
  refine gf_X4_62 (pc := 12) C hg dX4_tripsFit_12 ?_
  refine k_icmp_ge (pc := 15) C 75 dX4_tripsFit_15 (by decide) h (fun c7 h => ?_) (fun c7 h => ?_)
  · refine k_iconst (pc := 75) (v := (1 : Int32)) C dX4_tripsFit_75 ciconst_1 ?_
    exact k_zret (pc := 76) C E rfl (some_i h) rfl dX4_tripsFit_76
  · refine k_iload (pc := 18) C dX4_tripsFit_18 4 rfl ?_
    refine k_iconst (pc := 20) (v := (4 : Int32)) C dX4_tripsFit_20 ciconst_4 ?_
    refine k_icmp_ge (pc := 21) C 75 dX4_tripsFit_21 (by decide) h (fun c6 h => ?_) (fun c6 h => ?_)
    · refine k_iconst (pc := 75) (v := (1 : Int32)) C dX4_tripsFit_75 ciconst_1 ?_
      exact k_zret (pc := 76) C E rfl (some_i h) rfl dX4_tripsFit_76
    · refine k_iload (pc := 24) C dX4_tripsFit_24 4 rfl ?_
      refine k_iconst (pc := 26) (v := (3 : Int32)) C dX4_tripsFit_26 ciconst_3 ?_
      refine k_imul (pc := 27) C dX4_tripsFit_27 ?_
      refine k_nI h (fun y2 h => ?_)
      refine k_istore (pc := 28) C [(5, .int y2), (0, .ref (B.1 g 0)), (1, .int x1), (2, .int x2), (3, .ref (B.1 hx3.1 hx3.2)), (4, .int x4)] dX4_tripsFit_28 (by decide) rfl ?_
      refine k_aload_n (pc := 30) C dX4_tripsFit_30 1 rfl ?_
      refine gf_X4_46 (pc := 31) C hg dX4_tripsFit_31 ?_
      refine k_iload (pc := 34) C dX4_tripsFit_34 0 rfl ?_
      refine k_iald (pc := 36) C (ia_R6 hg) dX4_tripsFit_36 h (fun h => ?_)
      refine k_iload_n (pc := 37) C dX4_tripsFit_37 2 rfl ?_
      refine k_icmp_ne (pc := 38) C 69 dX4_tripsFit_38 (by decide) h (fun c5 h => ?_) (fun c5 h => ?_)
      · refine k_sub [1, 2, 3, 4, 5] rfl ?_
        exact k_X4_tripsFit_b69 C E hg hrec9 x1 x2 hx3 x4 hkx3 h
      · refine k_aload_n (pc := 41) C dX4_tripsFit_41 4 rfl ?_
        refine k_iload_n (pc := 42) C dX4_tripsFit_42 3 rfl ?_
        refine k_aload_n (pc := 43) C dX4_tripsFit_43 1 rfl ?_
        refine gf_X4_46 (pc := 44) C hg dX4_tripsFit_44 ?_
        refine k_iload (pc := 47) C dX4_tripsFit_47 0 rfl ?_
        refine k_iconst (pc := 49) (v := (1 : Int32)) C dX4_tripsFit_49 ciconst_1 ?_
        refine k_iadd (pc := 50) C dX4_tripsFit_50 ?_
        refine k_iald (pc := 51) C (ia_R6 hg) dX4_tripsFit_51 h (fun h => ?_)
        obtain ⟨z3, e3, h⟩ := bnd h
        refine kv_milesFromFirstDay (pc := 52) C lk_X4_100 (by decide) hkx3 e3 dX4_tripsFit_52 (Nat.le_of_ble_eq_true rfl) ?_
        refine k_aload_n (pc := 55) C dX4_tripsFit_55 1 rfl ?_
        refine gf_X4_46 (pc := 56) C hg dX4_tripsFit_56 ?_
        refine k_iload (pc := 59) C dX4_tripsFit_59 0 rfl ?_
        refine k_iconst (pc := 61) (v := (2 : Int32)) C dX4_tripsFit_61 ciconst_2 ?_
        refine k_iadd (pc := 62) C dX4_tripsFit_62 ?_
        refine k_iald (pc := 63) C (ia_R6 hg) dX4_tripsFit_63 h (fun h => ?_)
        refine k_icmp_eq (pc := 64) C 69 dX4_tripsFit_64 (by decide) h (fun c4 h => ?_) (fun c4 h => ?_)
        · refine k_sub [1, 2, 3, 4, 5] rfl ?_
          exact k_X4_tripsFit_b69 C E hg hrec9 x1 x2 hx3 x4 hkx3 h
        · refine k_iconst (pc := 67) (v := (0 : Int32)) C dX4_tripsFit_67 ciconst_0 ?_
          exact k_zret (pc := 68) C E rfl (some_i h) rfl dX4_tripsFit_68
set_option maxHeartbeats 4000000 in
set_option maxRecDepth 100000 in
theorem k_X4_tripsFit_l9 {B : KB} {X : KE} {T : TT} {g : Nat} {res : Int32} (C : Cx B X "GriefEngine$Rank" cX4_tripsFit 6 5) (E : Cr B X (some .boolean) (some (.int res)) T) (hg : g < 4) : ∀ (n : Nat) (x1 : Int32) (x2 : Int32) (hx3 : Nat × Nat) (x4 : Int32) (hkx3 : kok hx3.1 hx3.2) (h : m_X4_tripsFit_l9 T g n x1 x2 hx3 x4 = some res), Wk B X 6 T 9 [(0, .ref (B.1 g 0)), (1, .int x1), (2, .int x2), (3, .ref (B.1 hx3.1 hx3.2)), (4, .int x4)] [] := by
  intro n
  induction n with
  | zero =>
    intro x1 x2 hx3 x4 hkx3 h
    exact no_some h
  | succ n ih =>
    intro x1 x2 hx3 x4 hkx3 h
    exact k_X4_tripsFit_h9 C E hg (fun x1 x2 hx3 x4 hkx3 h => ih x1 x2 hx3 x4 hkx3 h) x1 x2 hx3 x4 hkx3 h
set_option maxHeartbeats 4000000 in
set_option maxRecDepth 100000 in
theorem kc_X4_tripsFit {B : KB} {l : Launch} {T : TT} {g : Nat} {x1 : Int32} {x2 : Int32} {res : Int32} (hg : g < 4) (h : m_X4_tripsFit T g x1 x2 = some res) : Kt B l 5 yX4_tripsFit cX4_tripsFit 6 (some .boolean) T [.ref (B.1 g 0), .int x1, .int x2] (some (.int res)) T := by
  refine Kt.of (by decide) (Nat.le_of_ble_eq_true rfl) (fun X hX C E => ?_)
  subst hX
  have C : Cx B X "GriefEngine$Rank" cX4_tripsFit 6 5 := C
  show Wk B X 6 T 0 [(0, .ref (B.1 g 0)), (1, .int x1), (2, .int x2)] []
  unfold m_X4_tripsFit at h
  refine k_aload_n (pc := 0) C dX4_tripsFit_0 0 rfl ?_
  refine k_iload_n (pc := 1) C dX4_tripsFit_1 1 rfl ?_
  obtain ⟨z1, e1, h⟩ := bnd h
  have hz1 := kr_X4_kindOf hg e1
  refine k_callvA (pc := 2) C lk_X4_86 (by decide) (ix_X4 hg) (wo_X4 hg) rfl rfl (kc_X4_kindOf hg e1) dX4_tripsFit_2 rfl rfl (Nat.le_of_ble_eq_true rfl) ?_
  refine k_astore_n (pc := 5) C [(3, .ref (B.1 z1.1 z1.2)), (0, .ref (B.1 g 0)), (1, .int x1), (2, .int x2)] dX4_tripsFit_5 (by decide) rfl ?_
  refine k_iconst (pc := 6) (v := (0 : Int32)) C dX4_tripsFit_6 ciconst_0 ?_
  refine k_istore (pc := 7) C [(4, .int (0 : Int32)), (3, .ref (B.1 z1.1 z1.2)), (0, .ref (B.1 g 0)), (1, .int x1), (2, .int x2)] dX4_tripsFit_7 (by decide) rfl ?_
  refine k_sub [2, 3, 4, 1, 0] rfl ?_
  exact k_X4_tripsFit_l9 C E hg FU x1 x2 z1 (0 : Int32) hz1 h
def m_X5_spread_b43 (rec2 : TT → Int32 → Int32 → Int32 → Option (TT)) (T : TT) (x1 : Int32) (x2 : Int32) (x3 : Int32) (x4 : Int32) (s0 : Int32) : Option (TT) := if inb (x1 + (1 : Int32)) 8 then (if inb (x1 + (1 : Int32)) 8 then (if inb x4 100 then (if inb x1 8 then (if inb x2 100 then (if inb x4 100 then bT (sA T 8 ((Int32.toNatClampNeg (x1 + (1 : Int32))) + 1) (Int32.toNatClampNeg x4) (if (T.1 8 ((Int32.toNatClampNeg (x1 + (1 : Int32))) + 1) (Int32.toNatClampNeg x4)) < ((T.1 8 ((Int32.toNatClampNeg x1) + 1) (Int32.toNatClampNeg x2)) + s0) then ((T.1 8 ((Int32.toNatClampNeg x1) + 1) (Int32.toNatClampNeg x2)) + s0) else (T.1 8 ((Int32.toNatClampNeg (x1 + (1 : Int32))) + 1) (Int32.toNatClampNeg x4)))) (fun T11 => bT (x3 + (1 : Int32)) (fun y12 => rec2 T11 x1 x2 y12)) else none) else none) else none) else none) else none) else none
def m_X5_spread_h2 (rec2 : TT → Int32 → Int32 → Int32 → Option (TT)) (T : TT) (x1 : Int32) (x2 : Int32) (x3 : Int32) : Option (TT) := if (3 : Int32) ≤ x3 then (some T) else ((v_left (T.2.2.2 6) x3 x2).bind (fun z2 => if x3 = 0 then ((m_X10_seasonOf ((T.2.1 6 3) + x1)).bind (fun z4 => (v_runs (T.2.2.2 6) z4 x2).bind (fun z5 => m_X5_spread_b43 rec2 T x1 x2 x3 z2 z5))) else (m_X5_spread_b43 rec2 T x1 x2 x3 z2 (0 : Int32))))
def m_X5_spread_l2 : Nat → TT → Int32 → Int32 → Int32 → Option (TT)
  | 0 => fun _ _ _ _ => none
  | n + 1 => fun T x1 x2 x3 => m_X5_spread_h2 (m_X5_spread_l2 n) T x1 x2 x3
def m_X5_spread (T : TT) (x1 : Int32) (x2 : Int32) : Option (TT) := m_X5_spread_l2 FU T x1 x2 (0 : Int32)
set_option maxHeartbeats 4000000 in
set_option maxRecDepth 100000 in
theorem k_X5_spread_b43 {B : KB} {X : KE} {rec2 : TT → Int32 → Int32 → Int32 → Option (TT)} {res : TT} (C : Cx B X "GriefEngine$Rows" cX5_spread 6 4) (E : Cr B X none none res) (hrec2 : ∀ (T : TT) (x1 : Int32) (x2 : Int32) (x3 : Int32), rec2 T x1 x2 x3 = some res → Wk B X 6 T 2 [(0, .ref (B.1 6 0)), (1, .int x1), (2, .int x2), (3, .int x3)] []) (T : TT) (x1 : Int32) (x2 : Int32) (x3 : Int32) (x4 : Int32) (s0 : Int32) (h : m_X5_spread_b43 rec2 T x1 x2 x3 x4 s0 = some res) : Wk B X 6 T 43 [(0, .ref (B.1 6 0)), (1, .int x1), (2, .int x2), (3, .int x3), (4, .int x4)] [.int s0] := by
  unfold m_X5_spread_b43 at h
  refine k_istore (pc := 43) C [(5, .int s0), (0, .ref (B.1 6 0)), (1, .int x1), (2, .int x2), (3, .int x3), (4, .int x4)] dX5_spread_43 (by decide) rfl ?_
  refine k_aload_n (pc := 45) C dX5_spread_45 1 rfl ?_
  refine gf_X5_11 (pc := 46) C dX5_spread_46 ?_
  refine k_iload_n (pc := 49) C dX5_spread_49 2 rfl ?_
  refine k_iconst (pc := 50) (v := (1 : Int32)) C dX5_spread_50 ciconst_1 ?_
  refine k_iadd (pc := 51) C dX5_spread_51 ?_
  refine k_qald (pc := 52) C iq_bef rfl rfl dX5_spread_52 h (fun hi8 h => ?_)
  refine k_iload (pc := 53) C dX5_spread_53 5 rfl ?_
  refine k_aload_n (pc := 55) C dX5_spread_55 1 rfl ?_
  refine gf_X5_11 (pc := 56) C dX5_spread_56 ?_
  refine k_iload_n (pc := 59) C dX5_spread_59 2 rfl ?_
  refine k_iconst (pc := 60) (v := (1 : Int32)) C dX5_spread_60 ciconst_1 ?_
  refine k_iadd (pc := 61) C dX5_spread_61 ?_
  refine k_qald (pc := 62) C iq_bef rfl rfl dX5_spread_62 h (fun hi9 h => ?_)
  refine k_iload (pc := 63) C dX5_spread_63 5 rfl ?_
  refine k_iald (pc := 65) C (ia_8 (inb_lt hi9)) dX5_spread_65 h (fun h => ?_)
  refine k_aload_n (pc := 66) C dX5_spread_66 1 rfl ?_
  refine gf_X5_11 (pc := 67) C dX5_spread_67 ?_
  refine k_iload_n (pc := 70) C dX5_spread_70 2 rfl ?_
  refine k_qald (pc := 71) C iq_bef rfl rfl dX5_spread_71 h (fun hi10 h => ?_)
  refine k_iload_n (pc := 72) C dX5_spread_72 3 rfl ?_
  refine k_iald (pc := 73) C (ia_8 (inb_lt hi10)) dX5_spread_73 h (fun h => ?_)
  refine k_iload (pc := 74) C dX5_spread_74 0 rfl ?_
  refine k_iadd (pc := 76) C dX5_spread_76 ?_
  refine k_mmax (pc := 77) C (by decide) tw3_78 tw3_14 tw1_17 tw3_15 (Nat.le_of_ble_eq_true rfl) dX5_spread_77 ?_
  refine k_iast (pc := 80) C (ia_8 (inb_lt hi8)) dX5_spread_80 h (fun h => ?_)
  refine k_nT h (fun T11 h => ?_)
  refine k_iincN (pc := 81) (x := x3) (c := (1 : Int32)) C (fun y12 => [(3, .int y12), (5, .int s0), (0, .ref (B.1 6 0)), (1, .int x1), (2, .int x2), (4, .int x4)]) dX5_spread_81 4 rfl ciconst_1 (by decide) (fun _ => rfl) h (fun y12 h => ?_)
  refine k_goto (pc := 84) C 2 dX5_spread_84 (by decide) ?_
  refine k_sub [2, 3, 4, 0] rfl ?_
  exact hrec2 T11 x1 x2 y12 h
set_option maxHeartbeats 4000000 in
set_option maxRecDepth 100000 in
theorem k_X5_spread_h2 {B : KB} {X : KE} {rec2 : TT → Int32 → Int32 → Int32 → Option (TT)} {res : TT} (C : Cx B X "GriefEngine$Rows" cX5_spread 6 4) (E : Cr B X none none res) (hrec2 : ∀ (T : TT) (x1 : Int32) (x2 : Int32) (x3 : Int32), rec2 T x1 x2 x3 = some res → Wk B X 6 T 2 [(0, .ref (B.1 6 0)), (1, .int x1), (2, .int x2), (3, .int x3)] []) (T : TT) (x1 : Int32) (x2 : Int32) (x3 : Int32) (h : m_X5_spread_h2 rec2 T x1 x2 x3 = some res) : Wk B X 6 T 2 [(0, .ref (B.1 6 0)), (1, .int x1), (2, .int x2), (3, .int x3)] [] := by
  unfold m_X5_spread_h2 at h
  refine k_iload_n (pc := 2) C dX5_spread_2 3 rfl ?_
  refine k_iconst (pc := 3) (v := (3 : Int32)) C dX5_spread_3 ciconst_3 ?_
  refine k_icmp_ge (pc := 4) C 87 dX5_spread_4 (by decide) h (fun c7 h => ?_) (fun c7 h => ?_)
  · exact k_vret (pc := 87) C E (some_i h) dX5_spread_87
  · refine k_aload_n (pc := 7) C dX5_spread_7 0 rfl ?_
    refine gf_X5_22 (pc := 8) C dX5_spread_8 (fun hq1 => ?_)
    refine k_iload_n (pc := 11) C dX5_spread_11 3 rfl ?_
    refine k_iload_n (pc := 12) C dX5_spread_12 2 rfl ?_
    obtain ⟨z2, e2, h⟩ := bnd h
    refine kv_left (pc := 13) C lk_X5_72 (by decide) hq1 e2 dX5_spread_13 (Nat.le_of_ble_eq_true rfl) ?_
    refine k_istore (pc := 16) C [(4, .int z2), (0, .ref (B.1 6 0)), (1, .int x1), (2, .int x2), (3, .int x3)] dX5_spread_16 (by decide) rfl ?_
    refine k_iload_n (pc := 18) C dX5_spread_18 4 rfl ?_
    refine k_if_ne (pc := 19) C 42 dX5_spread_19 (by decide) h (fun c6 h => ?_) (fun c6 h => ?_)
    · refine k_iconst (pc := 42) (v := (0 : Int32)) C dX5_spread_42 ciconst_0 ?_
      refine k_sub [1, 2, 3, 4, 0] rfl ?_
      exact k_X5_spread_b43 C E hrec2 T x1 x2 x3 z2 (0 : Int32) h
    · refine k_aload_n (pc := 22) C dX5_spread_22 1 rfl ?_
      refine gf_X5_22 (pc := 23) C dX5_spread_23 (fun hq3 => ?_)
      refine k_aload_n (pc := 26) C dX5_spread_26 1 rfl ?_
      refine gf_X5_40 (pc := 27) C dX5_spread_27 ?_
      refine k_iload_n (pc := 30) C dX5_spread_30 2 rfl ?_
      refine k_iadd (pc := 31) C dX5_spread_31 ?_
      obtain ⟨z4, e4, h⟩ := bnd h
      refine k_callsnI (pc := 32) (n := 1) C C.2.2.2.2.2.1.2.2.2.1 tw2_169 tw1_1 tw2_170 ⟨by decide, by decide, by decide +kernel⟩ (by decide) (by decide) (kc_X10_seasonOf e4) dX5_spread_32 rfl rfl (Nat.le_of_ble_eq_true rfl) ?_
      refine k_iload_n (pc := 35) C dX5_spread_35 3 rfl ?_
      obtain ⟨z5, e5, h⟩ := bnd h
      refine kv_runs (pc := 36) C lk_X5_79 (by decide) hq3 e5 dX5_spread_36 (Nat.le_of_ble_eq_true rfl) ?_
      refine k_goto (pc := 39) C 43 dX5_spread_39 (by decide) ?_
      refine k_sub [1, 2, 3, 4, 0] rfl ?_
      exact k_X5_spread_b43 C E hrec2 T x1 x2 x3 z2 z5 h
set_option maxHeartbeats 4000000 in
set_option maxRecDepth 100000 in
theorem k_X5_spread_l2 {B : KB} {X : KE} {res : TT} (C : Cx B X "GriefEngine$Rows" cX5_spread 6 4) (E : Cr B X none none res) : ∀ (n : Nat) (T : TT) (x1 : Int32) (x2 : Int32) (x3 : Int32) (h : m_X5_spread_l2 n T x1 x2 x3 = some res), Wk B X 6 T 2 [(0, .ref (B.1 6 0)), (1, .int x1), (2, .int x2), (3, .int x3)] [] := by
  intro n
  induction n with
  | zero =>
    intro T x1 x2 x3 h
    exact no_some h
  | succ n ih =>
    intro T x1 x2 x3 h
    exact k_X5_spread_h2 C E (fun T x1 x2 x3 h => ih T x1 x2 x3 h) T x1 x2 x3 h
set_option maxHeartbeats 4000000 in
set_option maxRecDepth 100000 in
theorem kc_X5_spread {B : KB} {l : Launch} {T : TT} {x1 : Int32} {x2 : Int32} {res : TT} (h : m_X5_spread T x1 x2 = some res) : Kt B l 4 yX5_spread cX5_spread 6 none T [.ref (B.1 6 0), .int x1, .int x2] none res := by
  refine Kt.of (by decide) (Nat.le_of_ble_eq_true rfl) (fun X hX C E => ?_)
  subst hX
  have C : Cx B X "GriefEngine$Rows" cX5_spread 6 4 := C
  show Wk B X 6 T 0 [(0, .ref (B.1 6 0)), (1, .int x1), (2, .int x2)] []
  unfold m_X5_spread at h
  refine k_iconst (pc := 0) (v := (0 : Int32)) C dX5_spread_0 ciconst_0 ?_
  refine k_istore_n (pc := 1) C [(3, .int (0 : Int32)), (0, .ref (B.1 6 0)), (1, .int x1), (2, .int x2)] dX5_spread_1 (by decide) rfl ?_
  refine k_sub [1, 2, 3, 0] rfl ?_
  exact k_X5_spread_l2 C E FU T x1 x2 (0 : Int32) h
def m_X5_reckonBefore_b87 (rec53 : TT → Int32 → Option (TT)) (rec63 : TT → Int32 → Int32 → Option (TT)) (T : TT) (x1 : Int32) (x2 : Int32) : Option (TT) := bT (x2 + (1 : Int32)) (fun y15 => rec63 T x1 y15)
def m_X5_reckonBefore_h63 (rec53 : TT → Int32 → Option (TT)) (rec63 : TT → Int32 → Int32 → Option (TT)) (T : TT) (x1 : Int32) (x2 : Int32) : Option (TT) := if (100 : Int32) ≤ x2 then (bT (x1 + (1 : Int32)) (fun y10 => rec53 T y10)) else (if inb x1 8 then (if inb x2 100 then (if (T.1 8 ((Int32.toNatClampNeg x1) + 1) (Int32.toNatClampNeg x2)) = (-1 : Int32) then (m_X5_reckonBefore_b87 rec53 rec63 T x1 x2) else ((m_X5_spread T x1 x2).bind (fun z12 => m_X5_reckonBefore_b87 rec53 rec63 z12 x1 x2))) else none) else none)
def m_X5_reckonBefore_l63 (rec53 : TT → Int32 → Option (TT)) : Nat → TT → Int32 → Int32 → Option (TT)
  | 0 => fun _ _ _ => none
  | n + 1 => fun T x1 x2 => m_X5_reckonBefore_h63 rec53 (m_X5_reckonBefore_l63 rec53 n) T x1 x2
def m_X5_reckonBefore_h53 (rec53 : TT → Int32 → Option (TT)) (T : TT) (x1 : Int32) : Option (TT) := if (T.2.1 6 5) ≤ x1 then (some T) else (m_X5_reckonBefore_l63 rec53 FU T x1 (0 : Int32))
def m_X5_reckonBefore_l53 : Nat → TT → Int32 → Option (TT)
  | 0 => fun _ _ => none
  | n + 1 => fun T x1 => m_X5_reckonBefore_h53 (m_X5_reckonBefore_l53 n) T x1
def m_X5_reckonBefore_h12 (rec2 : TT → Int32 → Option (TT)) (rec12 : TT → Int32 → Int32 → Option (TT)) (T : TT) (x1 : Int32) (x2 : Int32) : Option (TT) := if (100 : Int32) ≤ x2 then (bT (x1 + (1 : Int32)) (fun y4 => rec2 T y4)) else (if inb x1 8 then (if inb x2 100 then bT (sA T 8 ((Int32.toNatClampNeg x1) + 1) (Int32.toNatClampNeg x2) (-1 : Int32)) (fun T6 => bT (x2 + (1 : Int32)) (fun y7 => rec12 T6 x1 y7)) else none) else none)
def m_X5_reckonBefore_l12 (rec2 : TT → Int32 → Option (TT)) : Nat → TT → Int32 → Int32 → Option (TT)
  | 0 => fun _ _ _ => none
  | n + 1 => fun T x1 x2 => m_X5_reckonBefore_h12 rec2 (m_X5_reckonBefore_l12 rec2 n) T x1 x2
def m_X5_reckonBefore_h2 (rec2 : TT → Int32 → Option (TT)) (T : TT) (x1 : Int32) : Option (TT) := if (T.2.1 6 5) < x1 then (if inb (0 : Int32) 8 then (if inb (T.2.1 6 4) 100 then bT (sA T 8 ((Int32.toNatClampNeg (0 : Int32)) + 1) (Int32.toNatClampNeg (T.2.1 6 4)) (0 : Int32)) (fun T2 => m_X5_reckonBefore_l53 FU T2 (0 : Int32)) else none) else none) else (m_X5_reckonBefore_l12 rec2 FU T x1 (0 : Int32))
def m_X5_reckonBefore_l2 : Nat → TT → Int32 → Option (TT)
  | 0 => fun _ _ => none
  | n + 1 => fun T x1 => m_X5_reckonBefore_h2 (m_X5_reckonBefore_l2 n) T x1
def m_X5_reckonBefore (T : TT) : Option (TT) := m_X5_reckonBefore_l2 FU T (0 : Int32)
set_option maxHeartbeats 4000000 in
set_option maxRecDepth 100000 in
theorem k_X5_reckonBefore_b87 {B : KB} {X : KE} {rec53 : TT → Int32 → Option (TT)} {rec63 : TT → Int32 → Int32 → Option (TT)} {res : TT} (C : Cx B X "GriefEngine$Rows" cX5_reckonBefore 3 5) (E : Cr B X none none res) (hrec53 : ∀ (T : TT) (x1 : Int32), rec53 T x1 = some res → Wk B X 3 T 53 [(0, .ref (B.1 6 0)), (1, .int x1)] []) (hrec63 : ∀ (T : TT) (x1 : Int32) (x2 : Int32), rec63 T x1 x2 = some res → Wk B X 3 T 63 [(0, .ref (B.1 6 0)), (1, .int x1), (2, .int x2)] []) (T : TT) (x1 : Int32) (x2 : Int32) (h : m_X5_reckonBefore_b87 rec53 rec63 T x1 x2 = some res) : Wk B X 3 T 87 [(0, .ref (B.1 6 0)), (1, .int x1), (2, .int x2)] [] := by
  unfold m_X5_reckonBefore_b87 at h
  refine k_iincN (pc := 87) (x := x2) (c := (1 : Int32)) C (fun y15 => [(2, .int y15), (0, .ref (B.1 6 0)), (1, .int x1)]) dX5_reckonBefore_87 2 rfl ciconst_1 (by decide) (fun _ => rfl) h (fun y15 h => ?_)
  refine k_goto (pc := 90) C 63 dX5_reckonBefore_90 (by decide) ?_
  refine k_sub [1, 2, 0] rfl ?_
  exact hrec63 T x1 y15 h
set_option maxHeartbeats 4000000 in
set_option maxRecDepth 100000 in
theorem k_X5_reckonBefore_h63 {B : KB} {X : KE} {rec53 : TT → Int32 → Option (TT)} {rec63 : TT → Int32 → Int32 → Option (TT)} {res : TT} (C : Cx B X "GriefEngine$Rows" cX5_reckonBefore 3 5) (E : Cr B X none none res) (hrec53 : ∀ (T : TT) (x1 : Int32), rec53 T x1 = some res → Wk B X 3 T 53 [(0, .ref (B.1 6 0)), (1, .int x1)] []) (hrec63 : ∀ (T : TT) (x1 : Int32) (x2 : Int32), rec63 T x1 x2 = some res → Wk B X 3 T 63 [(0, .ref (B.1 6 0)), (1, .int x1), (2, .int x2)] []) (T : TT) (x1 : Int32) (x2 : Int32) (h : m_X5_reckonBefore_h63 rec53 rec63 T x1 x2 = some res) : Wk B X 3 T 63 [(0, .ref (B.1 6 0)), (1, .int x1), (2, .int x2)] [] := by
  unfold m_X5_reckonBefore_h63 at h
  refine k_iload_n (pc := 63) C dX5_reckonBefore_63 2 rfl ?_
  refine k_bipush (pc := 64) (v := (100 : Int32)) C dX5_reckonBefore_64 cbipush_100 ?_
  refine k_icmp_ge (pc := 66) C 93 dX5_reckonBefore_66 (by decide) h (fun c14 h => ?_) (fun c14 h => ?_)
  · refine k_iincN (pc := 93) (x := x1) (c := (1 : Int32)) C (fun y10 => [(1, .int y10), (0, .ref (B.1 6 0)), (2, .int x2)]) dX5_reckonBefore_93 1 rfl ciconst_1 (by decide) (fun _ => rfl) h (fun y10 h => ?_)
    refine k_goto (pc := 96) C 53 dX5_reckonBefore_96 (by decide) ?_
    refine k_sub [1, 0] rfl ?_
    exact hrec53 T y10 h
  · refine k_aload_n (pc := 69) C dX5_reckonBefore_69 0 rfl ?_
    refine gf_X5_11 (pc := 70) C dX5_reckonBefore_70 ?_
    refine k_iload_n (pc := 73) C dX5_reckonBefore_73 1 rfl ?_
    refine k_qald (pc := 74) C iq_bef rfl rfl dX5_reckonBefore_74 h (fun hi11 h => ?_)
    refine k_iload_n (pc := 75) C dX5_reckonBefore_75 2 rfl ?_
    refine k_iald (pc := 76) C (ia_8 (inb_lt hi11)) dX5_reckonBefore_76 h (fun h => ?_)
    refine k_iconst (pc := 77) (v := (-1 : Int32)) C dX5_reckonBefore_77 ciconst_m1 ?_
    refine k_icmp_eq (pc := 78) C 87 dX5_reckonBefore_78 (by decide) h (fun c13 h => ?_) (fun c13 h => ?_)
    · refine k_sub [0, 1, 2] rfl ?_
      exact k_X5_reckonBefore_b87 C E hrec53 hrec63 T x1 x2 h
    · refine k_aload_n (pc := 81) C dX5_reckonBefore_81 0 rfl ?_
      refine k_iload_n (pc := 82) C dX5_reckonBefore_82 1 rfl ?_
      refine k_iload_n (pc := 83) C dX5_reckonBefore_83 2 rfl ?_
      obtain ⟨z12, e12, h⟩ := bnd h
      refine k_callvV (pc := 84) C lk_X5_68 (by decide) ix_X5 wo_X5 rfl rfl (kc_X5_spread e12) dX5_reckonBefore_84 rfl rfl (Nat.le_of_ble_eq_true rfl) ?_
      refine k_sub [0, 1, 2] rfl ?_
      exact k_X5_reckonBefore_b87 C E hrec53 hrec63 z12 x1 x2 h
set_option maxHeartbeats 4000000 in
set_option maxRecDepth 100000 in
theorem k_X5_reckonBefore_l63 {B : KB} {X : KE} {rec53 : TT → Int32 → Option (TT)} {res : TT} (C : Cx B X "GriefEngine$Rows" cX5_reckonBefore 3 5) (E : Cr B X none none res) (hrec53 : ∀ (T : TT) (x1 : Int32), rec53 T x1 = some res → Wk B X 3 T 53 [(0, .ref (B.1 6 0)), (1, .int x1)] []) : ∀ (n : Nat) (T : TT) (x1 : Int32) (x2 : Int32) (h : m_X5_reckonBefore_l63 rec53 n T x1 x2 = some res), Wk B X 3 T 63 [(0, .ref (B.1 6 0)), (1, .int x1), (2, .int x2)] [] := by
  intro n
  induction n with
  | zero =>
    intro T x1 x2 h
    exact no_some h
  | succ n ih =>
    intro T x1 x2 h
    exact k_X5_reckonBefore_h63 C E hrec53 (fun T x1 x2 h => ih T x1 x2 h) T x1 x2 h
set_option maxHeartbeats 4000000 in
set_option maxRecDepth 100000 in
theorem k_X5_reckonBefore_h53 {B : KB} {X : KE} {rec53 : TT → Int32 → Option (TT)} {res : TT} (C : Cx B X "GriefEngine$Rows" cX5_reckonBefore 3 5) (E : Cr B X none none res) (hrec53 : ∀ (T : TT) (x1 : Int32), rec53 T x1 = some res → Wk B X 3 T 53 [(0, .ref (B.1 6 0)), (1, .int x1)] []) (T : TT) (x1 : Int32) (h : m_X5_reckonBefore_h53 rec53 T x1 = some res) : Wk B X 3 T 53 [(0, .ref (B.1 6 0)), (1, .int x1)] [] := by
  unfold m_X5_reckonBefore_h53 at h
  refine k_iload_n (pc := 53) C dX5_reckonBefore_53 1 rfl ?_
  refine k_aload_n (pc := 54) C dX5_reckonBefore_54 0 rfl ?_
  refine gf_X5_59 (pc := 55) C dX5_reckonBefore_55 ?_
  refine k_icmp_ge (pc := 58) C 99 dX5_reckonBefore_58 (by decide) h (fun c9 h => ?_) (fun c9 h => ?_)
  · exact k_vret (pc := 99) C E (some_i h) dX5_reckonBefore_99
  · refine k_iconst (pc := 61) (v := (0 : Int32)) C dX5_reckonBefore_61 ciconst_0 ?_
    refine k_istore_n (pc := 62) C [(2, .int (0 : Int32)), (0, .ref (B.1 6 0)), (1, .int x1)] dX5_reckonBefore_62 (by decide) rfl ?_
    refine k_sub [1, 2, 0] rfl ?_
    exact k_X5_reckonBefore_l63 C E hrec53 FU T x1 (0 : Int32) h
set_option maxHeartbeats 4000000 in
set_option maxRecDepth 100000 in
theorem k_X5_reckonBefore_l53 {B : KB} {X : KE} {res : TT} (C : Cx B X "GriefEngine$Rows" cX5_reckonBefore 3 5) (E : Cr B X none none res) : ∀ (n : Nat) (T : TT) (x1 : Int32) (h : m_X5_reckonBefore_l53 n T x1 = some res), Wk B X 3 T 53 [(0, .ref (B.1 6 0)), (1, .int x1)] [] := by
  intro n
  induction n with
  | zero =>
    intro T x1 h
    exact no_some h
  | succ n ih =>
    intro T x1 h
    exact k_X5_reckonBefore_h53 C E (fun T x1 h => ih T x1 h) T x1 h
set_option maxHeartbeats 4000000 in
set_option maxRecDepth 100000 in
theorem k_X5_reckonBefore_h12 {B : KB} {X : KE} {rec2 : TT → Int32 → Option (TT)} {rec12 : TT → Int32 → Int32 → Option (TT)} {res : TT} (C : Cx B X "GriefEngine$Rows" cX5_reckonBefore 3 5) (E : Cr B X none none res) (hrec2 : ∀ (T : TT) (x1 : Int32), rec2 T x1 = some res → Wk B X 3 T 2 [(0, .ref (B.1 6 0)), (1, .int x1)] []) (hrec12 : ∀ (T : TT) (x1 : Int32) (x2 : Int32), rec12 T x1 x2 = some res → Wk B X 3 T 12 [(0, .ref (B.1 6 0)), (1, .int x1), (2, .int x2)] []) (T : TT) (x1 : Int32) (x2 : Int32) (h : m_X5_reckonBefore_h12 rec2 rec12 T x1 x2 = some res) : Wk B X 3 T 12 [(0, .ref (B.1 6 0)), (1, .int x1), (2, .int x2)] [] := by
  unfold m_X5_reckonBefore_h12 at h
  refine k_iload_n (pc := 12) C dX5_reckonBefore_12 2 rfl ?_
  refine k_bipush (pc := 13) (v := (100 : Int32)) C dX5_reckonBefore_13 cbipush_100 ?_
  refine k_icmp_ge (pc := 15) C 33 dX5_reckonBefore_15 (by decide) h (fun c8 h => ?_) (fun c8 h => ?_)
  · refine k_iincN (pc := 33) (x := x1) (c := (1 : Int32)) C (fun y4 => [(1, .int y4), (0, .ref (B.1 6 0)), (2, .int x2)]) dX5_reckonBefore_33 1 rfl ciconst_1 (by decide) (fun _ => rfl) h (fun y4 h => ?_)
    refine k_goto (pc := 36) C 2 dX5_reckonBefore_36 (by decide) ?_
    refine k_sub [1, 0] rfl ?_
    exact hrec2 T y4 h
  · refine k_aload_n (pc := 18) C dX5_reckonBefore_18 0 rfl ?_
    refine gf_X5_11 (pc := 19) C dX5_reckonBefore_19 ?_
    refine k_iload_n (pc := 22) C dX5_reckonBefore_22 1 rfl ?_
    refine k_qald (pc := 23) C iq_bef rfl rfl dX5_reckonBefore_23 h (fun hi5 h => ?_)
    refine k_iload_n (pc := 24) C dX5_reckonBefore_24 2 rfl ?_
    refine k_iconst (pc := 25) (v := (-1 : Int32)) C dX5_reckonBefore_25 ciconst_m1 ?_
    refine k_iast (pc := 26) C (ia_8 (inb_lt hi5)) dX5_reckonBefore_26 h (fun h => ?_)
    refine k_nT h (fun T6 h => ?_)
    refine k_iincN (pc := 27) (x := x2) (c := (1 : Int32)) C (fun y7 => [(2, .int y7), (0, .ref (B.1 6 0)), (1, .int x1)]) dX5_reckonBefore_27 2 rfl ciconst_1 (by decide) (fun _ => rfl) h (fun y7 h => ?_)
    refine k_goto (pc := 30) C 12 dX5_reckonBefore_30 (by decide) ?_
    refine k_sub [1, 2, 0] rfl ?_
    exact hrec12 T6 x1 y7 h
set_option maxHeartbeats 4000000 in
set_option maxRecDepth 100000 in
theorem k_X5_reckonBefore_l12 {B : KB} {X : KE} {rec2 : TT → Int32 → Option (TT)} {res : TT} (C : Cx B X "GriefEngine$Rows" cX5_reckonBefore 3 5) (E : Cr B X none none res) (hrec2 : ∀ (T : TT) (x1 : Int32), rec2 T x1 = some res → Wk B X 3 T 2 [(0, .ref (B.1 6 0)), (1, .int x1)] []) : ∀ (n : Nat) (T : TT) (x1 : Int32) (x2 : Int32) (h : m_X5_reckonBefore_l12 rec2 n T x1 x2 = some res), Wk B X 3 T 12 [(0, .ref (B.1 6 0)), (1, .int x1), (2, .int x2)] [] := by
  intro n
  induction n with
  | zero =>
    intro T x1 x2 h
    exact no_some h
  | succ n ih =>
    intro T x1 x2 h
    exact k_X5_reckonBefore_h12 C E hrec2 (fun T x1 x2 h => ih T x1 x2 h) T x1 x2 h
set_option maxHeartbeats 4000000 in
set_option maxRecDepth 100000 in
theorem k_X5_reckonBefore_h2 {B : KB} {X : KE} {rec2 : TT → Int32 → Option (TT)} {res : TT} (C : Cx B X "GriefEngine$Rows" cX5_reckonBefore 3 5) (E : Cr B X none none res) (hrec2 : ∀ (T : TT) (x1 : Int32), rec2 T x1 = some res → Wk B X 3 T 2 [(0, .ref (B.1 6 0)), (1, .int x1)] []) (T : TT) (x1 : Int32) (h : m_X5_reckonBefore_h2 rec2 T x1 = some res) : Wk B X 3 T 2 [(0, .ref (B.1 6 0)), (1, .int x1)] [] := by
  unfold m_X5_reckonBefore_h2 at h
  refine k_iload_n (pc := 2) C dX5_reckonBefore_2 1 rfl ?_
  refine k_aload_n (pc := 3) C dX5_reckonBefore_3 0 rfl ?_
  refine gf_X5_59 (pc := 4) C dX5_reckonBefore_4 ?_
  refine k_icmp_gt (pc := 7) C 39 dX5_reckonBefore_7 (by decide) h (fun c3 h => ?_) (fun c3 h => ?_)
  · refine k_aload_n (pc := 39) C dX5_reckonBefore_39 0 rfl ?_
    refine gf_X5_11 (pc := 40) C dX5_reckonBefore_40 ?_
    refine k_iconst (pc := 43) (v := (0 : Int32)) C dX5_reckonBefore_43 ciconst_0 ?_
    refine k_qald (pc := 44) C iq_bef rfl rfl dX5_reckonBefore_44 h (fun hi1 h => ?_)
    refine k_aload_n (pc := 45) C dX5_reckonBefore_45 0 rfl ?_
    refine gf_X5_56 (pc := 46) C dX5_reckonBefore_46 ?_
    refine k_iconst (pc := 49) (v := (0 : Int32)) C dX5_reckonBefore_49 ciconst_0 ?_
    refine k_iast (pc := 50) C (ia_8 (inb_lt hi1)) dX5_reckonBefore_50 h (fun h => ?_)
    refine k_nT h (fun T2 h => ?_)
    refine k_iconst (pc := 51) (v := (0 : Int32)) C dX5_reckonBefore_51 ciconst_0 ?_
    refine k_istore_n (pc := 52) C [(1, .int (0 : Int32)), (0, .ref (B.1 6 0))] dX5_reckonBefore_52 (by decide) rfl ?_
    refine k_sub [1, 0] rfl ?_
    exact k_X5_reckonBefore_l53 C E FU T2 (0 : Int32) h
  · refine k_iconst (pc := 10) (v := (0 : Int32)) C dX5_reckonBefore_10 ciconst_0 ?_
    refine k_istore_n (pc := 11) C [(2, .int (0 : Int32)), (0, .ref (B.1 6 0)), (1, .int x1)] dX5_reckonBefore_11 (by decide) rfl ?_
    refine k_sub [1, 2, 0] rfl ?_
    exact k_X5_reckonBefore_l12 C E hrec2 FU T x1 (0 : Int32) h
set_option maxHeartbeats 4000000 in
set_option maxRecDepth 100000 in
theorem k_X5_reckonBefore_l2 {B : KB} {X : KE} {res : TT} (C : Cx B X "GriefEngine$Rows" cX5_reckonBefore 3 5) (E : Cr B X none none res) : ∀ (n : Nat) (T : TT) (x1 : Int32) (h : m_X5_reckonBefore_l2 n T x1 = some res), Wk B X 3 T 2 [(0, .ref (B.1 6 0)), (1, .int x1)] [] := by
  intro n
  induction n with
  | zero =>
    intro T x1 h
    exact no_some h
  | succ n ih =>
    intro T x1 h
    exact k_X5_reckonBefore_h2 C E (fun T x1 h => ih T x1 h) T x1 h
set_option maxHeartbeats 4000000 in
set_option maxRecDepth 100000 in
theorem kc_X5_reckonBefore {B : KB} {l : Launch} {T : TT} {res : TT} (h : m_X5_reckonBefore T = some res) : Kt B l 5 yX5_reckonBefore cX5_reckonBefore 3 none T [.ref (B.1 6 0)] none res := by
  refine Kt.of (by decide) (Nat.le_of_ble_eq_true rfl) (fun X hX C E => ?_)
  subst hX
  have C : Cx B X "GriefEngine$Rows" cX5_reckonBefore 3 5 := C
  show Wk B X 3 T 0 [(0, .ref (B.1 6 0))] []
  unfold m_X5_reckonBefore at h
  refine k_iconst (pc := 0) (v := (0 : Int32)) C dX5_reckonBefore_0 ciconst_0 ?_
  refine k_istore_n (pc := 1) C [(1, .int (0 : Int32)), (0, .ref (B.1 6 0))] dX5_reckonBefore_1 (by decide) rfl ?_
  refine k_sub [1, 0] rfl ?_
  exact k_X5_reckonBefore_l2 C E FU T (0 : Int32) h
def m_X5_milesBy_b25 (T : TT) (x1 : Int32) (x2 : Int32) (x3 : Int32) (s0 : Int32) : Option (Int32) := if inb (x1 + (1 : Int32)) 8 then ((v_left (T.2.2.2 6) x3 x2).bind (fun z7 => if inb z7 100 then (some (s0 + (T.1 9 ((Int32.toNatClampNeg (x1 + (1 : Int32))) + 1) (Int32.toNatClampNeg z7)))) else none)) else none
def m_X5_milesBy (T : TT) (x1 : Int32) (x2 : Int32) (x3 : Int32) : Option (Int32) := if x3 = 0 then ((m_X10_seasonOf ((T.2.1 6 3) + x1)).bind (fun z2 => (v_runs (T.2.2.2 6) z2 x2).bind (fun z3 => m_X5_milesBy_b25 T x1 x2 x3 z3))) else (m_X5_milesBy_b25 T x1 x2 x3 (0 : Int32))
set_option maxHeartbeats 4000000 in
set_option maxRecDepth 100000 in
theorem k_X5_milesBy_b25 {B : KB} {X : KE} {T : TT} {res : Int32} (C : Cx B X "GriefEngine$Rows" cX5_milesBy 5 4) (E : Cr B X (some .int) (some (.int res)) T) (x1 : Int32) (x2 : Int32) (x3 : Int32) (s0 : Int32) (h : m_X5_milesBy_b25 T x1 x2 x3 s0 = some res) : Wk B X 5 T 25 [(0, .ref (B.1 6 0)), (1, .int x1), (2, .int x2), (3, .int x3)] [.int s0] := by
  unfold m_X5_milesBy_b25 at h
  refine k_istore (pc := 25) C [(4, .int s0), (0, .ref (B.1 6 0)), (1, .int x1), (2, .int x2), (3, .int x3)] dX5_milesBy_25 (by decide) rfl ?_
  refine k_iload (pc := 27) C dX5_milesBy_27 0 rfl ?_
  refine k_aload_n (pc := 29) C dX5_milesBy_29 1 rfl ?_
  refine gf_X5_16 (pc := 30) C dX5_milesBy_30 ?_
  refine k_iload_n (pc := 33) C dX5_milesBy_33 2 rfl ?_
  refine k_iconst (pc := 34) (v := (1 : Int32)) C dX5_milesBy_34 ciconst_1 ?_
  refine k_iadd (pc := 35) C dX5_milesBy_35 ?_
  refine k_qald (pc := 36) C iq_aft rfl rfl dX5_milesBy_36 h (fun hi5 h => ?_)
  refine k_aload_n (pc := 37) C dX5_milesBy_37 1 rfl ?_
  refine gf_X5_22 (pc := 38) C dX5_milesBy_38 (fun hq6 => ?_)
  refine k_iload_n (pc := 41) C dX5_milesBy_41 4 rfl ?_
  refine k_iload_n (pc := 42) C dX5_milesBy_42 3 rfl ?_
  obtain ⟨z7, e7, h⟩ := bnd h
  refine kv_left (pc := 43) C lk_X5_72 (by decide) hq6 e7 dX5_milesBy_43 (Nat.le_of_ble_eq_true rfl) ?_
  refine k_iald (pc := 46) C (ia_9 (inb_lt hi5)) dX5_milesBy_46 h (fun h => ?_)
  refine k_iadd (pc := 47) C dX5_milesBy_47 ?_
  exact k_iret (pc := 48) C E (some_i h) rfl dX5_milesBy_48
set_option maxHeartbeats 4000000 in
set_option maxRecDepth 100000 in
theorem kc_X5_milesBy {B : KB} {l : Launch} {T : TT} {x1 : Int32} {x2 : Int32} {x3 : Int32} {res : Int32} (h : m_X5_milesBy T x1 x2 x3 = some res) : Kt B l 4 yX5_milesBy cX5_milesBy 5 (some .int) T [.ref (B.1 6 0), .int x1, .int x2, .int x3] (some (.int res)) T := by
  refine Kt.of (by decide) (Nat.le_of_ble_eq_true rfl) (fun X hX C E => ?_)
  subst hX
  have C : Cx B X "GriefEngine$Rows" cX5_milesBy 5 4 := C
  show Wk B X 5 T 0 [(0, .ref (B.1 6 0)), (1, .int x1), (2, .int x2), (3, .int x3)] []
  unfold m_X5_milesBy at h
  refine k_iload_n (pc := 0) C dX5_milesBy_0 3 rfl ?_
  refine k_if_ne (pc := 1) C 24 dX5_milesBy_1 (by decide) h (fun c4 h => ?_) (fun c4 h => ?_)
  · refine k_iconst (pc := 24) (v := (0 : Int32)) C dX5_milesBy_24 ciconst_0 ?_
    refine k_sub [0, 1, 2, 3] rfl ?_
    exact k_X5_milesBy_b25 C E x1 x2 x3 (0 : Int32) h
  · refine k_aload_n (pc := 4) C dX5_milesBy_4 0 rfl ?_
    refine gf_X5_22 (pc := 5) C dX5_milesBy_5 (fun hq1 => ?_)
    refine k_aload_n (pc := 8) C dX5_milesBy_8 0 rfl ?_
    refine gf_X5_40 (pc := 9) C dX5_milesBy_9 ?_
    refine k_iload_n (pc := 12) C dX5_milesBy_12 1 rfl ?_
    refine k_iadd (pc := 13) C dX5_milesBy_13 ?_
    obtain ⟨z2, e2, h⟩ := bnd h
    refine k_callsnI (pc := 14) (n := 1) C C.2.2.2.2.2.1.2.2.2.1 tw2_169 tw1_1 tw2_170 ⟨by decide, by decide, by decide +kernel⟩ (by decide) (by decide) (kc_X10_seasonOf e2) dX5_milesBy_14 rfl rfl (Nat.le_of_ble_eq_true rfl) ?_
    refine k_iload_n (pc := 17) C dX5_milesBy_17 2 rfl ?_
    obtain ⟨z3, e3, h⟩ := bnd h
    refine kv_runs (pc := 18) C lk_X5_79 (by decide) hq1 e3 dX5_milesBy_18 (Nat.le_of_ble_eq_true rfl) ?_
    refine k_goto (pc := 21) C 25 dX5_milesBy_21 (by decide) ?_
    refine k_sub [0, 1, 2, 3] rfl ?_
    exact k_X5_milesBy_b25 C E x1 x2 x3 z3 h
