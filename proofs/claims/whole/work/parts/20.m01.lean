def m_X4_copyFrom (T : TT) (g : Nat) (g2 : Nat) : Option (TT) := if ¬ (0 : Int32) < 0 ∧ ¬ (0 : Int32) < 0 ∧ ¬ (6 : Int32) < 0 ∧ Int32.toNatClampNeg (0 : Int32) + Int32.toNatClampNeg (6 : Int32) ≤ 6 ∧ Int32.toNatClampNeg (0 : Int32) + Int32.toNatClampNeg (6 : Int32) ≤ 6 then bT (cpA T g2 2 (Int32.toNatClampNeg (0 : Int32)) g 2 (Int32.toNatClampNeg (0 : Int32)) (Int32.toNatClampNeg (6 : Int32))) (fun T1 => if ¬ (0 : Int32) < 0 ∧ ¬ (0 : Int32) < 0 ∧ ¬ (6 : Int32) < 0 ∧ Int32.toNatClampNeg (0 : Int32) + Int32.toNatClampNeg (6 : Int32) ≤ 6 ∧ Int32.toNatClampNeg (0 : Int32) + Int32.toNatClampNeg (6 : Int32) ≤ 6 then bT (cpA T1 g2 3 (Int32.toNatClampNeg (0 : Int32)) g 3 (Int32.toNatClampNeg (0 : Int32)) (Int32.toNatClampNeg (6 : Int32))) (fun T2 => if ¬ (0 : Int32) < 0 ∧ ¬ (0 : Int32) < 0 ∧ ¬ (6 : Int32) < 0 ∧ Int32.toNatClampNeg (0 : Int32) + Int32.toNatClampNeg (6 : Int32) ≤ 6 ∧ Int32.toNatClampNeg (0 : Int32) + Int32.toNatClampNeg (6 : Int32) ≤ 6 then bT (cpA T2 g2 4 (Int32.toNatClampNeg (0 : Int32)) g 4 (Int32.toNatClampNeg (0 : Int32)) (Int32.toNatClampNeg (6 : Int32))) (fun T3 => if ¬ (0 : Int32) < 0 ∧ ¬ (0 : Int32) < 0 ∧ ¬ (36 : Int32) < 0 ∧ Int32.toNatClampNeg (0 : Int32) + Int32.toNatClampNeg (36 : Int32) ≤ 36 ∧ Int32.toNatClampNeg (0 : Int32) + Int32.toNatClampNeg (36 : Int32) ≤ 36 then bT (cpA T3 g2 5 (Int32.toNatClampNeg (0 : Int32)) g 5 (Int32.toNatClampNeg (0 : Int32)) (Int32.toNatClampNeg (36 : Int32))) (fun T4 => if ¬ (0 : Int32) < 0 ∧ ¬ (0 : Int32) < 0 ∧ ¬ (12 : Int32) < 0 ∧ Int32.toNatClampNeg (0 : Int32) + Int32.toNatClampNeg (12 : Int32) ≤ 12 ∧ Int32.toNatClampNeg (0 : Int32) + Int32.toNatClampNeg (12 : Int32) ≤ 12 then bT (cpA T4 g2 6 (Int32.toNatClampNeg (0 : Int32)) g 6 (Int32.toNatClampNeg (0 : Int32)) (Int32.toNatClampNeg (12 : Int32))) (fun T5 => if ¬ (0 : Int32) < 0 ∧ ¬ (0 : Int32) < 0 ∧ ¬ (104 : Int32) < 0 ∧ Int32.toNatClampNeg (0 : Int32) + Int32.toNatClampNeg (104 : Int32) ≤ 104 ∧ Int32.toNatClampNeg (0 : Int32) + Int32.toNatClampNeg (104 : Int32) ≤ 104 then bT (cpA T5 g2 7 (Int32.toNatClampNeg (0 : Int32)) g 7 (Int32.toNatClampNeg (0 : Int32)) (Int32.toNatClampNeg (104 : Int32))) (fun T6 => bT (sI T6 g 7 (T6.2.1 g2 7)) (fun T7 => bT (sI T7 g 8 (T7.2.1 g2 8)) (fun T8 => bT (sI T8 g 9 (T8.2.1 g2 9)) (fun T9 => bT (sI T9 g 10 (T9.2.1 g2 10)) (fun T10 => bT (sI T10 g 11 (T10.2.1 g2 11)) (fun T11 => some T11)))))) else none) else none) else none) else none) else none) else none
set_option maxHeartbeats 4000000 in
set_option maxRecDepth 100000 in
theorem kc_X4_copyFrom {B : KB} {l : Launch} {T : TT} {g : Nat} {g2 : Nat} {res : TT} (hg : g < 4) (hg2 : g2 < 4) (h : m_X4_copyFrom T g g2 = some res) : Kt B l 1 yX4_copyFrom cX4_copyFrom 2 none T [.ref (B.1 g 0), .ref (B.1 g2 0)] none res := by
  refine Kt.of (by decide) (Nat.le_of_ble_eq_true rfl) (fun X hX C E => ?_)
  subst hX
  have C : Cx B X "GriefEngine$Rank" cX4_copyFrom 2 1 := C
  show Wk B X 2 T 0 [(0, .ref (B.1 g 0)), (1, .ref (B.1 g2 0))] []
  unfold m_X4_copyFrom at h
  refine k_aload_n (pc := 0) C dX4_copyFrom_0 1 rfl ?_
  refine gf_X4_33 (pc := 1) C hg2 dX4_copyFrom_1 ?_
  refine k_iconst (pc := 4) (v := (0 : Int32)) C dX4_copyFrom_4 ciconst_0 ?_
  refine k_aload_n (pc := 5) C dX4_copyFrom_5 0 rfl ?_
  refine gf_X4_33 (pc := 6) C hg dX4_copyFrom_6 ?_
  refine k_iconst (pc := 9) (v := (0 : Int32)) C dX4_copyFrom_9 ciconst_0 ?_
  refine k_bipush (pc := 10) (v := (6 : Int32)) C dX4_copyFrom_10 cbipush_6 ?_
  refine k_copy (pc := 12) C (by decide) (ia_R2 hg2) (ia_R2 hg) tw3_20 tw3_22 tw3_21 tw1_18 (Nat.le_of_ble_eq_true rfl) dX4_copyFrom_12 h (fun h => ?_)
  refine k_nT h (fun T1 h => ?_)
  refine k_aload_n (pc := 15) C dX4_copyFrom_15 1 rfl ?_
  refine gf_X4_37 (pc := 16) C hg2 dX4_copyFrom_16 ?_
  refine k_iconst (pc := 19) (v := (0 : Int32)) C dX4_copyFrom_19 ciconst_0 ?_
  refine k_aload_n (pc := 20) C dX4_copyFrom_20 0 rfl ?_
  refine gf_X4_37 (pc := 21) C hg dX4_copyFrom_21 ?_
  refine k_iconst (pc := 24) (v := (0 : Int32)) C dX4_copyFrom_24 ciconst_0 ?_
  refine k_bipush (pc := 25) (v := (6 : Int32)) C dX4_copyFrom_25 cbipush_6 ?_
  refine k_copy (pc := 27) C (by decide) (ia_R3 hg2) (ia_R3 hg) tw3_20 tw3_22 tw3_21 tw1_18 (Nat.le_of_ble_eq_true rfl) dX4_copyFrom_27 h (fun h => ?_)
  refine k_nT h (fun T2 h => ?_)
  refine k_aload_n (pc := 30) C dX4_copyFrom_30 1 rfl ?_
  refine gf_X4_40 (pc := 31) C hg2 dX4_copyFrom_31 ?_
  refine k_iconst (pc := 34) (v := (0 : Int32)) C dX4_copyFrom_34 ciconst_0 ?_
  refine k_aload_n (pc := 35) C dX4_copyFrom_35 0 rfl ?_
  refine gf_X4_40 (pc := 36) C hg dX4_copyFrom_36 ?_
  refine k_iconst (pc := 39) (v := (0 : Int32)) C dX4_copyFrom_39 ciconst_0 ?_
  refine k_bipush (pc := 40) (v := (6 : Int32)) C dX4_copyFrom_40 cbipush_6 ?_
  refine k_copy (pc := 42) C (by decide) (ia_R4 hg2) (ia_R4 hg) tw3_20 tw3_22 tw3_21 tw1_18 (Nat.le_of_ble_eq_true rfl) dX4_copyFrom_42 h (fun h => ?_)
  refine k_nT h (fun T3 h => ?_)
  refine k_aload_n (pc := 45) C dX4_copyFrom_45 1 rfl ?_
  refine gf_X4_43 (pc := 46) C hg2 dX4_copyFrom_46 ?_
  refine k_iconst (pc := 49) (v := (0 : Int32)) C dX4_copyFrom_49 ciconst_0 ?_
  refine k_aload_n (pc := 50) C dX4_copyFrom_50 0 rfl ?_
  refine gf_X4_43 (pc := 51) C hg dX4_copyFrom_51 ?_
  refine k_iconst (pc := 54) (v := (0 : Int32)) C dX4_copyFrom_54 ciconst_0 ?_
  refine k_aload_n (pc := 55) C dX4_copyFrom_55 0 rfl ?_
  refine gf_X4_43 (pc := 56) C hg dX4_copyFrom_56 ?_
  refine k_ilen (pc := 59) C (ia_R5 hg) (36 : Int32) dX4_copyFrom_59 (by decide) ?_
  refine k_copy (pc := 60) C (by decide) (ia_R5 hg2) (ia_R5 hg) tw3_20 tw3_22 tw3_21 tw1_18 (Nat.le_of_ble_eq_true rfl) dX4_copyFrom_60 h (fun h => ?_)
  refine k_nT h (fun T4 h => ?_)
  refine k_aload_n (pc := 63) C dX4_copyFrom_63 1 rfl ?_
  refine gf_X4_46 (pc := 64) C hg2 dX4_copyFrom_64 ?_
  refine k_iconst (pc := 67) (v := (0 : Int32)) C dX4_copyFrom_67 ciconst_0 ?_
  refine k_aload_n (pc := 68) C dX4_copyFrom_68 0 rfl ?_
  refine gf_X4_46 (pc := 69) C hg dX4_copyFrom_69 ?_
  refine k_iconst (pc := 72) (v := (0 : Int32)) C dX4_copyFrom_72 ciconst_0 ?_
  refine k_aload_n (pc := 73) C dX4_copyFrom_73 0 rfl ?_
  refine gf_X4_46 (pc := 74) C hg dX4_copyFrom_74 ?_
  refine k_ilen (pc := 77) C (ia_R6 hg) (12 : Int32) dX4_copyFrom_77 (by decide) ?_
  refine k_copy (pc := 78) C (by decide) (ia_R6 hg2) (ia_R6 hg) tw3_20 tw3_22 tw3_21 tw1_18 (Nat.le_of_ble_eq_true rfl) dX4_copyFrom_78 h (fun h => ?_)
  refine k_nT h (fun T5 h => ?_)
  refine k_aload_n (pc := 81) C dX4_copyFrom_81 1 rfl ?_
  refine gf_X4_49 (pc := 82) C hg2 dX4_copyFrom_82 ?_
  refine k_iconst (pc := 85) (v := (0 : Int32)) C dX4_copyFrom_85 ciconst_0 ?_
  refine k_aload_n (pc := 86) C dX4_copyFrom_86 0 rfl ?_
  refine gf_X4_49 (pc := 87) C hg dX4_copyFrom_87 ?_
  refine k_iconst (pc := 90) (v := (0 : Int32)) C dX4_copyFrom_90 ciconst_0 ?_
  refine k_aload_n (pc := 91) C dX4_copyFrom_91 0 rfl ?_
  refine gf_X4_49 (pc := 92) C hg dX4_copyFrom_92 ?_
  refine k_ilen (pc := 95) C (ia_R7 hg) (104 : Int32) dX4_copyFrom_95 (by decide) ?_
  refine k_copy (pc := 96) C (by decide) (ia_R7 hg2) (ia_R7 hg) tw3_20 tw3_22 tw3_21 tw1_18 (Nat.le_of_ble_eq_true rfl) dX4_copyFrom_96 h (fun h => ?_)
  refine k_nT h (fun T6 h => ?_)
  refine k_aload_n (pc := 99) C dX4_copyFrom_99 0 rfl ?_
  refine k_aload_n (pc := 100) C dX4_copyFrom_100 1 rfl ?_
  refine gf_X4_52 (pc := 101) C hg2 dX4_copyFrom_101 ?_
  refine pf_X4_52 (pc := 104) C hg dX4_copyFrom_104 ?_
  refine k_nT h (fun T7 h => ?_)
  refine k_aload_n (pc := 107) C dX4_copyFrom_107 0 rfl ?_
  refine k_aload_n (pc := 108) C dX4_copyFrom_108 1 rfl ?_
  refine gf_X4_56 (pc := 109) C hg2 dX4_copyFrom_109 ?_
  refine pf_X4_56 (pc := 112) C hg dX4_copyFrom_112 ?_
  refine k_nT h (fun T8 h => ?_)
  refine k_aload_n (pc := 115) C dX4_copyFrom_115 0 rfl ?_
  refine k_aload_n (pc := 116) C dX4_copyFrom_116 1 rfl ?_
  refine gf_X4_59 (pc := 117) C hg2 dX4_copyFrom_117 ?_
  refine pf_X4_59 (pc := 120) C hg dX4_copyFrom_120 ?_
  refine k_nT h (fun T9 h => ?_)
  refine k_aload_n (pc := 123) C dX4_copyFrom_123 0 rfl ?_
  refine k_aload_n (pc := 124) C dX4_copyFrom_124 1 rfl ?_
  refine gf_X4_62 (pc := 125) C hg2 dX4_copyFrom_125 ?_
  refine pf_X4_62 (pc := 128) C hg dX4_copyFrom_128 ?_
  refine k_nT h (fun T10 h => ?_)
  refine k_aload_n (pc := 131) C dX4_copyFrom_131 0 rfl ?_
  refine k_aload_n (pc := 132) C dX4_copyFrom_132 1 rfl ?_
  refine gf_X4_65 (pc := 133) C hg2 dX4_copyFrom_133 ?_
  refine pf_X4_65 (pc := 136) C hg dX4_copyFrom_136 ?_
  refine k_nT h (fun T11 h => ?_)
  exact k_vret (pc := 139) C E (some_i h) dX4_copyFrom_139
def m_X4_has (T : TT) (g : Nat) (x1 : Int32) : Option (Int32) := if x1 < 0 then (some (0 : Int32)) else (if (T.2.1 g 7) ≤ x1 then (some (0 : Int32)) else (some (1 : Int32)))
set_option maxHeartbeats 4000000 in
set_option maxRecDepth 100000 in
theorem kc_X4_has {B : KB} {l : Launch} {T : TT} {g : Nat} {x1 : Int32} {res : Int32} (hg : g < 4) (h : m_X4_has T g x1 = some res) : Kt B l 1 yX4_has cX4_has 2 (some .boolean) T [.ref (B.1 g 0), .int x1] (some (.int res)) T := by
  refine Kt.of (by decide) (Nat.le_of_ble_eq_true rfl) (fun X hX C E => ?_)
  subst hX
  have C : Cx B X "GriefEngine$Rank" cX4_has 2 1 := C
  show Wk B X 2 T 0 [(0, .ref (B.1 g 0)), (1, .int x1)] []
  unfold m_X4_has at h
  refine k_iload_n (pc := 0) C dX4_has_0 1 rfl ?_
  refine k_if_lt (pc := 1) C 16 dX4_has_1 (by decide) h (fun c2 h => ?_) (fun c2 h => ?_)
  · refine k_iconst (pc := 16) (v := (0 : Int32)) C dX4_has_16 ciconst_0 ?_
    exact k_zret (pc := 17) C E rfl (some_i h) rfl dX4_has_17
  · refine k_iload_n (pc := 4) C dX4_has_4 1 rfl ?_
    refine k_aload_n (pc := 5) C dX4_has_5 0 rfl ?_
    refine gf_X4_52 (pc := 6) C hg dX4_has_6 ?_
    refine k_icmp_ge (pc := 9) C 16 dX4_has_9 (by decide) h (fun c1 h => ?_) (fun c1 h => ?_)
    · refine k_iconst (pc := 16) (v := (0 : Int32)) C dX4_has_16 ciconst_0 ?_
      exact k_zret (pc := 17) C E rfl (some_i h) rfl dX4_has_17
    · refine k_iconst (pc := 12) (v := (1 : Int32)) C dX4_has_12 ciconst_1 ?_
      refine k_goto (pc := 13) C 17 dX4_has_13 (by decide) ?_
      exact k_zret (pc := 17) C E rfl (some_i h) rfl dX4_has_17
def m_X4_isFull (T : TT) (g : Nat) : Option (Int32) := if (T.2.1 g 7) < (6 : Int32) then (some (0 : Int32)) else (some (1 : Int32))
set_option maxHeartbeats 4000000 in
set_option maxRecDepth 100000 in
theorem kc_X4_isFull {B : KB} {l : Launch} {T : TT} {g : Nat} {res : Int32} (hg : g < 4) (h : m_X4_isFull T g = some res) : Kt B l 1 yX4_isFull cX4_isFull 1 (some .boolean) T [.ref (B.1 g 0)] (some (.int res)) T := by
  refine Kt.of (by decide) (Nat.le_of_ble_eq_true rfl) (fun X hX C E => ?_)
  subst hX
  have C : Cx B X "GriefEngine$Rank" cX4_isFull 1 1 := C
  show Wk B X 1 T 0 [(0, .ref (B.1 g 0))] []
  unfold m_X4_isFull at h
  refine k_aload_n (pc := 0) C dX4_isFull_0 0 rfl ?_
  refine gf_X4_52 (pc := 1) C hg dX4_isFull_1 ?_
  refine k_bipush (pc := 4) (v := (6 : Int32)) C dX4_isFull_4 cbipush_6 ?_
  refine k_icmp_lt (pc := 6) C 13 dX4_isFull_6 (by decide) h (fun c1 h => ?_) (fun c1 h => ?_)
  · refine k_iconst (pc := 13) (v := (0 : Int32)) C dX4_isFull_13 ciconst_0 ?_
    exact k_zret (pc := 14) C E rfl (some_i h) rfl dX4_isFull_14
  · refine k_iconst (pc := 9) (v := (1 : Int32)) C dX4_isFull_9 ciconst_1 ?_
    refine k_goto (pc := 10) C 14 dX4_isFull_10 (by decide) ?_
    exact k_zret (pc := 14) C E rfl (some_i h) rfl dX4_isFull_14
def m_X4_kindOf_b18 (T : TT) (g : Nat) (s0 : Int32) : Option (Nat × Nat) := if s0 < 0 then (if inb (0 : Int32) 6 then (some (g, 8 + (Int32.toNatClampNeg (0 : Int32)))) else none) else (if (6 : Int32) ≤ s0 then (if inb (0 : Int32) 6 then (some (g, 8 + (Int32.toNatClampNeg (0 : Int32)))) else none) else (if inb s0 6 then (some (g, 8 + (Int32.toNatClampNeg s0))) else none))
def m_X4_kindOf (T : TT) (g : Nat) (x1 : Int32) : Option (Nat × Nat) := (m_X4_has T g x1).bind (fun z1 => if z1 = 0 then (m_X4_kindOf_b18 T g (0 : Int32)) else (if inb x1 6 then (m_X4_kindOf_b18 T g (T.1 g 2 (Int32.toNatClampNeg x1))) else none))
set_option maxHeartbeats 4000000 in
set_option maxRecDepth 100000 in
theorem k_X4_kindOf_b18 {B : KB} {X : KE} {T : TT} {g : Nat} {res : Nat × Nat} (C : Cx B X "GriefEngine$Rank" cX4_kindOf 3 2) (E : Cr B X (some (.object "GriefEngine$Plain")) (some (.ref (B.1 res.1 res.2))) T) (hg : g < 4) (s0 : Int32) (h : m_X4_kindOf_b18 T g s0 = some res) : Wk B X 3 T 18 [(0, .ref (B.1 g 0))] [.int s0] := by
  unfold m_X4_kindOf_b18 at h
  refine k_istore_n (pc := 18) C [(2, .int s0), (0, .ref (B.1 g 0))] dX4_kindOf_18 (by decide) rfl ?_
  refine k_iload_n (pc := 19) C dX4_kindOf_19 0 rfl ?_
  refine k_if_lt (pc := 20) C 41 dX4_kindOf_20 (by decide) h (fun c7 h => ?_) (fun c7 h => ?_)
  · refine k_aload_n (pc := 41) C dX4_kindOf_41 1 rfl ?_
    refine gf_X4_27 (pc := 42) C hg dX4_kindOf_42 ?_
    refine k_iconst (pc := 45) (v := (0 : Int32)) C dX4_kindOf_45 ciconst_0 ?_
    refine k_qald (pc := 46) C (iq_R hg) rfl rfl dX4_kindOf_46 h (fun hi3 h => ?_)
    exact k_aret (pc := 47) C E (congrArg (fun q : Nat × Nat => B.1 q.1 q.2) (some_i h)) rfl dX4_kindOf_47
  · refine k_iload_n (pc := 23) C dX4_kindOf_23 0 rfl ?_
    refine k_aload_n (pc := 24) C dX4_kindOf_24 1 rfl ?_
    refine gf_X4_27 (pc := 25) C hg dX4_kindOf_25 ?_
    refine k_qlen (pc := 28) C (iq_R hg) rfl (6 : Int32) dX4_kindOf_28 (by decide) ?_
    refine k_icmp_ge (pc := 29) C 41 dX4_kindOf_29 (by decide) h (fun c6 h => ?_) (fun c6 h => ?_)
    · refine k_aload_n (pc := 41) C dX4_kindOf_41 1 rfl ?_
      refine gf_X4_27 (pc := 42) C hg dX4_kindOf_42 ?_
      refine k_iconst (pc := 45) (v := (0 : Int32)) C dX4_kindOf_45 ciconst_0 ?_
      refine k_qald (pc := 46) C (iq_R hg) rfl rfl dX4_kindOf_46 h (fun hi4 h => ?_)
      exact k_aret (pc := 47) C E (congrArg (fun q : Nat × Nat => B.1 q.1 q.2) (some_i h)) rfl dX4_kindOf_47
    · refine k_aload_n (pc := 32) C dX4_kindOf_32 1 rfl ?_
      refine gf_X4_27 (pc := 33) C hg dX4_kindOf_33 ?_
      refine k_iload_n (pc := 36) C dX4_kindOf_36 0 rfl ?_
      refine k_qald (pc := 37) C (iq_R hg) rfl rfl dX4_kindOf_37 h (fun hi5 h => ?_)
      refine k_goto (pc := 38) C 47 dX4_kindOf_38 (by decide) ?_
      exact k_aret (pc := 47) C E (congrArg (fun q : Nat × Nat => B.1 q.1 q.2) (some_i h)) rfl dX4_kindOf_47
set_option maxHeartbeats 4000000 in
set_option maxRecDepth 100000 in
theorem kc_X4_kindOf {B : KB} {l : Launch} {T : TT} {g : Nat} {x1 : Int32} {res : Nat × Nat} (hg : g < 4) (h : m_X4_kindOf T g x1 = some res) : Kt B l 2 yX4_kindOf cX4_kindOf 3 (some (.object "GriefEngine$Plain")) T [.ref (B.1 g 0), .int x1] (some (.ref (B.1 res.1 res.2))) T := by
  refine Kt.of (by decide) (Nat.le_of_ble_eq_true rfl) (fun X hX C E => ?_)
  subst hX
  have C : Cx B X "GriefEngine$Rank" cX4_kindOf 3 2 := C
  show Wk B X 3 T 0 [(0, .ref (B.1 g 0)), (1, .int x1)] []
  unfold m_X4_kindOf at h
  refine k_aload_n (pc := 0) C dX4_kindOf_0 0 rfl ?_
  refine k_iload_n (pc := 1) C dX4_kindOf_1 1 rfl ?_
  obtain ⟨z1, e1, h⟩ := bnd h
  refine k_callvI (pc := 2) C lk_X4_74 (by decide) (ix_X4 hg) (wo_X4 hg) rfl rfl (kc_X4_has hg e1) dX4_kindOf_2 rfl rfl (Nat.le_of_ble_eq_true rfl) ?_
  refine k_if_eq (pc := 5) C 17 dX4_kindOf_5 (by decide) h (fun c2 h => ?_) (fun c2 h => ?_)
  · refine k_iconst (pc := 17) (v := (0 : Int32)) C dX4_kindOf_17 ciconst_0 ?_
    refine k_sub [0] rfl ?_
    exact k_X4_kindOf_b18 C E hg (0 : Int32) h
  · refine k_aload_n (pc := 8) C dX4_kindOf_8 0 rfl ?_
    refine gf_X4_33 (pc := 9) C hg dX4_kindOf_9 ?_
    refine k_iload_n (pc := 12) C dX4_kindOf_12 1 rfl ?_
    refine k_iald (pc := 13) C (ia_R2 hg) dX4_kindOf_13 h (fun h => ?_)
    refine k_goto (pc := 14) C 18 dX4_kindOf_14 (by decide) ?_
    refine k_sub [0] rfl ?_
    exact k_X4_kindOf_b18 C E hg (T.1 g 2 (Int32.toNatClampNeg x1)) h
theorem kr_X4_kindOf {T : TT} {g : Nat} {x1 : Int32} {res : Nat × Nat} (hg : g < 4) (h : m_X4_kindOf T g x1 = some res) : kok res.1 res.2 := by
  have key : ∀ s0 : Int32, m_X4_kindOf_b18 T g s0 = some res → kok res.1 res.2 := fun s0 h => by
    unfold m_X4_kindOf_b18 at h
    split at h
    · split at h
      · next c => cases h; exact kok_R hg c
      · cases h
    · split at h
      · split at h
        · next c => cases h; exact kok_R hg c
        · cases h
      · split at h
        · next c => cases h; exact kok_R hg c
        · cases h
  unfold m_X4_kindOf at h
  obtain ⟨z, -, h⟩ := bnd h
  split at h
  · exact key _ h
  · split at h
    · exact key _ h
    · cases h
def m_X4_addDriver (T : TT) (g : Nat) (x1 : Int32) (x2 : Int32) : Option (Int32 × TT) := (m_X4_isFull T g).bind (fun z1 => if z1 = 0 then (bT (T.2.1 g 7) (fun y2 => if inb y2 6 then bT (sA T g 2 (Int32.toNatClampNeg y2) x1) (fun T3 => if inb y2 6 then bT (sA T3 g 3 (Int32.toNatClampNeg y2) x2) (fun T4 => if inb y2 6 then bT (sA T4 g 4 (Int32.toNatClampNeg y2) (0 : Int32)) (fun T5 => bT (sI T5 g 7 ((T5.2.1 g 7) + (1 : Int32))) (fun T6 => bT (sI T6 g 11 (0 : Int32)) (fun T7 => some (y2, T7)))) else none) else none) else none)) else (some ((-4 : Int32), T)))
set_option maxHeartbeats 4000000 in
set_option maxRecDepth 100000 in
theorem kc_X4_addDriver {B : KB} {l : Launch} {T : TT} {g : Nat} {x1 : Int32} {x2 : Int32} {res : Int32 × TT} (hg : g < 4) (h : m_X4_addDriver T g x1 x2 = some res) : Kt B l 2 yX4_addDriver cX4_addDriver 4 (some .int) T [.ref (B.1 g 0), .int x1, .int x2] (some (.int res.1)) res.2 := by
  refine Kt.of (by decide) (Nat.le_of_ble_eq_true rfl) (fun X hX C E => ?_)
  subst hX
  have C : Cx B X "GriefEngine$Rank" cX4_addDriver 4 2 := C
  show Wk B X 4 T 0 [(0, .ref (B.1 g 0)), (1, .int x1), (2, .int x2)] []
  unfold m_X4_addDriver at h
  refine k_aload_n (pc := 0) C dX4_addDriver_0 0 rfl ?_
  obtain ⟨z1, e1, h⟩ := bnd h
  refine k_callvI (pc := 1) C lk_X4_78 (by decide) (ix_X4 hg) (wo_X4 hg) rfl rfl (kc_X4_isFull hg e1) dX4_addDriver_1 rfl rfl (Nat.le_of_ble_eq_true rfl) ?_
  refine k_if_eq (pc := 4) C 10 dX4_addDriver_4 (by decide) h (fun c8 h => ?_) (fun c8 h => ?_)
  · refine k_aload_n (pc := 10) C dX4_addDriver_10 0 rfl ?_
    refine gf_X4_52 (pc := 11) C hg dX4_addDriver_11 ?_
    refine k_nI h (fun y2 h => ?_)
    refine k_istore_n (pc := 14) C [(3, .int y2), (0, .ref (B.1 g 0)), (1, .int x1), (2, .int x2)] dX4_addDriver_14 (by decide) rfl ?_
    refine k_aload_n (pc := 15) C dX4_addDriver_15 1 rfl ?_
    refine gf_X4_33 (pc := 16) C hg dX4_addDriver_16 ?_
    refine k_iload_n (pc := 19) C dX4_addDriver_19 0 rfl ?_
    refine k_iload_n (pc := 20) C dX4_addDriver_20 2 rfl ?_
    refine k_iast (pc := 21) C (ia_R2 hg) dX4_addDriver_21 h (fun h => ?_)
    refine k_nT h (fun T3 h => ?_)
    refine k_aload_n (pc := 22) C dX4_addDriver_22 1 rfl ?_
    refine gf_X4_37 (pc := 23) C hg dX4_addDriver_23 ?_
    refine k_iload_n (pc := 26) C dX4_addDriver_26 0 rfl ?_
    refine k_iload_n (pc := 27) C dX4_addDriver_27 3 rfl ?_
    refine k_iast (pc := 28) C (ia_R3 hg) dX4_addDriver_28 h (fun h => ?_)
    refine k_nT h (fun T4 h => ?_)
    refine k_aload_n (pc := 29) C dX4_addDriver_29 1 rfl ?_
    refine gf_X4_40 (pc := 30) C hg dX4_addDriver_30 ?_
    refine k_iload_n (pc := 33) C dX4_addDriver_33 0 rfl ?_
    refine k_iconst (pc := 34) (v := (0 : Int32)) C dX4_addDriver_34 ciconst_0 ?_
    refine k_iast (pc := 35) C (ia_R4 hg) dX4_addDriver_35 h (fun h => ?_)
    refine k_nT h (fun T5 h => ?_)
    refine k_aload_n (pc := 36) C dX4_addDriver_36 1 rfl ?_
    refine k_dup (pc := 37) C dX4_addDriver_37 rfl ?_
    refine gf_X4_52 (pc := 38) C hg dX4_addDriver_38 ?_
    refine k_iconst (pc := 41) (v := (1 : Int32)) C dX4_addDriver_41 ciconst_1 ?_
    refine k_iadd (pc := 42) C dX4_addDriver_42 ?_
    refine pf_X4_52 (pc := 43) C hg dX4_addDriver_43 ?_
    refine k_nT h (fun T6 h => ?_)
    refine k_aload_n (pc := 46) C dX4_addDriver_46 1 rfl ?_
    refine k_iconst (pc := 47) (v := (0 : Int32)) C dX4_addDriver_47 ciconst_0 ?_
    refine pf_X4_65 (pc := 48) C hg dX4_addDriver_48 ?_
    refine k_nT h (fun T7 h => ?_)
    refine k_iload_n (pc := 51) C dX4_addDriver_51 0 rfl ?_
    exact k_iret (pc := 52) C E (some_1 h) (some_2 h) dX4_addDriver_52
  · refine k_bipush (pc := 7) (v := (-4 : Int32)) C dX4_addDriver_7 cbipush_m4 ?_
    exact k_iret (pc := 9) C E (some_1 h) (some_2 h) dX4_addDriver_9
def m_X4_act_b41 (g : Nat) (T : TT) (x1 : Int32) (x2 : Int32) (hx3 : Nat × Nat) (s0 : Int32) : Option (Int32 × TT) := if inb x1 6 then (if inb x1 6 then bT (sA T g 4 (Int32.toNatClampNeg x1) ((T.1 g 4 (Int32.toNatClampNeg x1)) + s0)) (fun T7 => if inb x1 6 then ((v_left hx3 x2 (T7.1 g 3 (Int32.toNatClampNeg x1))).bind (fun z8 => if inb x1 6 then bT (sA T7 g 3 (Int32.toNatClampNeg x1) z8) (fun T9 => some (s0, T9)) else none)) else none) else none) else none
def m_X4_act (T : TT) (g : Nat) (x1 : Int32) (x2 : Int32) : Option (Int32 × TT) := (m_X4_has T g x1).bind (fun z1 => if z1 = 0 then (some ((0 : Int32), T)) else ((m_X4_kindOf T g x1).bind (fun z2 => if x2 = 0 then ((m_X10_seasonOf (T.2.1 g 8)).bind (fun z3 => if inb x1 6 then ((v_runs z2 z3 (T.1 g 3 (Int32.toNatClampNeg x1))).bind (fun z4 => m_X4_act_b41 g T x1 x2 z2 z4)) else none)) else (m_X4_act_b41 g T x1 x2 z2 (0 : Int32)))))
set_option maxHeartbeats 4000000 in
set_option maxRecDepth 100000 in
theorem k_X4_act_b41 {B : KB} {X : KE} {g : Nat} {res : Int32 × TT} (C : Cx B X "GriefEngine$Rank" cX4_act 5 4) (E : Cr B X (some .int) (some (.int res.1)) res.2) (hg : g < 4) (T : TT) (x1 : Int32) (x2 : Int32) (hx3 : Nat × Nat) (s0 : Int32) (hkx3 : kok hx3.1 hx3.2) (h : m_X4_act_b41 g T x1 x2 hx3 s0 = some res) : Wk B X 5 T 41 [(0, .ref (B.1 g 0)), (1, .int x1), (2, .int x2), (3, .ref (B.1 hx3.1 hx3.2))] [.int s0] := by
  unfold m_X4_act_b41 at h
  refine k_istore (pc := 41) C [(4, .int s0), (0, .ref (B.1 g 0)), (1, .int x1), (2, .int x2), (3, .ref (B.1 hx3.1 hx3.2))] dX4_act_41 (by decide) rfl ?_
  refine k_aload_n (pc := 43) C dX4_act_43 1 rfl ?_
  refine gf_X4_40 (pc := 44) C hg dX4_act_44 ?_
  refine k_iload_n (pc := 47) C dX4_act_47 2 rfl ?_
  refine k_dup2 (pc := 48) C dX4_act_48 rfl rfl ?_
  refine k_iald (pc := 49) C (ia_R4 hg) dX4_act_49 h (fun h => ?_)
  refine k_iload (pc := 50) C dX4_act_50 0 rfl ?_
  refine k_iadd (pc := 52) C dX4_act_52 ?_
  refine k_iast (pc := 53) C (ia_R4 hg) dX4_act_53 h (fun h => ?_)
  refine k_nT h (fun T7 h => ?_)
  refine k_aload_n (pc := 54) C dX4_act_54 1 rfl ?_
  refine gf_X4_37 (pc := 55) C hg dX4_act_55 ?_
  refine k_iload_n (pc := 58) C dX4_act_58 2 rfl ?_
  refine k_aload_n (pc := 59) C dX4_act_59 4 rfl ?_
  refine k_iload_n (pc := 60) C dX4_act_60 3 rfl ?_
  refine k_aload_n (pc := 61) C dX4_act_61 1 rfl ?_
  refine gf_X4_37 (pc := 62) C hg dX4_act_62 ?_
  refine k_iload_n (pc := 65) C dX4_act_65 2 rfl ?_
  refine k_iald (pc := 66) C (ia_R3 hg) dX4_act_66 h (fun h => ?_)
  obtain ⟨z8, e8, h⟩ := bnd h
  refine kv_left (pc := 67) C lk_X4_97 (by decide) hkx3 e8 dX4_act_67 (Nat.le_of_ble_eq_true rfl) ?_
  refine k_iast (pc := 70) C (ia_R3 hg) dX4_act_70 h (fun h => ?_)
  refine k_nT h (fun T9 h => ?_)
  refine k_iload (pc := 71) C dX4_act_71 0 rfl ?_
  exact k_iret (pc := 73) C E (some_1 h) (some_2 h) dX4_act_73
set_option maxHeartbeats 4000000 in
set_option maxRecDepth 100000 in
theorem kc_X4_act {B : KB} {l : Launch} {T : TT} {g : Nat} {x1 : Int32} {x2 : Int32} {res : Int32 × TT} (hg : g < 4) (h : m_X4_act T g x1 x2 = some res) : Kt B l 4 yX4_act cX4_act 5 (some .int) T [.ref (B.1 g 0), .int x1, .int x2] (some (.int res.1)) res.2 := by
  refine Kt.of (by decide) (Nat.le_of_ble_eq_true rfl) (fun X hX C E => ?_)
  subst hX
  have C : Cx B X "GriefEngine$Rank" cX4_act 5 4 := C
  show Wk B X 5 T 0 [(0, .ref (B.1 g 0)), (1, .int x1), (2, .int x2)] []
  unfold m_X4_act at h
  refine k_aload_n (pc := 0) C dX4_act_0 0 rfl ?_
  refine k_iload_n (pc := 1) C dX4_act_1 1 rfl ?_
  obtain ⟨z1, e1, h⟩ := bnd h
  refine k_callvI (pc := 2) C lk_X4_74 (by decide) (ix_X4 hg) (wo_X4 hg) rfl rfl (kc_X4_has hg e1) dX4_act_2 rfl rfl (Nat.le_of_ble_eq_true rfl) ?_
  refine k_if_ne (pc := 5) C 10 dX4_act_5 (by decide) h (fun c6 h => ?_) (fun c6 h => ?_)
  · refine k_aload_n (pc := 10) C dX4_act_10 0 rfl ?_
    refine k_iload_n (pc := 11) C dX4_act_11 1 rfl ?_
    obtain ⟨z2, e2, h⟩ := bnd h
    have hz2 := kr_X4_kindOf hg e2
    refine k_callvA (pc := 12) C lk_X4_86 (by decide) (ix_X4 hg) (wo_X4 hg) rfl rfl (kc_X4_kindOf hg e2) dX4_act_12 rfl rfl (Nat.le_of_ble_eq_true rfl) ?_
    refine k_astore_n (pc := 15) C [(3, .ref (B.1 z2.1 z2.2)), (0, .ref (B.1 g 0)), (1, .int x1), (2, .int x2)] dX4_act_15 (by decide) rfl ?_
    refine k_iload_n (pc := 16) C dX4_act_16 3 rfl ?_
    refine k_if_ne (pc := 17) C 40 dX4_act_17 (by decide) h (fun c5 h => ?_) (fun c5 h => ?_)
    · refine k_iconst (pc := 40) (v := (0 : Int32)) C dX4_act_40 ciconst_0 ?_
      refine k_sub [1, 2, 3, 0] rfl ?_
      exact k_X4_act_b41 C E hg T x1 x2 z2 (0 : Int32) hz2 h
    · refine k_aload_n (pc := 20) C dX4_act_20 0 rfl ?_
      refine k_aload_n (pc := 21) C dX4_act_21 1 rfl ?_
      refine gf_X4_56 (pc := 22) C hg dX4_act_22 ?_
      obtain ⟨z3, e3, h⟩ := bnd h
      refine k_callsnI (pc := 25) (n := 1) C C.2.2.2.2.2.1.2.2.1 tw2_169 tw1_1 tw2_170 ⟨by decide, by decide, by decide +kernel⟩ (by decide) (by decide) (kc_X10_seasonOf e3) dX4_act_25 rfl rfl (Nat.le_of_ble_eq_true rfl) ?_
      refine k_aload_n (pc := 28) C dX4_act_28 1 rfl ?_
      refine gf_X4_37 (pc := 29) C hg dX4_act_29 ?_
      refine k_iload_n (pc := 32) C dX4_act_32 2 rfl ?_
      refine k_iald (pc := 33) C (ia_R3 hg) dX4_act_33 h (fun h => ?_)
      obtain ⟨z4, e4, h⟩ := bnd h
      refine kv_runs (pc := 34) C lk_X4_94 (by decide) hz2 e4 dX4_act_34 (Nat.le_of_ble_eq_true rfl) ?_
      refine k_goto (pc := 37) C 41 dX4_act_37 (by decide) ?_
      refine k_sub [1, 2, 3, 0] rfl ?_
      exact k_X4_act_b41 C E hg T x1 x2 z2 z4 hz2 h
  · refine k_iconst (pc := 8) (v := (0 : Int32)) C dX4_act_8 ciconst_0 ?_
    exact k_iret (pc := 9) C E (some_1 h) (some_2 h) dX4_act_9
def m_X4_passDays_b55 (g : Nat) (rec6 : TT → Int32 → Int32 → Int32 → Int32 → Int32 → Option (Int32 × TT)) (rec25 : TT → Int32 → Int32 → Int32 → Int32 → Int32 → Int32 → Option (Int32 × TT)) (T : TT) (x1 : Int32) (x2 : Int32) (x3 : Int32) (x5 : Int32) (x6 : Int32) (s0 : Int32) (s2 : Int32) (s3 : Int32) : Option (Int32 × TT) := (m_X4_act T g s2 s3).bind (fun z8 => bT (s0 + z8.1) (fun y9 => bT (x6 + (1 : Int32)) (fun y10 => rec25 z8.2 x1 x2 x3 y9 x5 y10)))
def m_X4_passDays_b50 (g : Nat) (rec6 : TT → Int32 → Int32 → Int32 → Int32 → Int32 → Option (Int32 × TT)) (rec25 : TT → Int32 → Int32 → Int32 → Int32 → Int32 → Int32 → Option (Int32 × TT)) (T : TT) (x1 : Int32) (x2 : Int32) (x3 : Int32) (x5 : Int32) (x6 : Int32) (s0 : Int32) (s2 : Int32) : Option (Int32 × TT) := m_X4_passDays_b55 g rec6 rec25 T x1 x2 x3 x5 x6 s0 s2 x3
def m_X4_passDays_h25 (g : Nat) (rec6 : TT → Int32 → Int32 → Int32 → Int32 → Int32 → Option (Int32 × TT)) (rec25 : TT → Int32 → Int32 → Int32 → Int32 → Int32 → Int32 → Option (Int32 × TT)) (T : TT) (x1 : Int32) (x2 : Int32) (x3 : Int32) (x4 : Int32) (x5 : Int32) (x6 : Int32) : Option (Int32 × TT) := if (T.2.1 g 7) ≤ x6 then (bT (sI T g 8 ((T.2.1 g 8) + (1 : Int32))) (fun T3 => bT (x5 + (1 : Int32)) (fun y4 => rec6 T3 x1 x2 x3 x4 y4))) else (if x2 = (-1 : Int32) then (m_X4_passDays_b50 g rec6 rec25 T x1 x2 x3 x5 x6 x4 x6) else (if x2 = x6 then (m_X4_passDays_b50 g rec6 rec25 T x1 x2 x3 x5 x6 x4 x6) else (m_X4_passDays_b55 g rec6 rec25 T x1 x2 x3 x5 x6 x4 x6 (2 : Int32))))
def m_X4_passDays_l25 (g : Nat) (rec6 : TT → Int32 → Int32 → Int32 → Int32 → Int32 → Option (Int32 × TT)) : Nat → TT → Int32 → Int32 → Int32 → Int32 → Int32 → Int32 → Option (Int32 × TT)
  | 0 => fun _ _ _ _ _ _ _ => none
  | n + 1 => fun T x1 x2 x3 x4 x5 x6 => m_X4_passDays_h25 g rec6 (m_X4_passDays_l25 g rec6 n) T x1 x2 x3 x4 x5 x6
def m_X4_passDays_h6 (g : Nat) (rec6 : TT → Int32 → Int32 → Int32 → Int32 → Int32 → Option (Int32 × TT)) (T : TT) (x1 : Int32) (x2 : Int32) (x3 : Int32) (x4 : Int32) (x5 : Int32) : Option (Int32 × TT) := if x1 ≤ x5 then (some (x4, T)) else (if (9999 : Int32) ≤ (T.2.1 g 8) then (some (x4, T)) else (m_X4_passDays_l25 g rec6 FU T x1 x2 x3 x4 x5 (0 : Int32)))
def m_X4_passDays_l6 (g : Nat) : Nat → TT → Int32 → Int32 → Int32 → Int32 → Int32 → Option (Int32 × TT)
  | 0 => fun _ _ _ _ _ _ => none
  | n + 1 => fun T x1 x2 x3 x4 x5 => m_X4_passDays_h6 g (m_X4_passDays_l6 g n) T x1 x2 x3 x4 x5
def m_X4_passDays (T : TT) (g : Nat) (x1 : Int32) (x2 : Int32) (x3 : Int32) : Option (Int32 × TT) := m_X4_passDays_l6 g FU T x1 x2 x3 (0 : Int32) (0 : Int32)
set_option maxHeartbeats 4000000 in
set_option maxRecDepth 100000 in
theorem k_X4_passDays_b55 {B : KB} {X : KE} {g : Nat} {rec6 : TT → Int32 → Int32 → Int32 → Int32 → Int32 → Option (Int32 × TT)} {rec25 : TT → Int32 → Int32 → Int32 → Int32 → Int32 → Int32 → Option (Int32 × TT)} {res : Int32 × TT} (C : Cx B X "GriefEngine$Rank" cX4_passDays 7 5) (E : Cr B X (some .int) (some (.int res.1)) res.2) (hg : g < 4) (hrec6 : ∀ (T : TT) (x1 : Int32) (x2 : Int32) (x3 : Int32) (x4 : Int32) (x5 : Int32), rec6 T x1 x2 x3 x4 x5 = some res → Wk B X 7 T 6 [(0, .ref (B.1 g 0)), (1, .int x1), (2, .int x2), (3, .int x3), (4, .int x4), (5, .int x5)] []) (hrec25 : ∀ (T : TT) (x1 : Int32) (x2 : Int32) (x3 : Int32) (x4 : Int32) (x5 : Int32) (x6 : Int32), rec25 T x1 x2 x3 x4 x5 x6 = some res → Wk B X 7 T 25 [(0, .ref (B.1 g 0)), (1, .int x1), (2, .int x2), (3, .int x3), (4, .int x4), (5, .int x5), (6, .int x6)] []) (T : TT) (x1 : Int32) (x2 : Int32) (x3 : Int32) (x5 : Int32) (x6 : Int32) (s0 : Int32) (s2 : Int32) (s3 : Int32) (h : m_X4_passDays_b55 g rec6 rec25 T x1 x2 x3 x5 x6 s0 s2 s3 = some res) : Wk B X 7 T 55 [(0, .ref (B.1 g 0)), (1, .int x1), (2, .int x2), (3, .int x3), (5, .int x5), (6, .int x6)] [.int s3, .int s2, .ref (B.1 g 0), .int s0] := by
  unfold m_X4_passDays_b55 at h
  obtain ⟨z8, e8, h⟩ := bnd h
  refine k_callvI (pc := 55) C lk_X4_82 (by decide) (ix_X4 hg) (wo_X4 hg) rfl rfl (kc_X4_act hg e8) dX4_passDays_55 rfl rfl (Nat.le_of_ble_eq_true rfl) ?_
  refine k_iadd (pc := 58) C dX4_passDays_58 ?_
  refine k_nI h (fun y9 h => ?_)
  refine k_istore (pc := 59) C [(4, .int y9), (0, .ref (B.1 g 0)), (1, .int x1), (2, .int x2), (3, .int x3), (5, .int x5), (6, .int x6)] dX4_passDays_59 (by decide) rfl ?_
  refine k_iincN (pc := 61) (x := x6) (c := (1 : Int32)) C (fun y10 => [(6, .int y10), (4, .int y9), (0, .ref (B.1 g 0)), (1, .int x1), (2, .int x2), (3, .int x3), (5, .int x5)]) dX4_passDays_61 6 rfl ciconst_1 (by decide) (fun _ => rfl) h (fun y10 h => ?_)
  refine k_goto (pc := 64) C 25 dX4_passDays_64 (by decide) ?_
  refine k_sub [2, 3, 4, 5, 1, 6, 0] rfl ?_
  exact hrec25 z8.2 x1 x2 x3 y9 x5 y10 h
set_option maxHeartbeats 4000000 in
set_option maxRecDepth 100000 in
theorem k_X4_passDays_b50 {B : KB} {X : KE} {g : Nat} {rec6 : TT → Int32 → Int32 → Int32 → Int32 → Int32 → Option (Int32 × TT)} {rec25 : TT → Int32 → Int32 → Int32 → Int32 → Int32 → Int32 → Option (Int32 × TT)} {res : Int32 × TT} (C : Cx B X "GriefEngine$Rank" cX4_passDays 7 5) (E : Cr B X (some .int) (some (.int res.1)) res.2) (hg : g < 4) (hrec6 : ∀ (T : TT) (x1 : Int32) (x2 : Int32) (x3 : Int32) (x4 : Int32) (x5 : Int32), rec6 T x1 x2 x3 x4 x5 = some res → Wk B X 7 T 6 [(0, .ref (B.1 g 0)), (1, .int x1), (2, .int x2), (3, .int x3), (4, .int x4), (5, .int x5)] []) (hrec25 : ∀ (T : TT) (x1 : Int32) (x2 : Int32) (x3 : Int32) (x4 : Int32) (x5 : Int32) (x6 : Int32), rec25 T x1 x2 x3 x4 x5 x6 = some res → Wk B X 7 T 25 [(0, .ref (B.1 g 0)), (1, .int x1), (2, .int x2), (3, .int x3), (4, .int x4), (5, .int x5), (6, .int x6)] []) (T : TT) (x1 : Int32) (x2 : Int32) (x3 : Int32) (x5 : Int32) (x6 : Int32) (s0 : Int32) (s2 : Int32) (h : m_X4_passDays_b50 g rec6 rec25 T x1 x2 x3 x5 x6 s0 s2 = some res) : Wk B X 7 T 50 [(0, .ref (B.1 g 0)), (1, .int x1), (2, .int x2), (3, .int x3), (5, .int x5), (6, .int x6)] [.int s2, .ref (B.1 g 0), .int s0] := by
  unfold m_X4_passDays_b50 at h
  refine k_iload_n (pc := 50) C dX4_passDays_50 3 rfl ?_
  refine k_goto (pc := 51) C 55 dX4_passDays_51 (by decide) ?_
  refine k_sub [0, 1, 2, 3, 4, 5] rfl ?_
  exact k_X4_passDays_b55 C E hg hrec6 hrec25 T x1 x2 x3 x5 x6 s0 s2 x3 h
set_option maxHeartbeats 4000000 in
set_option maxRecDepth 100000 in
theorem k_X4_passDays_h25 {B : KB} {X : KE} {g : Nat} {rec6 : TT → Int32 → Int32 → Int32 → Int32 → Int32 → Option (Int32 × TT)} {rec25 : TT → Int32 → Int32 → Int32 → Int32 → Int32 → Int32 → Option (Int32 × TT)} {res : Int32 × TT} (C : Cx B X "GriefEngine$Rank" cX4_passDays 7 5) (E : Cr B X (some .int) (some (.int res.1)) res.2) (hg : g < 4) (hrec6 : ∀ (T : TT) (x1 : Int32) (x2 : Int32) (x3 : Int32) (x4 : Int32) (x5 : Int32), rec6 T x1 x2 x3 x4 x5 = some res → Wk B X 7 T 6 [(0, .ref (B.1 g 0)), (1, .int x1), (2, .int x2), (3, .int x3), (4, .int x4), (5, .int x5)] []) (hrec25 : ∀ (T : TT) (x1 : Int32) (x2 : Int32) (x3 : Int32) (x4 : Int32) (x5 : Int32) (x6 : Int32), rec25 T x1 x2 x3 x4 x5 x6 = some res → Wk B X 7 T 25 [(0, .ref (B.1 g 0)), (1, .int x1), (2, .int x2), (3, .int x3), (4, .int x4), (5, .int x5), (6, .int x6)] []) (T : TT) (x1 : Int32) (x2 : Int32) (x3 : Int32) (x4 : Int32) (x5 : Int32) (x6 : Int32) (h : m_X4_passDays_h25 g rec6 rec25 T x1 x2 x3 x4 x5 x6 = some res) : Wk B X 7 T 25 [(0, .ref (B.1 g 0)), (1, .int x1), (2, .int x2), (3, .int x3), (4, .int x4), (5, .int x5), (6, .int x6)] [] := by
  unfold m_X4_passDays_h25 at h
  refine k_iload (pc := 25) C dX4_passDays_25 6 rfl ?_
  refine k_aload_n (pc := 27) C dX4_passDays_27 0 rfl ?_
  refine gf_X4_52 (pc := 28) C hg dX4_passDays_28 ?_
  refine k_icmp_ge (pc := 31) C 67 dX4_passDays_31 (by decide) h (fun c7 h => ?_) (fun c7 h => ?_)
  · refine k_aload_n (pc := 67) C dX4_passDays_67 0 rfl ?_
    refine k_dup (pc := 68) C dX4_passDays_68 rfl ?_
    refine gf_X4_56 (pc := 69) C hg dX4_passDays_69 ?_
    refine k_iconst (pc := 72) (v := (1 : Int32)) C dX4_passDays_72 ciconst_1 ?_
    refine k_iadd (pc := 73) C dX4_passDays_73 ?_
    refine pf_X4_56 (pc := 74) C hg dX4_passDays_74 ?_
    refine k_nT h (fun T3 h => ?_)
    refine k_iincN (pc := 77) (x := x5) (c := (1 : Int32)) C (fun y4 => [(5, .int y4), (0, .ref (B.1 g 0)), (1, .int x1), (2, .int x2), (3, .int x3), (4, .int x4), (6, .int x6)]) dX4_passDays_77 5 rfl ciconst_1 (by decide) (fun _ => rfl) h (fun y4 h => ?_)
    refine k_goto (pc := 80) C 6 dX4_passDays_80 (by decide) ?_
    refine k_sub [1, 2, 3, 4, 5, 0] rfl ?_
    exact hrec6 T3 x1 x2 x3 x4 y4 h
  · refine k_iload (pc := 34) C dX4_passDays_34 4 rfl ?_
    refine k_aload_n (pc := 36) C dX4_passDays_36 0 rfl ?_
    refine k_iload (pc := 37) C dX4_passDays_37 6 rfl ?_
    refine k_iload_n (pc := 39) C dX4_passDays_39 2 rfl ?_
    refine k_iconst (pc := 40) (v := (-1 : Int32)) C dX4_passDays_40 ciconst_m1 ?_
    refine k_icmp_eq (pc := 41) C 50 dX4_passDays_41 (by decide) h (fun c6 h => ?_) (fun c6 h => ?_)
    · refine k_sub [0, 1, 2, 3, 5, 6] rfl ?_
      exact k_X4_passDays_b50 C E hg hrec6 hrec25 T x1 x2 x3 x5 x6 x4 x6 h
    · refine k_iload_n (pc := 44) C dX4_passDays_44 2 rfl ?_
      refine k_iload (pc := 45) C dX4_passDays_45 6 rfl ?_
      refine k_icmp_ne (pc := 47) C 54 dX4_passDays_47 (by decide) h (fun c5 h => ?_) (fun c5 h => ?_)
      · refine k_iconst (pc := 54) (v := (2 : Int32)) C dX4_passDays_54 ciconst_2 ?_
        refine k_sub [0, 1, 2, 3, 5, 6] rfl ?_
        exact k_X4_passDays_b55 C E hg hrec6 hrec25 T x1 x2 x3 x5 x6 x4 x6 (2 : Int32) h
      · refine k_sub [0, 1, 2, 3, 5, 6] rfl ?_
        exact k_X4_passDays_b50 C E hg hrec6 hrec25 T x1 x2 x3 x5 x6 x4 x6 h
set_option maxHeartbeats 4000000 in
set_option maxRecDepth 100000 in
theorem k_X4_passDays_l25 {B : KB} {X : KE} {g : Nat} {rec6 : TT → Int32 → Int32 → Int32 → Int32 → Int32 → Option (Int32 × TT)} {res : Int32 × TT} (C : Cx B X "GriefEngine$Rank" cX4_passDays 7 5) (E : Cr B X (some .int) (some (.int res.1)) res.2) (hg : g < 4) (hrec6 : ∀ (T : TT) (x1 : Int32) (x2 : Int32) (x3 : Int32) (x4 : Int32) (x5 : Int32), rec6 T x1 x2 x3 x4 x5 = some res → Wk B X 7 T 6 [(0, .ref (B.1 g 0)), (1, .int x1), (2, .int x2), (3, .int x3), (4, .int x4), (5, .int x5)] []) : ∀ (n : Nat) (T : TT) (x1 : Int32) (x2 : Int32) (x3 : Int32) (x4 : Int32) (x5 : Int32) (x6 : Int32) (h : m_X4_passDays_l25 g rec6 n T x1 x2 x3 x4 x5 x6 = some res), Wk B X 7 T 25 [(0, .ref (B.1 g 0)), (1, .int x1), (2, .int x2), (3, .int x3), (4, .int x4), (5, .int x5), (6, .int x6)] [] := by
  intro n
  induction n with
  | zero =>
    intro T x1 x2 x3 x4 x5 x6 h
    exact no_some h
  | succ n ih =>
    intro T x1 x2 x3 x4 x5 x6 h
    exact k_X4_passDays_h25 C E hg hrec6 (fun T x1 x2 x3 x4 x5 x6 h => ih T x1 x2 x3 x4 x5 x6 h) T x1 x2 x3 x4 x5 x6 h
set_option maxHeartbeats 4000000 in
set_option maxRecDepth 100000 in
theorem k_X4_passDays_h6 {B : KB} {X : KE} {g : Nat} {rec6 : TT → Int32 → Int32 → Int32 → Int32 → Int32 → Option (Int32 × TT)} {res : Int32 × TT} (C : Cx B X "GriefEngine$Rank" cX4_passDays 7 5) (E : Cr B X (some .int) (some (.int res.1)) res.2) (hg : g < 4) (hrec6 : ∀ (T : TT) (x1 : Int32) (x2 : Int32) (x3 : Int32) (x4 : Int32) (x5 : Int32), rec6 T x1 x2 x3 x4 x5 = some res → Wk B X 7 T 6 [(0, .ref (B.1 g 0)), (1, .int x1), (2, .int x2), (3, .int x3), (4, .int x4), (5, .int x5)] []) (T : TT) (x1 : Int32) (x2 : Int32) (x3 : Int32) (x4 : Int32) (x5 : Int32) (h : m_X4_passDays_h6 g rec6 T x1 x2 x3 x4 x5 = some res) : Wk B X 7 T 6 [(0, .ref (B.1 g 0)), (1, .int x1), (2, .int x2), (3, .int x3), (4, .int x4), (5, .int x5)] [] := by
  unfold m_X4_passDays_h6 at h
  refine k_iload (pc := 6) C dX4_passDays_6 5 rfl ?_
  refine k_iload_n (pc := 8) C dX4_passDays_8 1 rfl ?_
  refine k_icmp_ge (pc := 9) C 83 dX4_passDays_9 (by decide) h (fun c2 h => ?_) (fun c2 h => ?_)
  · refine k_iload (pc := 83) C dX4_passDays_83 4 rfl ?_
    exact k_iret (pc := 85) C E (some_1 h) (some_2 h) dX4_passDays_85
  · refine k_aload_n (pc := 12) C dX4_passDays_12 0 rfl ?_
    refine gf_X4_56 (pc := 13) C hg dX4_passDays_13 ?_
    refine k_sipush (pc := 16) (v := (9999 : Int32)) C dX4_passDays_16 csipush_9999 ?_
    refine k_icmp_ge (pc := 19) C 83 dX4_passDays_19 (by decide) h (fun c1 h => ?_) (fun c1 h => ?_)
    · refine k_iload (pc := 83) C dX4_passDays_83 4 rfl ?_
      exact k_iret (pc := 85) C E (some_1 h) (some_2 h) dX4_passDays_85
    · refine k_iconst (pc := 22) (v := (0 : Int32)) C dX4_passDays_22 ciconst_0 ?_
      refine k_istore (pc := 23) C [(6, .int (0 : Int32)), (0, .ref (B.1 g 0)), (1, .int x1), (2, .int x2), (3, .int x3), (4, .int x4), (5, .int x5)] dX4_passDays_23 (by decide) rfl ?_
      refine k_sub [1, 2, 3, 4, 5, 6, 0] rfl ?_
      exact k_X4_passDays_l25 C E hg hrec6 FU T x1 x2 x3 x4 x5 (0 : Int32) h
set_option maxHeartbeats 4000000 in
set_option maxRecDepth 100000 in
theorem k_X4_passDays_l6 {B : KB} {X : KE} {g : Nat} {res : Int32 × TT} (C : Cx B X "GriefEngine$Rank" cX4_passDays 7 5) (E : Cr B X (some .int) (some (.int res.1)) res.2) (hg : g < 4) : ∀ (n : Nat) (T : TT) (x1 : Int32) (x2 : Int32) (x3 : Int32) (x4 : Int32) (x5 : Int32) (h : m_X4_passDays_l6 g n T x1 x2 x3 x4 x5 = some res), Wk B X 7 T 6 [(0, .ref (B.1 g 0)), (1, .int x1), (2, .int x2), (3, .int x3), (4, .int x4), (5, .int x5)] [] := by
  intro n
  induction n with
  | zero =>
    intro T x1 x2 x3 x4 x5 h
    exact no_some h
  | succ n ih =>
    intro T x1 x2 x3 x4 x5 h
    exact k_X4_passDays_h6 C E hg (fun T x1 x2 x3 x4 x5 h => ih T x1 x2 x3 x4 x5 h) T x1 x2 x3 x4 x5 h
set_option maxHeartbeats 4000000 in
set_option maxRecDepth 100000 in
theorem kc_X4_passDays {B : KB} {l : Launch} {T : TT} {g : Nat} {x1 : Int32} {x2 : Int32} {x3 : Int32} {res : Int32 × TT} (hg : g < 4) (h : m_X4_passDays T g x1 x2 x3 = some res) : Kt B l 5 yX4_passDays cX4_passDays 7 (some .int) T [.ref (B.1 g 0), .int x1, .int x2, .int x3] (some (.int res.1)) res.2 := by
  refine Kt.of (by decide) (Nat.le_of_ble_eq_true rfl) (fun X hX C E => ?_)
  subst hX
  have C : Cx B X "GriefEngine$Rank" cX4_passDays 7 5 := C
  show Wk B X 7 T 0 [(0, .ref (B.1 g 0)), (1, .int x1), (2, .int x2), (3, .int x3)] []
  unfold m_X4_passDays at h
  refine k_iconst (pc := 0) (v := (0 : Int32)) C dX4_passDays_0 ciconst_0 ?_
  refine k_istore (pc := 1) C [(4, .int (0 : Int32)), (0, .ref (B.1 g 0)), (1, .int x1), (2, .int x2), (3, .int x3)] dX4_passDays_1 (by decide) rfl ?_
  refine k_iconst (pc := 3) (v := (0 : Int32)) C dX4_passDays_3 ciconst_0 ?_
  refine k_istore (pc := 4) C [(5, .int (0 : Int32)), (4, .int (0 : Int32)), (0, .ref (B.1 g 0)), (1, .int x1), (2, .int x2), (3, .int x3)] dX4_passDays_4 (by decide) rfl ?_
  refine k_sub [2, 3, 4, 5, 1, 0] rfl ?_
  exact k_X4_passDays_l6 C E hg FU T x1 x2 x3 (0 : Int32) (0 : Int32) h
def m_X4_remember_b48 (g : Nat) (T : TT) : Option (TT) := bT ((T.2.1 g 11) * (13 : Int32)) (fun y5 => if inb y5 104 then bT (sA T g 7 (Int32.toNatClampNeg y5) (T.2.1 g 8)) (fun T6 => if ¬ (0 : Int32) < 0 ∧ ¬ (y5 + (1 : Int32)) < 0 ∧ ¬ (6 : Int32) < 0 ∧ Int32.toNatClampNeg (0 : Int32) + Int32.toNatClampNeg (6 : Int32) ≤ 6 ∧ Int32.toNatClampNeg (y5 + (1 : Int32)) + Int32.toNatClampNeg (6 : Int32) ≤ 104 then bT (cpA T6 g 3 (Int32.toNatClampNeg (0 : Int32)) g 7 (Int32.toNatClampNeg (y5 + (1 : Int32))) (Int32.toNatClampNeg (6 : Int32))) (fun T7 => if ¬ (0 : Int32) < 0 ∧ ¬ ((y5 + (1 : Int32)) + (6 : Int32)) < 0 ∧ ¬ (6 : Int32) < 0 ∧ Int32.toNatClampNeg (0 : Int32) + Int32.toNatClampNeg (6 : Int32) ≤ 6 ∧ Int32.toNatClampNeg ((y5 + (1 : Int32)) + (6 : Int32)) + Int32.toNatClampNeg (6 : Int32) ≤ 104 then bT (cpA T7 g 4 (Int32.toNatClampNeg (0 : Int32)) g 7 (Int32.toNatClampNeg ((y5 + (1 : Int32)) + (6 : Int32))) (Int32.toNatClampNeg (6 : Int32))) (fun T8 => bT (sI T8 g 11 ((T8.2.1 g 11) + (1 : Int32))) (fun T9 => some T9)) else none) else none) else none)
def m_X4_remember (T : TT) (g : Nat) : Option (TT) := if (T.2.1 g 8) < (9999 : Int32) then (if (T.2.1 g 11) < (8 : Int32) then (m_X4_remember_b48 g T) else (if ¬ (13 : Int32) < 0 ∧ ¬ (0 : Int32) < 0 ∧ ¬ ((104 : Int32) - (13 : Int32)) < 0 ∧ Int32.toNatClampNeg (13 : Int32) + Int32.toNatClampNeg ((104 : Int32) - (13 : Int32)) ≤ 104 ∧ Int32.toNatClampNeg (0 : Int32) + Int32.toNatClampNeg ((104 : Int32) - (13 : Int32)) ≤ 104 then bT (cpA T g 7 (Int32.toNatClampNeg (13 : Int32)) g 7 (Int32.toNatClampNeg (0 : Int32)) (Int32.toNatClampNeg ((104 : Int32) - (13 : Int32)))) (fun T1 => bT (sI T1 g 11 (7 : Int32)) (fun T2 => m_X4_remember_b48 g T2)) else none)) else (some T)
set_option maxHeartbeats 4000000 in
set_option maxRecDepth 100000 in
theorem k_X4_remember_b48 {B : KB} {X : KE} {g : Nat} {res : TT} (C : Cx B X "GriefEngine$Rank" cX4_remember 2 1) (E : Cr B X none none res) (hg : g < 4) (T : TT) (h : m_X4_remember_b48 g T = some res) : Wk B X 2 T 48 [(0, .ref (B.1 g 0))] [] := by
  unfold m_X4_remember_b48 at h
  refine k_aload_n (pc := 48) C dX4_remember_48 0 rfl ?_
  refine gf_X4_65 (pc := 49) C hg dX4_remember_49 ?_
  refine k_bipush (pc := 52) (v := (13 : Int32)) C dX4_remember_52 cbipush_13 ?_
  refine k_imul (pc := 54) C dX4_remember_54 ?_
  refine k_nI h (fun y5 h => ?_)
  refine k_istore_n (pc := 55) C [(1, .int y5), (0, .ref (B.1 g 0))] dX4_remember_55 (by decide) rfl ?_
  refine k_aload_n (pc := 56) C dX4_remember_56 1 rfl ?_
  refine gf_X4_49 (pc := 57) C hg dX4_remember_57 ?_
  refine k_iload_n (pc := 60) C dX4_remember_60 0 rfl ?_
  refine k_aload_n (pc := 61) C dX4_remember_61 1 rfl ?_
  refine gf_X4_56 (pc := 62) C hg dX4_remember_62 ?_
  refine k_iast (pc := 65) C (ia_R7 hg) dX4_remember_65 h (fun h => ?_)
  refine k_nT h (fun T6 h => ?_)
  refine k_aload_n (pc := 66) C dX4_remember_66 1 rfl ?_
  refine gf_X4_37 (pc := 67) C hg dX4_remember_67 ?_
  refine k_iconst (pc := 70) (v := (0 : Int32)) C dX4_remember_70 ciconst_0 ?_
  refine k_aload_n (pc := 71) C dX4_remember_71 1 rfl ?_
  refine gf_X4_49 (pc := 72) C hg dX4_remember_72 ?_
  refine k_iload_n (pc := 75) C dX4_remember_75 0 rfl ?_
  refine k_iconst (pc := 76) (v := (1 : Int32)) C dX4_remember_76 ciconst_1 ?_
  refine k_iadd (pc := 77) C dX4_remember_77 ?_
  refine k_bipush (pc := 78) (v := (6 : Int32)) C dX4_remember_78 cbipush_6 ?_
  refine k_copy (pc := 80) C (by decide) (ia_R3 hg) (ia_R7 hg) tw3_20 tw3_22 tw3_21 tw1_18 (Nat.le_of_ble_eq_true rfl) dX4_remember_80 h (fun h => ?_)
  refine k_nT h (fun T7 h => ?_)
  refine k_aload_n (pc := 83) C dX4_remember_83 1 rfl ?_
  refine gf_X4_40 (pc := 84) C hg dX4_remember_84 ?_
  refine k_iconst (pc := 87) (v := (0 : Int32)) C dX4_remember_87 ciconst_0 ?_
  refine k_aload_n (pc := 88) C dX4_remember_88 1 rfl ?_
  refine gf_X4_49 (pc := 89) C hg dX4_remember_89 ?_
  refine k_iload_n (pc := 92) C dX4_remember_92 0 rfl ?_
  refine k_iconst (pc := 93) (v := (1 : Int32)) C dX4_remember_93 ciconst_1 ?_
  refine k_iadd (pc := 94) C dX4_remember_94 ?_
  refine k_bipush (pc := 95) (v := (6 : Int32)) C dX4_remember_95 cbipush_6 ?_
  refine k_iadd (pc := 97) C dX4_remember_97 ?_
  refine k_bipush (pc := 98) (v := (6 : Int32)) C dX4_remember_98 cbipush_6 ?_
  refine k_copy (pc := 100) C (by decide) (ia_R4 hg) (ia_R7 hg) tw3_20 tw3_22 tw3_21 tw1_18 (Nat.le_of_ble_eq_true rfl) dX4_remember_100 h (fun h => ?_)
  refine k_nT h (fun T8 h => ?_)
  refine k_aload_n (pc := 103) C dX4_remember_103 1 rfl ?_
  refine k_dup (pc := 104) C dX4_remember_104 rfl ?_
  refine gf_X4_65 (pc := 105) C hg dX4_remember_105 ?_
  refine k_iconst (pc := 108) (v := (1 : Int32)) C dX4_remember_108 ciconst_1 ?_
  refine k_iadd (pc := 109) C dX4_remember_109 ?_
  refine pf_X4_65 (pc := 110) C hg dX4_remember_110 ?_
  refine k_nT h (fun T9 h => ?_)
  exact k_vret (pc := 113) C E (some_i h) dX4_remember_113
set_option maxHeartbeats 4000000 in
set_option maxRecDepth 100000 in
theorem kc_X4_remember {B : KB} {l : Launch} {T : TT} {g : Nat} {res : TT} (hg : g < 4) (h : m_X4_remember T g = some res) : Kt B l 1 yX4_remember cX4_remember 2 none T [.ref (B.1 g 0)] none res := by
  refine Kt.of (by decide) (Nat.le_of_ble_eq_true rfl) (fun X hX C E => ?_)
  subst hX
  have C : Cx B X "GriefEngine$Rank" cX4_remember 2 1 := C
  show Wk B X 2 T 0 [(0, .ref (B.1 g 0))] []
  unfold m_X4_remember at h
  refine k_aload_n (pc := 0) C dX4_remember_0 0 rfl ?_
  refine gf_X4_56 (pc := 1) C hg dX4_remember_1 ?_
  refine k_sipush (pc := 4) (v := (9999 : Int32)) C dX4_remember_4 csipush_9999 ?_
  refine k_icmp_lt (pc := 7) C 11 dX4_remember_7 (by decide) h (fun c4 h => ?_) (fun c4 h => ?_)
  · refine k_aload_n (pc := 11) C dX4_remember_11 0 rfl ?_
    refine gf_X4_65 (pc := 12) C hg dX4_remember_12 ?_
    refine k_bipush (pc := 15) (v := (8 : Int32)) C dX4_remember_15 cbipush_8 ?_
    refine k_icmp_lt (pc := 17) C 48 dX4_remember_17 (by decide) h (fun c3 h => ?_) (fun c3 h => ?_)
    · refine k_sub [0] rfl ?_
      exact k_X4_remember_b48 C E hg T h
    · refine k_aload_n (pc := 20) C dX4_remember_20 0 rfl ?_
      refine gf_X4_49 (pc := 21) C hg dX4_remember_21 ?_
      refine k_bipush (pc := 24) (v := (13 : Int32)) C dX4_remember_24 cbipush_13 ?_
      refine k_aload_n (pc := 26) C dX4_remember_26 0 rfl ?_
      refine gf_X4_49 (pc := 27) C hg dX4_remember_27 ?_
      refine k_iconst (pc := 30) (v := (0 : Int32)) C dX4_remember_30 ciconst_0 ?_
      refine k_aload_n (pc := 31) C dX4_remember_31 0 rfl ?_
      refine gf_X4_49 (pc := 32) C hg dX4_remember_32 ?_
      refine k_ilen (pc := 35) C (ia_R7 hg) (104 : Int32) dX4_remember_35 (by decide) ?_
      refine k_bipush (pc := 36) (v := (13 : Int32)) C dX4_remember_36 cbipush_13 ?_
      refine k_isub (pc := 38) C dX4_remember_38 ?_
      refine k_copy (pc := 39) C (by decide) (ia_R7 hg) (ia_R7 hg) tw3_20 tw3_22 tw3_21 tw1_18 (Nat.le_of_ble_eq_true rfl) dX4_remember_39 h (fun h => ?_)
      refine k_nT h (fun T1 h => ?_)
      refine k_aload_n (pc := 42) C dX4_remember_42 0 rfl ?_
      refine k_bipush (pc := 43) (v := (7 : Int32)) C dX4_remember_43 cbipush_7 ?_
      refine pf_X4_65 (pc := 45) C hg dX4_remember_45 ?_
      refine k_nT h (fun T2 h => ?_)
      refine k_sub [0] rfl ?_
      exact k_X4_remember_b48 C E hg T2 h
  · exact k_vret (pc := 10) C E (some_i h) dX4_remember_10
def m_X4_takeBack (T : TT) (g : Nat) : Option (TT) := if 0 < (T.2.1 g 11) then (bT (sI T g 11 ((T.2.1 g 11) - (1 : Int32))) (fun T1 => bT ((T1.2.1 g 11) * (13 : Int32)) (fun y2 => if inb y2 104 then (bT (sI T1 g 8 (T1.1 g 7 (Int32.toNatClampNeg y2))) (fun T3 => if ¬ (y2 + (1 : Int32)) < 0 ∧ ¬ (0 : Int32) < 0 ∧ ¬ (6 : Int32) < 0 ∧ Int32.toNatClampNeg (y2 + (1 : Int32)) + Int32.toNatClampNeg (6 : Int32) ≤ 104 ∧ Int32.toNatClampNeg (0 : Int32) + Int32.toNatClampNeg (6 : Int32) ≤ 6 then bT (cpA T3 g 7 (Int32.toNatClampNeg (y2 + (1 : Int32))) g 3 (Int32.toNatClampNeg (0 : Int32)) (Int32.toNatClampNeg (6 : Int32))) (fun T4 => if ¬ ((y2 + (1 : Int32)) + (6 : Int32)) < 0 ∧ ¬ (0 : Int32) < 0 ∧ ¬ (6 : Int32) < 0 ∧ Int32.toNatClampNeg ((y2 + (1 : Int32)) + (6 : Int32)) + Int32.toNatClampNeg (6 : Int32) ≤ 104 ∧ Int32.toNatClampNeg (0 : Int32) + Int32.toNatClampNeg (6 : Int32) ≤ 6 then bT (cpA T4 g 7 (Int32.toNatClampNeg ((y2 + (1 : Int32)) + (6 : Int32))) g 4 (Int32.toNatClampNeg (0 : Int32)) (Int32.toNatClampNeg (6 : Int32))) (fun T5 => some T5) else none) else none)) else none))) else (some T)
set_option maxHeartbeats 4000000 in
set_option maxRecDepth 100000 in
theorem kc_X4_takeBack {B : KB} {l : Launch} {T : TT} {g : Nat} {res : TT} (hg : g < 4) (h : m_X4_takeBack T g = some res) : Kt B l 1 yX4_takeBack cX4_takeBack 2 none T [.ref (B.1 g 0)] none res := by
  refine Kt.of (by decide) (Nat.le_of_ble_eq_true rfl) (fun X hX C E => ?_)
  subst hX
  have C : Cx B X "GriefEngine$Rank" cX4_takeBack 2 1 := C
  show Wk B X 2 T 0 [(0, .ref (B.1 g 0))] []
  unfold m_X4_takeBack at h
  refine k_aload_n (pc := 0) C dX4_takeBack_0 0 rfl ?_
  refine gf_X4_65 (pc := 1) C hg dX4_takeBack_1 ?_
  refine k_if_gt (pc := 4) C 8 dX4_takeBack_4 (by decide) h (fun c6 h => ?_) (fun c6 h => ?_)
  · refine k_aload_n (pc := 8) C dX4_takeBack_8 0 rfl ?_
    refine k_dup (pc := 9) C dX4_takeBack_9 rfl ?_
    refine gf_X4_65 (pc := 10) C hg dX4_takeBack_10 ?_
    refine k_iconst (pc := 13) (v := (1 : Int32)) C dX4_takeBack_13 ciconst_1 ?_
    refine k_isub (pc := 14) C dX4_takeBack_14 ?_
    refine pf_X4_65 (pc := 15) C hg dX4_takeBack_15 ?_
    refine k_nT h (fun T1 h => ?_)
    refine k_aload_n (pc := 18) C dX4_takeBack_18 0 rfl ?_
    refine gf_X4_65 (pc := 19) C hg dX4_takeBack_19 ?_
    refine k_bipush (pc := 22) (v := (13 : Int32)) C dX4_takeBack_22 cbipush_13 ?_
    refine k_imul (pc := 24) C dX4_takeBack_24 ?_
    refine k_nI h (fun y2 h => ?_)
    refine k_istore_n (pc := 25) C [(1, .int y2), (0, .ref (B.1 g 0))] dX4_takeBack_25 (by decide) rfl ?_
    refine k_aload_n (pc := 26) C dX4_takeBack_26 1 rfl ?_
    refine k_aload_n (pc := 27) C dX4_takeBack_27 1 rfl ?_
    refine gf_X4_49 (pc := 28) C hg dX4_takeBack_28 ?_
    refine k_iload_n (pc := 31) C dX4_takeBack_31 0 rfl ?_
    refine k_iald (pc := 32) C (ia_R7 hg) dX4_takeBack_32 h (fun h => ?_)
    refine pf_X4_56 (pc := 33) C hg dX4_takeBack_33 ?_
    refine k_nT h (fun T3 h => ?_)
    refine k_aload_n (pc := 36) C dX4_takeBack_36 1 rfl ?_
    refine gf_X4_49 (pc := 37) C hg dX4_takeBack_37 ?_
    refine k_iload_n (pc := 40) C dX4_takeBack_40 0 rfl ?_
    refine k_iconst (pc := 41) (v := (1 : Int32)) C dX4_takeBack_41 ciconst_1 ?_
    refine k_iadd (pc := 42) C dX4_takeBack_42 ?_
    refine k_aload_n (pc := 43) C dX4_takeBack_43 1 rfl ?_
    refine gf_X4_37 (pc := 44) C hg dX4_takeBack_44 ?_
    refine k_iconst (pc := 47) (v := (0 : Int32)) C dX4_takeBack_47 ciconst_0 ?_
    refine k_bipush (pc := 48) (v := (6 : Int32)) C dX4_takeBack_48 cbipush_6 ?_
    refine k_copy (pc := 50) C (by decide) (ia_R7 hg) (ia_R3 hg) tw3_20 tw3_22 tw3_21 tw1_18 (Nat.le_of_ble_eq_true rfl) dX4_takeBack_50 h (fun h => ?_)
    refine k_nT h (fun T4 h => ?_)
    refine k_aload_n (pc := 53) C dX4_takeBack_53 1 rfl ?_
    refine gf_X4_49 (pc := 54) C hg dX4_takeBack_54 ?_
    refine k_iload_n (pc := 57) C dX4_takeBack_57 0 rfl ?_
    refine k_iconst (pc := 58) (v := (1 : Int32)) C dX4_takeBack_58 ciconst_1 ?_
    refine k_iadd (pc := 59) C dX4_takeBack_59 ?_
    refine k_bipush (pc := 60) (v := (6 : Int32)) C dX4_takeBack_60 cbipush_6 ?_
    refine k_iadd (pc := 62) C dX4_takeBack_62 ?_
    refine k_aload_n (pc := 63) C dX4_takeBack_63 1 rfl ?_
    refine gf_X4_40 (pc := 64) C hg dX4_takeBack_64 ?_
    refine k_iconst (pc := 67) (v := (0 : Int32)) C dX4_takeBack_67 ciconst_0 ?_
    refine k_bipush (pc := 68) (v := (6 : Int32)) C dX4_takeBack_68 cbipush_6 ?_
    refine k_copy (pc := 70) C (by decide) (ia_R7 hg) (ia_R4 hg) tw3_20 tw3_22 tw3_21 tw1_18 (Nat.le_of_ble_eq_true rfl) dX4_takeBack_70 h (fun h => ?_)
    refine k_nT h (fun T5 h => ?_)
    exact k_vret (pc := 73) C E (some_i h) dX4_takeBack_73
  · exact k_vret (pc := 7) C E (some_i h) dX4_takeBack_7
def m_X4_sumOf_h4 (T : TT) (g : Nat) (ag af an : Nat) (rec4 : Int32 → Int32 → Option (Int32)) (x2 : Int32) (x3 : Int32) : Option (Int32) := if (T.2.1 g 7) ≤ x3 then (some x2) else (if (Int32.ofNat an) ≤ x3 then (some x2) else (if inb x3 an then (bT (x2 + (T.1 ag af (Int32.toNatClampNeg x3))) (fun y1 => bT (x3 + (1 : Int32)) (fun y2 => rec4 y1 y2))) else none))
def m_X4_sumOf_l4 (T : TT) (g : Nat) (ag af an : Nat) : Nat → Int32 → Int32 → Option (Int32)
  | 0 => fun _ _ => none
  | n + 1 => fun x2 x3 => m_X4_sumOf_h4 T g ag af an (m_X4_sumOf_l4 T g ag af an n) x2 x3
def m_X4_sumOf (T : TT) (g : Nat) (ag af an : Nat) : Option (Int32) := m_X4_sumOf_l4 T g ag af an FU (0 : Int32) (0 : Int32)
set_option maxHeartbeats 4000000 in
set_option maxRecDepth 100000 in
theorem k_X4_sumOf_h4 {B : KB} {X : KE} {T : TT} {g : Nat} {ag af an : Nat} {rec4 : Int32 → Int32 → Option (Int32)} {res : Int32} (C : Cx B X "GriefEngine$Rank" cX4_sumOf 4 1) (E : Cr B X (some .int) (some (.int res)) T) (hg : g < 4) (hI : isI B ag af an) (hrec4 : ∀ (x2 : Int32) (x3 : Int32), rec4 x2 x3 = some res → Wk B X 4 T 4 [(0, .ref (B.1 g 0)), (1, .ref (B.1 ag af)), (2, .int x2), (3, .int x3)] []) (x2 : Int32) (x3 : Int32) (h : m_X4_sumOf_h4 T g ag af an rec4 x2 x3 = some res) : Wk B X 4 T 4 [(0, .ref (B.1 g 0)), (1, .ref (B.1 ag af)), (2, .int x2), (3, .int x3)] [] := by
  unfold m_X4_sumOf_h4 at h
  refine k_iload_n (pc := 4) C dX4_sumOf_4 3 rfl ?_
  refine k_aload_n (pc := 5) C dX4_sumOf_5 0 rfl ?_
  refine gf_X4_52 (pc := 6) C hg dX4_sumOf_6 ?_
  refine k_icmp_ge (pc := 9) C 30 dX4_sumOf_9 (by decide) h (fun c4 h => ?_) (fun c4 h => ?_)
  · refine k_iload_n (pc := 30) C dX4_sumOf_30 2 rfl ?_
    exact k_iret (pc := 31) C E (some_i h) rfl dX4_sumOf_31
  · refine k_iload_n (pc := 12) C dX4_sumOf_12 3 rfl ?_
    refine k_aload_n (pc := 13) C dX4_sumOf_13 1 rfl ?_
    refine k_ilen (pc := 14) C hI (Int32.ofNat an) dX4_sumOf_14 rfl ?_
    refine k_icmp_ge (pc := 15) C 30 dX4_sumOf_15 (by decide) h (fun c3 h => ?_) (fun c3 h => ?_)
    · refine k_iload_n (pc := 30) C dX4_sumOf_30 2 rfl ?_
      exact k_iret (pc := 31) C E (some_i h) rfl dX4_sumOf_31
    · refine k_iload_n (pc := 18) C dX4_sumOf_18 2 rfl ?_
      refine k_aload_n (pc := 19) C dX4_sumOf_19 1 rfl ?_
      refine k_iload_n (pc := 20) C dX4_sumOf_20 3 rfl ?_
      refine k_iald (pc := 21) C hI dX4_sumOf_21 h (fun h => ?_)
      refine k_iadd (pc := 22) C dX4_sumOf_22 ?_
      refine k_nI h (fun y1 h => ?_)
      refine k_istore_n (pc := 23) C [(2, .int y1), (0, .ref (B.1 g 0)), (1, .ref (B.1 ag af)), (3, .int x3)] dX4_sumOf_23 (by decide) rfl ?_
      refine k_iincN (pc := 24) (x := x3) (c := (1 : Int32)) C (fun y2 => [(3, .int y2), (2, .int y1), (0, .ref (B.1 g 0)), (1, .ref (B.1 ag af))]) dX4_sumOf_24 3 rfl ciconst_1 (by decide) (fun _ => rfl) h (fun y2 h => ?_)
      refine k_goto (pc := 27) C 4 dX4_sumOf_27 (by decide) ?_
      refine k_sub [2, 3, 1, 0] rfl ?_
      exact hrec4 y1 y2 h
set_option maxHeartbeats 4000000 in
set_option maxRecDepth 100000 in
theorem k_X4_sumOf_l4 {B : KB} {X : KE} {T : TT} {g : Nat} {ag af an : Nat} {res : Int32} (C : Cx B X "GriefEngine$Rank" cX4_sumOf 4 1) (E : Cr B X (some .int) (some (.int res)) T) (hg : g < 4) (hI : isI B ag af an) : ∀ (n : Nat) (x2 : Int32) (x3 : Int32) (h : m_X4_sumOf_l4 T g ag af an n x2 x3 = some res), Wk B X 4 T 4 [(0, .ref (B.1 g 0)), (1, .ref (B.1 ag af)), (2, .int x2), (3, .int x3)] [] := by
  intro n
  induction n with
  | zero =>
    intro x2 x3 h
    exact no_some h
  | succ n ih =>
    intro x2 x3 h
    exact k_X4_sumOf_h4 C E hg hI (fun x2 x3 h => ih x2 x3 h) x2 x3 h
set_option maxHeartbeats 4000000 in
set_option maxRecDepth 100000 in
theorem kc_X4_sumOf {B : KB} {l : Launch} {T : TT} {g : Nat} {ag af an : Nat} {res : Int32} (hg : g < 4) (hI : isI B ag af an) (h : m_X4_sumOf T g ag af an = some res) : Kt B l 1 yX4_sumOf cX4_sumOf 4 (some .int) T [.ref (B.1 g 0), .ref (B.1 ag af)] (some (.int res)) T := by
  refine Kt.of (by decide) (Nat.le_of_ble_eq_true rfl) (fun X hX C E => ?_)
  subst hX
  have C : Cx B X "GriefEngine$Rank" cX4_sumOf 4 1 := C
  show Wk B X 4 T 0 [(0, .ref (B.1 g 0)), (1, .ref (B.1 ag af))] []
  unfold m_X4_sumOf at h
  refine k_iconst (pc := 0) (v := (0 : Int32)) C dX4_sumOf_0 ciconst_0 ?_
  refine k_istore_n (pc := 1) C [(2, .int (0 : Int32)), (0, .ref (B.1 g 0)), (1, .ref (B.1 ag af))] dX4_sumOf_1 (by decide) rfl ?_
  refine k_iconst (pc := 2) (v := (0 : Int32)) C dX4_sumOf_2 ciconst_0 ?_
  refine k_istore_n (pc := 3) C [(3, .int (0 : Int32)), (2, .int (0 : Int32)), (0, .ref (B.1 g 0)), (1, .ref (B.1 ag af))] dX4_sumOf_3 (by decide) rfl ?_
  refine k_sub [2, 3, 1, 0] rfl ?_
  exact k_X4_sumOf_l4 C E hg hI FU (0 : Int32) (0 : Int32) h
def m_X4_addNote (T : TT) (g : Nat) (x1 : Int32) (x2 : Int32) (x3 : Int32) (x4 : Int32) (x5 : Int32) (x6 : Int32) : Option (Int32 × TT) := if (T.2.1 g 9) < (6 : Int32) then (bT ((T.2.1 g 9) * (6 : Int32)) (fun y1 => if inb y1 36 then bT (sA T g 5 (Int32.toNatClampNeg y1) x1) (fun T2 => if inb (y1 + (1 : Int32)) 36 then bT (sA T2 g 5 (Int32.toNatClampNeg (y1 + (1 : Int32))) x2) (fun T3 => if inb (y1 + (2 : Int32)) 36 then bT (sA T3 g 5 (Int32.toNatClampNeg (y1 + (2 : Int32))) x3) (fun T4 => if inb (y1 + (3 : Int32)) 36 then bT (sA T4 g 5 (Int32.toNatClampNeg (y1 + (3 : Int32))) x4) (fun T5 => if inb (y1 + (4 : Int32)) 36 then bT (sA T5 g 5 (Int32.toNatClampNeg (y1 + (4 : Int32))) x5) (fun T6 => if inb (y1 + (5 : Int32)) 36 then bT (sA T6 g 5 (Int32.toNatClampNeg (y1 + (5 : Int32))) x6) (fun T7 => bT (sI T7 g 9 ((T7.2.1 g 9) + (1 : Int32))) (fun T8 => some ((T8.2.1 g 9), T8))) else none) else none) else none) else none) else none) else none)) else (some ((-4 : Int32), T))
set_option maxHeartbeats 4000000 in
set_option maxRecDepth 100000 in
theorem kc_X4_addNote {B : KB} {l : Launch} {T : TT} {g : Nat} {x1 : Int32} {x2 : Int32} {x3 : Int32} {x4 : Int32} {x5 : Int32} {x6 : Int32} {res : Int32 × TT} (hg : g < 4) (h : m_X4_addNote T g x1 x2 x3 x4 x5 x6 = some res) : Kt B l 1 yX4_addNote cX4_addNote 8 (some .int) T [.ref (B.1 g 0), .int x1, .int x2, .int x3, .int x4, .int x5, .int x6] (some (.int res.1)) res.2 := by
  refine Kt.of (by decide) (Nat.le_of_ble_eq_true rfl) (fun X hX C E => ?_)
  subst hX
  have C : Cx B X "GriefEngine$Rank" cX4_addNote 8 1 := C
  show Wk B X 8 T 0 [(0, .ref (B.1 g 0)), (1, .int x1), (2, .int x2), (3, .int x3), (4, .int x4), (5, .int x5), (6, .int x6)] []
  unfold m_X4_addNote at h
  refine k_aload_n (pc := 0) C dX4_addNote_0 0 rfl ?_
  refine gf_X4_59 (pc := 1) C hg dX4_addNote_1 ?_
  refine k_bipush (pc := 4) (v := (6 : Int32)) C dX4_addNote_4 cbipush_6 ?_
  refine k_icmp_lt (pc := 6) C 12 dX4_addNote_6 (by decide) h (fun c9 h => ?_) (fun c9 h => ?_)
  · refine k_aload_n (pc := 12) C dX4_addNote_12 0 rfl ?_
    refine gf_X4_59 (pc := 13) C hg dX4_addNote_13 ?_
    refine k_bipush (pc := 16) (v := (6 : Int32)) C dX4_addNote_16 cbipush_6 ?_
    refine k_imul (pc := 18) C dX4_addNote_18 ?_
    refine k_nI h (fun y1 h => ?_)
    refine k_istore (pc := 19) C [(7, .int y1), (0, .ref (B.1 g 0)), (1, .int x1), (2, .int x2), (3, .int x3), (4, .int x4), (5, .int x5), (6, .int x6)] dX4_addNote_19 (by decide) rfl ?_
    refine k_aload_n (pc := 21) C dX4_addNote_21 1 rfl ?_
    refine gf_X4_43 (pc := 22) C hg dX4_addNote_22 ?_
    refine k_iload (pc := 25) C dX4_addNote_25 0 rfl ?_
    refine k_iload_n (pc := 27) C dX4_addNote_27 2 rfl ?_
    refine k_iast (pc := 28) C (ia_R5 hg) dX4_addNote_28 h (fun h => ?_)
    refine k_nT h (fun T2 h => ?_)
    refine k_aload_n (pc := 29) C dX4_addNote_29 1 rfl ?_
    refine gf_X4_43 (pc := 30) C hg dX4_addNote_30 ?_
    refine k_iload (pc := 33) C dX4_addNote_33 0 rfl ?_
    refine k_iconst (pc := 35) (v := (1 : Int32)) C dX4_addNote_35 ciconst_1 ?_
    refine k_iadd (pc := 36) C dX4_addNote_36 ?_
    refine k_iload_n (pc := 37) C dX4_addNote_37 3 rfl ?_
    refine k_iast (pc := 38) C (ia_R5 hg) dX4_addNote_38 h (fun h => ?_)
    refine k_nT h (fun T3 h => ?_)
    refine k_aload_n (pc := 39) C dX4_addNote_39 1 rfl ?_
    refine gf_X4_43 (pc := 40) C hg dX4_addNote_40 ?_
    refine k_iload (pc := 43) C dX4_addNote_43 0 rfl ?_
    refine k_iconst (pc := 45) (v := (2 : Int32)) C dX4_addNote_45 ciconst_2 ?_
    refine k_iadd (pc := 46) C dX4_addNote_46 ?_
    refine k_iload_n (pc := 47) C dX4_addNote_47 4 rfl ?_
    refine k_iast (pc := 48) C (ia_R5 hg) dX4_addNote_48 h (fun h => ?_)
    refine k_nT h (fun T4 h => ?_)
    refine k_aload_n (pc := 49) C dX4_addNote_49 1 rfl ?_
    refine gf_X4_43 (pc := 50) C hg dX4_addNote_50 ?_
    refine k_iload (pc := 53) C dX4_addNote_53 0 rfl ?_
    refine k_iconst (pc := 55) (v := (3 : Int32)) C dX4_addNote_55 ciconst_3 ?_
    refine k_iadd (pc := 56) C dX4_addNote_56 ?_
    refine k_iload (pc := 57) C dX4_addNote_57 5 rfl ?_
    refine k_iast (pc := 59) C (ia_R5 hg) dX4_addNote_59 h (fun h => ?_)
    refine k_nT h (fun T5 h => ?_)
    refine k_aload_n (pc := 60) C dX4_addNote_60 1 rfl ?_
    refine gf_X4_43 (pc := 61) C hg dX4_addNote_61 ?_
    refine k_iload (pc := 64) C dX4_addNote_64 0 rfl ?_
    refine k_iconst (pc := 66) (v := (4 : Int32)) C dX4_addNote_66 ciconst_4 ?_
    refine k_iadd (pc := 67) C dX4_addNote_67 ?_
    refine k_iload (pc := 68) C dX4_addNote_68 6 rfl ?_
    refine k_iast (pc := 70) C (ia_R5 hg) dX4_addNote_70 h (fun h => ?_)
    refine k_nT h (fun T6 h => ?_)
    refine k_aload_n (pc := 71) C dX4_addNote_71 1 rfl ?_
    refine gf_X4_43 (pc := 72) C hg dX4_addNote_72 ?_
    refine k_iload (pc := 75) C dX4_addNote_75 0 rfl ?_
    refine k_iconst (pc := 77) (v := (5 : Int32)) C dX4_addNote_77 ciconst_5 ?_
    refine k_iadd (pc := 78) C dX4_addNote_78 ?_
    refine k_iload (pc := 79) C dX4_addNote_79 7 rfl ?_
    refine k_iast (pc := 81) C (ia_R5 hg) dX4_addNote_81 h (fun h => ?_)
    refine k_nT h (fun T7 h => ?_)
    refine k_aload_n (pc := 82) C dX4_addNote_82 1 rfl ?_
    refine k_dup (pc := 83) C dX4_addNote_83 rfl ?_
    refine gf_X4_59 (pc := 84) C hg dX4_addNote_84 ?_
    refine k_iconst (pc := 87) (v := (1 : Int32)) C dX4_addNote_87 ciconst_1 ?_
    refine k_iadd (pc := 88) C dX4_addNote_88 ?_
    refine pf_X4_59 (pc := 89) C hg dX4_addNote_89 ?_
    refine k_nT h (fun T8 h => ?_)
    refine k_aload_n (pc := 92) C dX4_addNote_92 1 rfl ?_
    refine gf_X4_59 (pc := 93) C hg dX4_addNote_93 ?_
    exact k_iret (pc := 96) C E (some_1 h) (some_2 h) dX4_addNote_96
  · refine k_bipush (pc := 9) (v := (-4 : Int32)) C dX4_addNote_9 cbipush_m4 ?_
    exact k_iret (pc := 11) C E (some_1 h) (some_2 h) dX4_addNote_11
