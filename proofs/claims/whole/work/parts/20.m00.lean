def m_X3_behindDriving (h0 : Nat × Nat) (x1 : Int32) : Option (Int32) := some ((x1 - (1 : Int32)) - (x1 / (10 : Int32)))
set_option maxHeartbeats 4000000 in
set_option maxRecDepth 100000 in
theorem kc_X3_behindDriving {B : KB} {l : Launch} {T : TT} {h0 : Nat × Nat} {x1 : Int32} {res : Int32} (hk0 : kok h0.1 h0.2) (h : m_X3_behindDriving h0 x1 = some res) : Kt B l 1 yX3_behindDriving cX3_behindDriving 2 (some .int) T [.ref (B.1 h0.1 h0.2), .int x1] (some (.int res)) T := by
  refine Kt.of (by decide) (Nat.le_of_ble_eq_true rfl) (fun X hX C E => ?_)
  subst hX
  have C : Cx B X "GriefEngine$Plain" cX3_behindDriving 2 1 := C
  show Wk B X 2 T 0 [(0, .ref (B.1 h0.1 h0.2)), (1, .int x1)] []
  unfold m_X3_behindDriving at h
  refine k_iload_n (pc := 0) C dX3_behindDriving_0 1 rfl ?_
  refine k_iconst (pc := 1) (v := (1 : Int32)) C dX3_behindDriving_1 ciconst_1 ?_
  refine k_isub (pc := 2) C dX3_behindDriving_2 ?_
  refine k_iload_n (pc := 3) C dX3_behindDriving_3 1 rfl ?_
  refine k_bipush (pc := 4) (v := (10 : Int32)) C dX3_behindDriving_4 cbipush_10 ?_
  refine k_idivc (pc := 6) C dX3_behindDriving_6 (by decide) ?_
  refine k_isub (pc := 7) C dX3_behindDriving_7 ?_
  exact k_iret (pc := 8) C E (some_i h) rfl dX3_behindDriving_8
def m_X0_behindDriving (h0 : Nat × Nat) (x1 : Int32) : Option (Int32) := (m_X3_behindDriving h0 x1).bind (fun z1 => some (if (z1 + (1 : Int32)) < x1 then (z1 + (1 : Int32)) else x1))
set_option maxHeartbeats 4000000 in
set_option maxRecDepth 100000 in
theorem kc_X0_behindDriving {B : KB} {l : Launch} {T : TT} {h0 : Nat × Nat} {x1 : Int32} {res : Int32} (hk0 : kok h0.1 h0.2) (h : m_X0_behindDriving h0 x1 = some res) : Kt B l 2 yX0_behindDriving cX0_behindDriving 2 (some .int) T [.ref (B.1 h0.1 h0.2), .int x1] (some (.int res)) T := by
  refine Kt.of (by decide) (Nat.le_of_ble_eq_true rfl) (fun X hX C E => ?_)
  subst hX
  have C : Cx B X "GriefEngine$Keeper" cX0_behindDriving 2 2 := C
  show Wk B X 2 T 0 [(0, .ref (B.1 h0.1 h0.2)), (1, .int x1)] []
  unfold m_X0_behindDriving at h
  refine k_iload_n (pc := 0) C dX0_behindDriving_0 1 rfl ?_
  refine k_aload_n (pc := 1) C dX0_behindDriving_1 0 rfl ?_
  refine k_iload_n (pc := 2) C dX0_behindDriving_2 1 rfl ?_
  obtain ⟨z1, e1, h⟩ := bnd h
  refine k_callpI (pc := 3) C lk_X0_7 (by decide) (kok_at hk0).1 ((kok_at hk0).2.1 _ _) (ci_at hk0) (kc_X3_behindDriving hk0 e1) dX0_behindDriving_3 rfl rfl (Nat.le_of_ble_eq_true rfl) ?_
  refine k_iconst (pc := 6) (v := (1 : Int32)) C dX0_behindDriving_6 ciconst_1 ?_
  refine k_iadd (pc := 7) C dX0_behindDriving_7 ?_
  refine k_mmin (pc := 8) C (by decide) tw2_211 tw2_184 tw1_17 tw2_185 (Nat.le_of_ble_eq_true rfl) dX0_behindDriving_8 ?_
  exact k_iret (pc := 11) C E (some_i h) rfl dX0_behindDriving_11
def m_X3_runs (h0 : Nat × Nat) (x1 : Int32) (x2 : Int32) : Option (Int32) := bT ((2 : Int32) * x2) (fun y1 => if x1 = 0 then (some (y1 / (2 : Int32))) else (some y1))
set_option maxHeartbeats 4000000 in
set_option maxRecDepth 100000 in
theorem kc_X3_runs {B : KB} {l : Launch} {T : TT} {h0 : Nat × Nat} {x1 : Int32} {x2 : Int32} {res : Int32} (hk0 : kok h0.1 h0.2) (h : m_X3_runs h0 x1 x2 = some res) : Kt B l 1 yX3_runs cX3_runs 4 (some .int) T [.ref (B.1 h0.1 h0.2), .int x1, .int x2] (some (.int res)) T := by
  refine Kt.of (by decide) (Nat.le_of_ble_eq_true rfl) (fun X hX C E => ?_)
  subst hX
  have C : Cx B X "GriefEngine$Plain" cX3_runs 4 1 := C
  show Wk B X 4 T 0 [(0, .ref (B.1 h0.1 h0.2)), (1, .int x1), (2, .int x2)] []
  unfold m_X3_runs at h
  refine k_iconst (pc := 0) (v := (2 : Int32)) C dX3_runs_0 ciconst_2 ?_
  refine k_iload_n (pc := 1) C dX3_runs_1 2 rfl ?_
  refine k_imul (pc := 2) C dX3_runs_2 ?_
  refine k_nI h (fun y1 h => ?_)
  refine k_istore_n (pc := 3) C [(3, .int y1), (0, .ref (B.1 h0.1 h0.2)), (1, .int x1), (2, .int x2)] dX3_runs_3 (by decide) rfl ?_
  refine k_iload_n (pc := 4) C dX3_runs_4 2 rfl ?_
  refine k_if_ne (pc := 5) C 14 dX3_runs_5 (by decide) h (fun c2 h => ?_) (fun c2 h => ?_)
  · refine k_iload_n (pc := 14) C dX3_runs_14 0 rfl ?_
    exact k_iret (pc := 15) C E (some_i h) rfl dX3_runs_15
  · refine k_iload_n (pc := 8) C dX3_runs_8 0 rfl ?_
    refine k_iconst (pc := 9) (v := (2 : Int32)) C dX3_runs_9 ciconst_2 ?_
    refine k_idivc (pc := 10) C dX3_runs_10 (by decide) ?_
    refine k_goto (pc := 11) C 15 dX3_runs_11 (by decide) ?_
    exact k_iret (pc := 15) C E (some_i h) rfl dX3_runs_15
def m_X7_runs (h0 : Nat × Nat) (x1 : Int32) (x2 : Int32) : Option (Int32) := if x1 = (1 : Int32) then (some (0 : Int32)) else ((m_X3_runs h0 x1 x2).bind (fun z1 => some z1))
set_option maxHeartbeats 4000000 in
set_option maxRecDepth 100000 in
theorem kc_X7_runs {B : KB} {l : Launch} {T : TT} {h0 : Nat × Nat} {x1 : Int32} {x2 : Int32} {res : Int32} (hk0 : kok h0.1 h0.2) (h : m_X7_runs h0 x1 x2 = some res) : Kt B l 2 yX7_runs cX7_runs 3 (some .int) T [.ref (B.1 h0.1 h0.2), .int x1, .int x2] (some (.int res)) T := by
  refine Kt.of (by decide) (Nat.le_of_ble_eq_true rfl) (fun X hX C E => ?_)
  subst hX
  have C : Cx B X "GriefEngine$Spring" cX7_runs 3 2 := C
  show Wk B X 3 T 0 [(0, .ref (B.1 h0.1 h0.2)), (1, .int x1), (2, .int x2)] []
  unfold m_X7_runs at h
  refine k_iload_n (pc := 0) C dX7_runs_0 1 rfl ?_
  refine k_iconst (pc := 1) (v := (1 : Int32)) C dX7_runs_1 ciconst_1 ?_
  refine k_icmp_ne (pc := 2) C 9 dX7_runs_2 (by decide) h (fun c2 h => ?_) (fun c2 h => ?_)
  · refine k_aload_n (pc := 9) C dX7_runs_9 0 rfl ?_
    refine k_iload_n (pc := 10) C dX7_runs_10 1 rfl ?_
    refine k_iload_n (pc := 11) C dX7_runs_11 2 rfl ?_
    obtain ⟨z1, e1, h⟩ := bnd h
    refine k_callpI (pc := 12) C lk_X7_9 (by decide) (kok_at hk0).1 ((kok_at hk0).2.1 _ _) (ci_at hk0) (kc_X3_runs hk0 e1) dX7_runs_12 rfl rfl (Nat.le_of_ble_eq_true rfl) ?_
    exact k_iret (pc := 15) C E (some_i h) rfl dX7_runs_15
  · refine k_iconst (pc := 5) (v := (0 : Int32)) C dX7_runs_5 ciconst_0 ?_
    refine k_goto (pc := 6) C 15 dX7_runs_6 (by decide) ?_
    exact k_iret (pc := 15) C E (some_i h) rfl dX7_runs_15
def m_X1_runs (h0 : Nat × Nat) (x1 : Int32) (x2 : Int32) : Option (Int32) := (m_X7_runs h0 x1 x2).bind (fun z1 => some (if z1 < (30 : Int32) then z1 else (30 : Int32)))
set_option maxHeartbeats 4000000 in
set_option maxRecDepth 100000 in
theorem kc_X1_runs {B : KB} {l : Launch} {T : TT} {h0 : Nat × Nat} {x1 : Int32} {x2 : Int32} {res : Int32} (hk0 : kok h0.1 h0.2) (h : m_X1_runs h0 x1 x2 = some res) : Kt B l 3 yX1_runs cX1_runs 3 (some .int) T [.ref (B.1 h0.1 h0.2), .int x1, .int x2] (some (.int res)) T := by
  refine Kt.of (by decide) (Nat.le_of_ble_eq_true rfl) (fun X hX C E => ?_)
  subst hX
  have C : Cx B X "GriefEngine$Old" cX1_runs 3 3 := C
  show Wk B X 3 T 0 [(0, .ref (B.1 h0.1 h0.2)), (1, .int x1), (2, .int x2)] []
  unfold m_X1_runs at h
  refine k_bipush (pc := 0) (v := (30 : Int32)) C dX1_runs_0 cbipush_30 ?_
  refine k_aload_n (pc := 2) C dX1_runs_2 0 rfl ?_
  refine k_iload_n (pc := 3) C dX1_runs_3 1 rfl ?_
  refine k_iload_n (pc := 4) C dX1_runs_4 2 rfl ?_
  obtain ⟨z1, e1, h⟩ := bnd h
  refine k_callpI (pc := 5) C lk_X1_7 (by decide) (kok_at hk0).1 ((kok_at hk0).2.1 _ _) (ci_at hk0) (kc_X7_runs hk0 e1) dX1_runs_5 rfl rfl (Nat.le_of_ble_eq_true rfl) ?_
  refine k_mmin (pc := 8) C (by decide) tw2_183 tw2_184 tw1_17 tw2_185 (Nat.le_of_ble_eq_true rfl) dX1_runs_8 ?_
  exact k_iret (pc := 11) C E (some_i h) rfl dX1_runs_11
def m_X1_behindResting (h0 : Nat × Nat) (x1 : Int32) : Option (Int32) := some x1
set_option maxHeartbeats 4000000 in
set_option maxRecDepth 100000 in
theorem kc_X1_behindResting {B : KB} {l : Launch} {T : TT} {h0 : Nat × Nat} {x1 : Int32} {res : Int32} (hk0 : kok h0.1 h0.2) (h : m_X1_behindResting h0 x1 = some res) : Kt B l 1 yX1_behindResting cX1_behindResting 2 (some .int) T [.ref (B.1 h0.1 h0.2), .int x1] (some (.int res)) T := by
  refine Kt.of (by decide) (Nat.le_of_ble_eq_true rfl) (fun X hX C E => ?_)
  subst hX
  have C : Cx B X "GriefEngine$Old" cX1_behindResting 2 1 := C
  show Wk B X 2 T 0 [(0, .ref (B.1 h0.1 h0.2)), (1, .int x1)] []
  unfold m_X1_behindResting at h
  refine k_iload_n (pc := 0) C dX1_behindResting_0 1 rfl ?_
  exact k_iret (pc := 1) C E (some_i h) rfl dX1_behindResting_1
def m_X2_keepIfBetter (T : TT) (x1 : Int32) : Option (TT) := if x1 ≤ (T.2.1 7 1) then (some T) else (bT (sI T 7 1 x1) (fun T1 => if ¬ (0 : Int32) < 0 ∧ ¬ (0 : Int32) < 0 ∧ ¬ (6 : Int32) < 0 ∧ Int32.toNatClampNeg (0 : Int32) + Int32.toNatClampNeg (6 : Int32) ≤ 6 ∧ Int32.toNatClampNeg (0 : Int32) + Int32.toNatClampNeg (6 : Int32) ≤ 6 then bT (cpA T1 7 2 (Int32.toNatClampNeg (0 : Int32)) 7 1 (Int32.toNatClampNeg (0 : Int32)) (Int32.toNatClampNeg (6 : Int32))) (fun T2 => some T2) else none))
set_option maxHeartbeats 4000000 in
set_option maxRecDepth 100000 in
theorem kc_X2_keepIfBetter {B : KB} {l : Launch} {T : TT} {x1 : Int32} {res : TT} (h : m_X2_keepIfBetter T x1 = some res) : Kt B l 1 yX2_keepIfBetter cX2_keepIfBetter 2 none T [.ref (B.1 7 0), .int x1] none res := by
  refine Kt.of (by decide) (Nat.le_of_ble_eq_true rfl) (fun X hX C E => ?_)
  subst hX
  have C : Cx B X "GriefEngine$Pairs" cX2_keepIfBetter 2 1 := C
  show Wk B X 2 T 0 [(0, .ref (B.1 7 0)), (1, .int x1)] []
  unfold m_X2_keepIfBetter at h
  refine k_iload_n (pc := 0) C dX2_keepIfBetter_0 1 rfl ?_
  refine k_aload_n (pc := 1) C dX2_keepIfBetter_1 0 rfl ?_
  refine gf_X2_18 (pc := 2) C dX2_keepIfBetter_2 ?_
  refine k_icmp_le (pc := 5) C 28 dX2_keepIfBetter_5 (by decide) h (fun c3 h => ?_) (fun c3 h => ?_)
  · exact k_vret (pc := 28) C E (some_i h) dX2_keepIfBetter_28
  · refine k_aload_n (pc := 8) C dX2_keepIfBetter_8 0 rfl ?_
    refine k_iload_n (pc := 9) C dX2_keepIfBetter_9 1 rfl ?_
    refine pf_X2_18 (pc := 10) C dX2_keepIfBetter_10 ?_
    refine k_nT h (fun T1 h => ?_)
    refine k_aload_n (pc := 13) C dX2_keepIfBetter_13 0 rfl ?_
    refine gf_X2_15 (pc := 14) C dX2_keepIfBetter_14 ?_
    refine k_iconst (pc := 17) (v := (0 : Int32)) C dX2_keepIfBetter_17 ciconst_0 ?_
    refine k_aload_n (pc := 18) C dX2_keepIfBetter_18 0 rfl ?_
    refine gf_X2_9 (pc := 19) C dX2_keepIfBetter_19 ?_
    refine k_iconst (pc := 22) (v := (0 : Int32)) C dX2_keepIfBetter_22 ciconst_0 ?_
    refine k_bipush (pc := 23) (v := (6 : Int32)) C dX2_keepIfBetter_23 cbipush_6 ?_
    refine k_copy (pc := 25) C (by decide) ia_7_2 ia_7_1 tw3_149 tw3_22 tw3_21 tw1_18 (Nat.le_of_ble_eq_true rfl) dX2_keepIfBetter_25 h (fun h => ?_)
    refine k_nT h (fun T2 h => ?_)
    exact k_vret (pc := 28) C E (some_i h) dX2_keepIfBetter_28
def m_X2_pairWorth (T : TT) (g : Nat) (x1 : Int32) (x2 : Int32) : Option (Int32) := if inb x1 6 then (if inb x2 6 then (bT (if (T.1 g 3 (Int32.toNatClampNeg x2)) < (T.1 g 3 (Int32.toNatClampNeg x1)) then (T.1 g 3 (Int32.toNatClampNeg x2)) else (T.1 g 3 (Int32.toNatClampNeg x1))) (fun y1 => if inb x1 6 then (if inb x2 6 then (if (T.1 g 2 (Int32.toNatClampNeg x1)) = (T.1 g 2 (Int32.toNatClampNeg x2)) then (some y1) else (some (y1 + (1 : Int32)))) else none) else none)) else none) else none
set_option maxHeartbeats 4000000 in
set_option maxRecDepth 100000 in
theorem kc_X2_pairWorth {B : KB} {l : Launch} {T : TT} {g : Nat} {x1 : Int32} {x2 : Int32} {res : Int32} (hg : g < 4) (h : m_X2_pairWorth T g x1 x2 = some res) : Kt B l 1 yX2_pairWorth cX2_pairWorth 4 (some .int) T [.ref (B.1 g 0), .int x1, .int x2] (some (.int res)) T := by
  refine Kt.of (by decide) (Nat.le_of_ble_eq_true rfl) (fun X hX C E => ?_)
  subst hX
  have C : Cx B X "GriefEngine$Pairs" cX2_pairWorth 4 1 := C
  show Wk B X 4 T 0 [(0, .ref (B.1 g 0)), (1, .int x1), (2, .int x2)] []
  unfold m_X2_pairWorth at h
  refine k_aload_n (pc := 0) C dX2_pairWorth_0 0 rfl ?_
  refine gf_X2_45 (pc := 1) C hg dX2_pairWorth_1 ?_
  refine k_iload_n (pc := 4) C dX2_pairWorth_4 1 rfl ?_
  refine k_iald (pc := 5) C (ia_R3 hg) dX2_pairWorth_5 h (fun h => ?_)
  refine k_aload_n (pc := 6) C dX2_pairWorth_6 0 rfl ?_
  refine gf_X2_45 (pc := 7) C hg dX2_pairWorth_7 ?_
  refine k_iload_n (pc := 10) C dX2_pairWorth_10 2 rfl ?_
  refine k_iald (pc := 11) C (ia_R3 hg) dX2_pairWorth_11 h (fun h => ?_)
  refine k_mmin (pc := 12) C (by decide) tw3_153 tw2_184 tw1_17 tw2_185 (Nat.le_of_ble_eq_true rfl) dX2_pairWorth_12 ?_
  refine k_nI h (fun y1 h => ?_)
  refine k_istore_n (pc := 15) C [(3, .int y1), (0, .ref (B.1 g 0)), (1, .int x1), (2, .int x2)] dX2_pairWorth_15 (by decide) rfl ?_
  refine k_aload_n (pc := 16) C dX2_pairWorth_16 1 rfl ?_
  refine gf_X2_54 (pc := 17) C hg dX2_pairWorth_17 ?_
  refine k_iload_n (pc := 20) C dX2_pairWorth_20 2 rfl ?_
  refine k_iald (pc := 21) C (ia_R2 hg) dX2_pairWorth_21 h (fun h => ?_)
  refine k_aload_n (pc := 22) C dX2_pairWorth_22 1 rfl ?_
  refine gf_X2_54 (pc := 23) C hg dX2_pairWorth_23 ?_
  refine k_iload_n (pc := 26) C dX2_pairWorth_26 3 rfl ?_
  refine k_iald (pc := 27) C (ia_R2 hg) dX2_pairWorth_27 h (fun h => ?_)
  refine k_icmp_ne (pc := 28) C 35 dX2_pairWorth_28 (by decide) h (fun c2 h => ?_) (fun c2 h => ?_)
  · refine k_iload_n (pc := 35) C dX2_pairWorth_35 0 rfl ?_
    refine k_iconst (pc := 36) (v := (1 : Int32)) C dX2_pairWorth_36 ciconst_1 ?_
    refine k_iadd (pc := 37) C dX2_pairWorth_37 ?_
    exact k_iret (pc := 38) C E (some_i h) rfl dX2_pairWorth_38
  · refine k_iload_n (pc := 31) C dX2_pairWorth_31 0 rfl ?_
    refine k_goto (pc := 32) C 38 dX2_pairWorth_32 (by decide) ?_
    exact k_iret (pc := 38) C E (some_i h) rfl dX2_pairWorth_38
def m_X2_tryFrom_b126 (self : TT → Nat → Int32 → Int32 → Option (TT)) (g : Nat) (T : TT) (x2 : Int32) (x3 : Int32) : Option (TT) := (self T g (x2 + (1 : Int32)) x3).bind (fun z16 => some z16)
def m_X2_tryFrom_b120 (self : TT → Nat → Int32 → Int32 → Option (TT)) (g : Nat) (rec45 : TT → Int32 → Int32 → Int32 → Option (TT)) (T : TT) (x2 : Int32) (x3 : Int32) (x4 : Int32) : Option (TT) := bT (x4 + (1 : Int32)) (fun y15 => rec45 T x2 x3 y15)
def m_X2_tryFrom_h45 (self : TT → Nat → Int32 → Int32 → Option (TT)) (g : Nat) (rec45 : TT → Int32 → Int32 → Int32 → Option (TT)) (T : TT) (x2 : Int32) (x3 : Int32) (x4 : Int32) : Option (TT) := if (T.2.1 g 7) ≤ x4 then (m_X2_tryFrom_b126 self g T x2 x3) else (if (6 : Int32) ≤ x4 then (m_X2_tryFrom_b126 self g T x2 x3) else (if inb x4 6 then (if (T.1 7 2 (Int32.toNatClampNeg x4)) = (-1 : Int32) then (if inb x2 6 then bT (sA T 7 2 (Int32.toNatClampNeg x2) x4) (fun T6 => if inb x4 6 then bT (sA T6 7 2 (Int32.toNatClampNeg x4) x2) (fun T7 => (m_X2_pairWorth T7 g x2 x4).bind (fun z8 => (self T7 g (x2 + (1 : Int32)) (x3 + z8)).bind (fun z9 => if inb x2 6 then bT (sA z9 7 2 (Int32.toNatClampNeg x2) (-1 : Int32)) (fun T10 => if inb x4 6 then bT (sA T10 7 2 (Int32.toNatClampNeg x4) (-1 : Int32)) (fun T11 => m_X2_tryFrom_b120 self g rec45 T11 x2 x3 x4) else none) else none))) else none) else none) else (m_X2_tryFrom_b120 self g rec45 T x2 x3 x4)) else none))
def m_X2_tryFrom_l45 (self : TT → Nat → Int32 → Int32 → Option (TT)) (g : Nat) : Nat → TT → Int32 → Int32 → Int32 → Option (TT)
  | 0 => fun _ _ _ _ => none
  | n + 1 => fun T x2 x3 x4 => m_X2_tryFrom_h45 self g (m_X2_tryFrom_l45 self g n) T x2 x3 x4
def m_X2_tryFrom_b14 (self : TT → Nat → Int32 → Int32 → Option (TT)) (g : Nat) (T : TT) (x3 : Int32) : Option (TT) := (m_X2_keepIfBetter T x3).bind (fun z17 => some z17)
def m_X2_tryFrom_e (self : TT → Nat → Int32 → Int32 → Option (TT)) (T : TT) (g : Nat) (x2 : Int32) (x3 : Int32) : Option (TT) := if (T.2.1 g 7) ≤ x2 then (m_X2_tryFrom_b14 self g T x3) else (if x2 < (6 : Int32) then (if inb x2 6 then (if (T.1 7 2 (Int32.toNatClampNeg x2)) = (-1 : Int32) then (bT (x2 + (1 : Int32)) (fun y1 => m_X2_tryFrom_l45 self g FU T x2 x3 y1)) else ((self T g (x2 + (1 : Int32)) x3).bind (fun z2 => some z2))) else none) else (m_X2_tryFrom_b14 self g T x3))
def m_X2_tryFrom : Nat → TT → Nat → Int32 → Int32 → Option (TT)
  | 0 => fun _ _ _ _ => none
  | n + 1 => fun T g x2 x3 => m_X2_tryFrom_e (m_X2_tryFrom n) T g x2 x3
set_option maxHeartbeats 4000000 in
set_option maxRecDepth 100000 in
theorem k_X2_tryFrom_b126 {B : KB} {X : KE} {self : TT → Nat → Int32 → Int32 → Option (TT)} {dS d : Nat} {g : Nat} {res : TT} (C : Cx B X "GriefEngine$Pairs" cX2_tryFrom 5 d) (E : Cr B X none none res) (hdS : dS < d ∧ 2 ≤ d) (hself : ∀ {T : TT} {g : Nat} {x2 : Int32} {x3 : Int32} {res : TT}, g < 4 → self T g x2 x3 = some res → Kt B X.2.1 dS yX2_tryFrom cX2_tryFrom 5 none T [.ref (B.1 7 0), .ref (B.1 g 0), .int x2, .int x3] none res) (hg : g < 4) (T : TT) (x2 : Int32) (x3 : Int32) (h : m_X2_tryFrom_b126 self g T x2 x3 = some res) : Wk B X 5 T 126 [(0, .ref (B.1 7 0)), (1, .ref (B.1 g 0)), (2, .int x2), (3, .int x3)] [] := by
  unfold m_X2_tryFrom_b126 at h
  refine k_aload_n (pc := 126) C dX2_tryFrom_126 0 rfl ?_
  refine k_aload_n (pc := 127) C dX2_tryFrom_127 1 rfl ?_
  refine k_iload_n (pc := 128) C dX2_tryFrom_128 2 rfl ?_
  refine k_iconst (pc := 129) (v := (1 : Int32)) C dX2_tryFrom_129 ciconst_1 ?_
  refine k_iadd (pc := 130) C dX2_tryFrom_130 ?_
  refine k_iload_n (pc := 131) C dX2_tryFrom_131 3 rfl ?_
  obtain ⟨z16, e16, h⟩ := bnd h
  refine k_callsV (pc := 132) C lk_X2_22 (by omega) (hself hg e16) dX2_tryFrom_132 rfl rfl (Nat.le_of_ble_eq_true rfl) ?_
  exact k_vret (pc := 135) C E (some_i h) dX2_tryFrom_135
set_option maxHeartbeats 4000000 in
set_option maxRecDepth 100000 in
theorem k_X2_tryFrom_b120 {B : KB} {X : KE} {self : TT → Nat → Int32 → Int32 → Option (TT)} {dS d : Nat} {g : Nat} {rec45 : TT → Int32 → Int32 → Int32 → Option (TT)} {res : TT} (C : Cx B X "GriefEngine$Pairs" cX2_tryFrom 5 d) (E : Cr B X none none res) (hdS : dS < d ∧ 2 ≤ d) (hself : ∀ {T : TT} {g : Nat} {x2 : Int32} {x3 : Int32} {res : TT}, g < 4 → self T g x2 x3 = some res → Kt B X.2.1 dS yX2_tryFrom cX2_tryFrom 5 none T [.ref (B.1 7 0), .ref (B.1 g 0), .int x2, .int x3] none res) (hg : g < 4) (hrec45 : ∀ (T : TT) (x2 : Int32) (x3 : Int32) (x4 : Int32), rec45 T x2 x3 x4 = some res → Wk B X 5 T 45 [(0, .ref (B.1 7 0)), (1, .ref (B.1 g 0)), (2, .int x2), (3, .int x3), (4, .int x4)] []) (T : TT) (x2 : Int32) (x3 : Int32) (x4 : Int32) (h : m_X2_tryFrom_b120 self g rec45 T x2 x3 x4 = some res) : Wk B X 5 T 120 [(0, .ref (B.1 7 0)), (1, .ref (B.1 g 0)), (2, .int x2), (3, .int x3), (4, .int x4)] [] := by
  unfold m_X2_tryFrom_b120 at h
  refine k_iincN (pc := 120) (x := x4) (c := (1 : Int32)) C (fun y15 => [(4, .int y15), (0, .ref (B.1 7 0)), (1, .ref (B.1 g 0)), (2, .int x2), (3, .int x3)]) dX2_tryFrom_120 4 rfl ciconst_1 (by decide) (fun _ => rfl) h (fun y15 h => ?_)
  refine k_goto (pc := 123) C 45 dX2_tryFrom_123 (by decide) ?_
  refine k_sub [1, 2, 3, 4, 0] rfl ?_
  exact hrec45 T x2 x3 y15 h
set_option maxHeartbeats 4000000 in
set_option maxRecDepth 100000 in
theorem k_X2_tryFrom_h45 {B : KB} {X : KE} {self : TT → Nat → Int32 → Int32 → Option (TT)} {dS d : Nat} {g : Nat} {rec45 : TT → Int32 → Int32 → Int32 → Option (TT)} {res : TT} (C : Cx B X "GriefEngine$Pairs" cX2_tryFrom 5 d) (E : Cr B X none none res) (hdS : dS < d ∧ 2 ≤ d) (hself : ∀ {T : TT} {g : Nat} {x2 : Int32} {x3 : Int32} {res : TT}, g < 4 → self T g x2 x3 = some res → Kt B X.2.1 dS yX2_tryFrom cX2_tryFrom 5 none T [.ref (B.1 7 0), .ref (B.1 g 0), .int x2, .int x3] none res) (hg : g < 4) (hrec45 : ∀ (T : TT) (x2 : Int32) (x3 : Int32) (x4 : Int32), rec45 T x2 x3 x4 = some res → Wk B X 5 T 45 [(0, .ref (B.1 7 0)), (1, .ref (B.1 g 0)), (2, .int x2), (3, .int x3), (4, .int x4)] []) (T : TT) (x2 : Int32) (x3 : Int32) (x4 : Int32) (h : m_X2_tryFrom_h45 self g rec45 T x2 x3 x4 = some res) : Wk B X 5 T 45 [(0, .ref (B.1 7 0)), (1, .ref (B.1 g 0)), (2, .int x2), (3, .int x3), (4, .int x4)] [] := by
  unfold m_X2_tryFrom_h45 at h
  refine k_iload (pc := 45) C dX2_tryFrom_45 4 rfl ?_
  refine k_aload_n (pc := 47) C dX2_tryFrom_47 1 rfl ?_
  refine gf_X2_26 (pc := 48) C hg dX2_tryFrom_48 ?_
  refine k_icmp_ge (pc := 51) C 126 dX2_tryFrom_51 (by decide) h (fun c14 h => ?_) (fun c14 h => ?_)
  · refine k_sub [0, 1, 2, 3] rfl ?_
    exact k_X2_tryFrom_b126 C E hdS hself hg T x2 x3 h
  · refine k_iload (pc := 54) C dX2_tryFrom_54 4 rfl ?_
    refine k_bipush (pc := 56) (v := (6 : Int32)) C dX2_tryFrom_56 cbipush_6 ?_
    refine k_icmp_ge (pc := 58) C 126 dX2_tryFrom_58 (by decide) h (fun c13 h => ?_) (fun c13 h => ?_)
    · refine k_sub [0, 1, 2, 3] rfl ?_
      exact k_X2_tryFrom_b126 C E hdS hself hg T x2 x3 h
    · refine k_aload_n (pc := 61) C dX2_tryFrom_61 0 rfl ?_
      refine gf_X2_15 (pc := 62) C dX2_tryFrom_62 ?_
      refine k_iload (pc := 65) C dX2_tryFrom_65 4 rfl ?_
      refine k_iald (pc := 67) C ia_7_2 dX2_tryFrom_67 h (fun h => ?_)
      refine k_iconst (pc := 68) (v := (-1 : Int32)) C dX2_tryFrom_68 ciconst_m1 ?_
      refine k_icmp_ne (pc := 69) C 120 dX2_tryFrom_69 (by decide) h (fun c12 h => ?_) (fun c12 h => ?_)
      · refine k_sub [0, 1, 2, 3, 4] rfl ?_
        exact k_X2_tryFrom_b120 C E hdS hself hg hrec45 T x2 x3 x4 h
      · refine k_aload_n (pc := 72) C dX2_tryFrom_72 0 rfl ?_
        refine gf_X2_15 (pc := 73) C dX2_tryFrom_73 ?_
        refine k_iload_n (pc := 76) C dX2_tryFrom_76 2 rfl ?_
        refine k_iload (pc := 77) C dX2_tryFrom_77 4 rfl ?_
        refine k_iast (pc := 79) C ia_7_2 dX2_tryFrom_79 h (fun h => ?_)
        refine k_nT h (fun T6 h => ?_)
        refine k_aload_n (pc := 80) C dX2_tryFrom_80 0 rfl ?_
        refine gf_X2_15 (pc := 81) C dX2_tryFrom_81 ?_
        refine k_iload (pc := 84) C dX2_tryFrom_84 4 rfl ?_
        refine k_iload_n (pc := 86) C dX2_tryFrom_86 2 rfl ?_
        refine k_iast (pc := 87) C ia_7_2 dX2_tryFrom_87 h (fun h => ?_)
        refine k_nT h (fun T7 h => ?_)
        refine k_aload_n (pc := 88) C dX2_tryFrom_88 0 rfl ?_
        refine k_aload_n (pc := 89) C dX2_tryFrom_89 1 rfl ?_
        refine k_iload_n (pc := 90) C dX2_tryFrom_90 2 rfl ?_
        refine k_iconst (pc := 91) (v := (1 : Int32)) C dX2_tryFrom_91 ciconst_1 ?_
        refine k_iadd (pc := 92) C dX2_tryFrom_92 ?_
        refine k_iload_n (pc := 93) C dX2_tryFrom_93 3 rfl ?_
        refine k_aload_n (pc := 94) C dX2_tryFrom_94 1 rfl ?_
        refine k_iload_n (pc := 95) C dX2_tryFrom_95 2 rfl ?_
        refine k_iload (pc := 96) C dX2_tryFrom_96 4 rfl ?_
        obtain ⟨z8, e8, h⟩ := bnd h
        refine k_callsI (pc := 98) C lk_X2_35 (by omega) (kc_X2_pairWorth hg e8) dX2_tryFrom_98 rfl rfl (Nat.le_of_ble_eq_true rfl) ?_
        refine k_iadd (pc := 101) C dX2_tryFrom_101 ?_
        obtain ⟨z9, e9, h⟩ := bnd h
        refine k_callsV (pc := 102) C lk_X2_22 (by omega) (hself hg e9) dX2_tryFrom_102 rfl rfl (Nat.le_of_ble_eq_true rfl) ?_
        refine k_aload_n (pc := 105) C dX2_tryFrom_105 0 rfl ?_
        refine gf_X2_15 (pc := 106) C dX2_tryFrom_106 ?_
        refine k_iload_n (pc := 109) C dX2_tryFrom_109 2 rfl ?_
        refine k_iconst (pc := 110) (v := (-1 : Int32)) C dX2_tryFrom_110 ciconst_m1 ?_
        refine k_iast (pc := 111) C ia_7_2 dX2_tryFrom_111 h (fun h => ?_)
        refine k_nT h (fun T10 h => ?_)
        refine k_aload_n (pc := 112) C dX2_tryFrom_112 0 rfl ?_
        refine gf_X2_15 (pc := 113) C dX2_tryFrom_113 ?_
        refine k_iload (pc := 116) C dX2_tryFrom_116 4 rfl ?_
        refine k_iconst (pc := 118) (v := (-1 : Int32)) C dX2_tryFrom_118 ciconst_m1 ?_
        refine k_iast (pc := 119) C ia_7_2 dX2_tryFrom_119 h (fun h => ?_)
        refine k_nT h (fun T11 h => ?_)
        refine k_sub [0, 1, 2, 3, 4] rfl ?_
        exact k_X2_tryFrom_b120 C E hdS hself hg hrec45 T11 x2 x3 x4 h
set_option maxHeartbeats 4000000 in
set_option maxRecDepth 100000 in
theorem k_X2_tryFrom_l45 {B : KB} {X : KE} {self : TT → Nat → Int32 → Int32 → Option (TT)} {dS d : Nat} {g : Nat} {res : TT} (C : Cx B X "GriefEngine$Pairs" cX2_tryFrom 5 d) (E : Cr B X none none res) (hdS : dS < d ∧ 2 ≤ d) (hself : ∀ {T : TT} {g : Nat} {x2 : Int32} {x3 : Int32} {res : TT}, g < 4 → self T g x2 x3 = some res → Kt B X.2.1 dS yX2_tryFrom cX2_tryFrom 5 none T [.ref (B.1 7 0), .ref (B.1 g 0), .int x2, .int x3] none res) (hg : g < 4) : ∀ (n : Nat) (T : TT) (x2 : Int32) (x3 : Int32) (x4 : Int32) (h : m_X2_tryFrom_l45 self g n T x2 x3 x4 = some res), Wk B X 5 T 45 [(0, .ref (B.1 7 0)), (1, .ref (B.1 g 0)), (2, .int x2), (3, .int x3), (4, .int x4)] [] := by
  intro n
  induction n with
  | zero =>
    intro T x2 x3 x4 h
    exact no_some h
  | succ n ih =>
    intro T x2 x3 x4 h
    exact k_X2_tryFrom_h45 C E hdS hself hg (fun T x2 x3 x4 h => ih T x2 x3 x4 h) T x2 x3 x4 h
set_option maxHeartbeats 4000000 in
set_option maxRecDepth 100000 in
theorem k_X2_tryFrom_b14 {B : KB} {X : KE} {self : TT → Nat → Int32 → Int32 → Option (TT)} {dS d : Nat} {g : Nat} {res : TT} (C : Cx B X "GriefEngine$Pairs" cX2_tryFrom 5 d) (E : Cr B X none none res) (hdS : dS < d ∧ 2 ≤ d) (hself : ∀ {T : TT} {g : Nat} {x2 : Int32} {x3 : Int32} {res : TT}, g < 4 → self T g x2 x3 = some res → Kt B X.2.1 dS yX2_tryFrom cX2_tryFrom 5 none T [.ref (B.1 7 0), .ref (B.1 g 0), .int x2, .int x3] none res) (hg : g < 4) (T : TT) (x3 : Int32) (h : m_X2_tryFrom_b14 self g T x3 = some res) : Wk B X 5 T 14 [(0, .ref (B.1 7 0)), (3, .int x3)] [] := by
  unfold m_X2_tryFrom_b14 at h
  refine k_aload_n (pc := 14) C dX2_tryFrom_14 0 rfl ?_
  refine k_iload_n (pc := 15) C dX2_tryFrom_15 1 rfl ?_
  obtain ⟨z17, e17, h⟩ := bnd h
  refine k_callvV (pc := 16) C lk_X2_31 (by omega) ix_X2 wo_X2 rfl rfl (kc_X2_keepIfBetter e17) dX2_tryFrom_16 rfl rfl (Nat.le_of_ble_eq_true rfl) ?_
  exact k_vret (pc := 19) C E (some_i h) dX2_tryFrom_19
set_option maxHeartbeats 4000000 in
set_option maxRecDepth 100000 in
theorem kc0_X2_tryFrom {B : KB} {l : Launch} : ∀ (n : Nat) {T : TT} {g : Nat} {x2 : Int32} {x3 : Int32} {res : TT}, g < 4 → m_X2_tryFrom n T g x2 x3 = some res → Kt B l (2 + n) yX2_tryFrom cX2_tryFrom 5 none T [.ref (B.1 7 0), .ref (B.1 g 0), .int x2, .int x3] none res := by
  intro n
  induction n with
  | zero =>
    intro T g x2 x3 res hg h
    exact no_some h
  | succ n ih =>
    intro T g x2 x3 res hg h
    refine Kt.of (by decide) (Nat.le_of_ble_eq_true rfl) (fun X hX C E => ?_)
    subst hX
    generalize hdd : 2 + (n + 1) = d at C
    have C : Cx B X "GriefEngine$Pairs" cX2_tryFrom 5 d := C
    have hdS : 2 + n < d ∧ 2 ≤ d := by omega
    have hself := @ih
    skip
    show Wk B X 5 T 0 [(0, .ref (B.1 7 0)), (1, .ref (B.1 g 0)), (2, .int x2), (3, .int x3)] []
    have h : m_X2_tryFrom_e (m_X2_tryFrom n) T g x2 x3 = some res := h
    unfold m_X2_tryFrom_e at h
    refine k_iload_n (pc := 0) C dX2_tryFrom_0 2 rfl ?_
    refine k_aload_n (pc := 1) C dX2_tryFrom_1 1 rfl ?_
    refine gf_X2_26 (pc := 2) C hg dX2_tryFrom_2 ?_
    refine k_icmp_ge (pc := 5) C 14 dX2_tryFrom_5 (by decide) h (fun c5 h => ?_) (fun c5 h => ?_)
    · refine k_sub [0, 3] rfl ?_
      exact k_X2_tryFrom_b14 C E hdS hself hg T x3 h
    · refine k_iload_n (pc := 8) C dX2_tryFrom_8 2 rfl ?_
      refine k_bipush (pc := 9) (v := (6 : Int32)) C dX2_tryFrom_9 cbipush_6 ?_
      refine k_icmp_lt (pc := 11) C 20 dX2_tryFrom_11 (by decide) h (fun c4 h => ?_) (fun c4 h => ?_)
      · refine k_aload_n (pc := 20) C dX2_tryFrom_20 0 rfl ?_
        refine gf_X2_15 (pc := 21) C dX2_tryFrom_21 ?_
        refine k_iload_n (pc := 24) C dX2_tryFrom_24 2 rfl ?_
        refine k_iald (pc := 25) C ia_7_2 dX2_tryFrom_25 h (fun h => ?_)
        refine k_iconst (pc := 26) (v := (-1 : Int32)) C dX2_tryFrom_26 ciconst_m1 ?_
        refine k_icmp_eq (pc := 27) C 40 dX2_tryFrom_27 (by decide) h (fun c3 h => ?_) (fun c3 h => ?_)
        · refine k_iload_n (pc := 40) C dX2_tryFrom_40 2 rfl ?_
          refine k_iconst (pc := 41) (v := (1 : Int32)) C dX2_tryFrom_41 ciconst_1 ?_
          refine k_iadd (pc := 42) C dX2_tryFrom_42 ?_
          refine k_nI h (fun y1 h => ?_)
          refine k_istore (pc := 43) C [(4, .int y1), (0, .ref (B.1 7 0)), (1, .ref (B.1 g 0)), (2, .int x2), (3, .int x3)] dX2_tryFrom_43 (by decide) rfl ?_
          refine k_sub [1, 2, 3, 4, 0] rfl ?_
          exact k_X2_tryFrom_l45 C E hdS hself hg FU T x2 x3 y1 h
        · refine k_aload_n (pc := 30) C dX2_tryFrom_30 0 rfl ?_
          refine k_aload_n (pc := 31) C dX2_tryFrom_31 1 rfl ?_
          refine k_iload_n (pc := 32) C dX2_tryFrom_32 2 rfl ?_
          refine k_iconst (pc := 33) (v := (1 : Int32)) C dX2_tryFrom_33 ciconst_1 ?_
          refine k_iadd (pc := 34) C dX2_tryFrom_34 ?_
          refine k_iload_n (pc := 35) C dX2_tryFrom_35 3 rfl ?_
          obtain ⟨z2, e2, h⟩ := bnd h
          refine k_callsV (pc := 36) C lk_X2_22 (by omega) (hself hg e2) dX2_tryFrom_36 rfl rfl (Nat.le_of_ble_eq_true rfl) ?_
          exact k_vret (pc := 39) C E (some_i h) dX2_tryFrom_39
      · refine k_sub [0, 3] rfl ?_
        exact k_X2_tryFrom_b14 C E hdS hself hg T x3 h
set_option maxHeartbeats 4000000 in
set_option maxRecDepth 100000 in
theorem kc_X2_tryFrom {B : KB} {l : Launch} {T : TT} {g : Nat} {x2 : Int32} {x3 : Int32} {res : TT} (hg : g < 4) (h : m_X2_tryFrom 12 T g x2 x3 = some res) : Kt B l 14 yX2_tryFrom cX2_tryFrom 5 none T [.ref (B.1 7 0), .ref (B.1 g 0), .int x2, .int x3] none res := kc0_X2_tryFrom 12 hg h
def m_X2_reckon_h7 (g : Nat) (rec7 : TT → Int32 → Option (TT)) (T : TT) (x2 : Int32) : Option (TT) := if (6 : Int32) ≤ x2 then ((m_X2_tryFrom 12 T g (0 : Int32) (0 : Int32)).bind (fun z2 => some z2)) else (if inb x2 6 then bT (sA T 7 2 (Int32.toNatClampNeg x2) (-1 : Int32)) (fun T3 => bT (x2 + (1 : Int32)) (fun y4 => rec7 T3 y4)) else none)
def m_X2_reckon_l7 (g : Nat) : Nat → TT → Int32 → Option (TT)
  | 0 => fun _ _ => none
  | n + 1 => fun T x2 => m_X2_reckon_h7 g (m_X2_reckon_l7 g n) T x2
def m_X2_reckon (T : TT) (g : Nat) : Option (TT) := bT (sI T 7 1 (-1 : Int32)) (fun T1 => m_X2_reckon_l7 g FU T1 (0 : Int32))
set_option maxHeartbeats 4000000 in
set_option maxRecDepth 100000 in
theorem k_X2_reckon_h7 {B : KB} {X : KE} {g : Nat} {rec7 : TT → Int32 → Option (TT)} {res : TT} (C : Cx B X "GriefEngine$Pairs" cX2_reckon 3 15) (E : Cr B X none none res) (hg : g < 4) (hrec7 : ∀ (T : TT) (x2 : Int32), rec7 T x2 = some res → Wk B X 3 T 7 [(0, .ref (B.1 7 0)), (1, .ref (B.1 g 0)), (2, .int x2)] []) (T : TT) (x2 : Int32) (h : m_X2_reckon_h7 g rec7 T x2 = some res) : Wk B X 3 T 7 [(0, .ref (B.1 7 0)), (1, .ref (B.1 g 0)), (2, .int x2)] [] := by
  unfold m_X2_reckon_h7 at h
  refine k_iload_n (pc := 7) C dX2_reckon_7 2 rfl ?_
  refine k_bipush (pc := 8) (v := (6 : Int32)) C dX2_reckon_8 cbipush_6 ?_
  refine k_icmp_ge (pc := 10) C 26 dX2_reckon_10 (by decide) h (fun c5 h => ?_) (fun c5 h => ?_)
  · refine k_aload_n (pc := 26) C dX2_reckon_26 0 rfl ?_
    refine k_aload_n (pc := 27) C dX2_reckon_27 1 rfl ?_
    refine k_iconst (pc := 28) (v := (0 : Int32)) C dX2_reckon_28 ciconst_0 ?_
    refine k_iconst (pc := 29) (v := (0 : Int32)) C dX2_reckon_29 ciconst_0 ?_
    obtain ⟨z2, e2, h⟩ := bnd h
    refine k_callsV (pc := 30) C lk_X2_22 (by decide) (kc_X2_tryFrom hg e2) dX2_reckon_30 rfl rfl (Nat.le_of_ble_eq_true rfl) ?_
    exact k_vret (pc := 33) C E (some_i h) dX2_reckon_33
  · refine k_aload_n (pc := 13) C dX2_reckon_13 0 rfl ?_
    refine gf_X2_15 (pc := 14) C dX2_reckon_14 ?_
    refine k_iload_n (pc := 17) C dX2_reckon_17 2 rfl ?_
    refine k_iconst (pc := 18) (v := (-1 : Int32)) C dX2_reckon_18 ciconst_m1 ?_
    refine k_iast (pc := 19) C ia_7_2 dX2_reckon_19 h (fun h => ?_)
    refine k_nT h (fun T3 h => ?_)
    refine k_iincN (pc := 20) (x := x2) (c := (1 : Int32)) C (fun y4 => [(2, .int y4), (0, .ref (B.1 7 0)), (1, .ref (B.1 g 0))]) dX2_reckon_20 2 rfl ciconst_1 (by decide) (fun _ => rfl) h (fun y4 h => ?_)
    refine k_goto (pc := 23) C 7 dX2_reckon_23 (by decide) ?_
    refine k_sub [1, 2, 0] rfl ?_
    exact hrec7 T3 y4 h
set_option maxHeartbeats 4000000 in
set_option maxRecDepth 100000 in
theorem k_X2_reckon_l7 {B : KB} {X : KE} {g : Nat} {res : TT} (C : Cx B X "GriefEngine$Pairs" cX2_reckon 3 15) (E : Cr B X none none res) (hg : g < 4) : ∀ (n : Nat) (T : TT) (x2 : Int32) (h : m_X2_reckon_l7 g n T x2 = some res), Wk B X 3 T 7 [(0, .ref (B.1 7 0)), (1, .ref (B.1 g 0)), (2, .int x2)] [] := by
  intro n
  induction n with
  | zero =>
    intro T x2 h
    exact no_some h
  | succ n ih =>
    intro T x2 h
    exact k_X2_reckon_h7 C E hg (fun T x2 h => ih T x2 h) T x2 h
set_option maxHeartbeats 4000000 in
set_option maxRecDepth 100000 in
theorem kc_X2_reckon {B : KB} {l : Launch} {T : TT} {g : Nat} {res : TT} (hg : g < 4) (h : m_X2_reckon T g = some res) : Kt B l 15 yX2_reckon cX2_reckon 3 none T [.ref (B.1 7 0), .ref (B.1 g 0)] none res := by
  refine Kt.of (by decide) (Nat.le_of_ble_eq_true rfl) (fun X hX C E => ?_)
  subst hX
  have C : Cx B X "GriefEngine$Pairs" cX2_reckon 3 15 := C
  show Wk B X 3 T 0 [(0, .ref (B.1 7 0)), (1, .ref (B.1 g 0))] []
  unfold m_X2_reckon at h
  refine k_aload_n (pc := 0) C dX2_reckon_0 0 rfl ?_
  refine k_iconst (pc := 1) (v := (-1 : Int32)) C dX2_reckon_1 ciconst_m1 ?_
  refine pf_X2_18 (pc := 2) C dX2_reckon_2 ?_
  refine k_nT h (fun T1 h => ?_)
  refine k_iconst (pc := 5) (v := (0 : Int32)) C dX2_reckon_5 ciconst_0 ?_
  refine k_istore_n (pc := 6) C [(2, .int (0 : Int32)), (0, .ref (B.1 7 0)), (1, .ref (B.1 g 0))] dX2_reckon_6 (by decide) rfl ?_
  refine k_sub [1, 2, 0] rfl ?_
  exact k_X2_reckon_l7 C E hg FU T1 (0 : Int32) h
def m_X3_behindTelling (h0 : Nat × Nat) (x1 : Int32) : Option (Int32) := some (x1 + (4 : Int32))
set_option maxHeartbeats 4000000 in
set_option maxRecDepth 100000 in
theorem kc_X3_behindTelling {B : KB} {l : Launch} {T : TT} {h0 : Nat × Nat} {x1 : Int32} {res : Int32} (hk0 : kok h0.1 h0.2) (h : m_X3_behindTelling h0 x1 = some res) : Kt B l 1 yX3_behindTelling cX3_behindTelling 2 (some .int) T [.ref (B.1 h0.1 h0.2), .int x1] (some (.int res)) T := by
  refine Kt.of (by decide) (Nat.le_of_ble_eq_true rfl) (fun X hX C E => ?_)
  subst hX
  have C : Cx B X "GriefEngine$Plain" cX3_behindTelling 2 1 := C
  show Wk B X 2 T 0 [(0, .ref (B.1 h0.1 h0.2)), (1, .int x1)] []
  unfold m_X3_behindTelling at h
  refine k_iload_n (pc := 0) C dX3_behindTelling_0 1 rfl ?_
  refine k_iconst (pc := 1) (v := (4 : Int32)) C dX3_behindTelling_1 ciconst_4 ?_
  refine k_iadd (pc := 2) C dX3_behindTelling_2 ?_
  exact k_iret (pc := 3) C E (some_i h) rfl dX3_behindTelling_3
def m_X3_behindResting (h0 : Nat × Nat) (x1 : Int32) : Option (Int32) := some (x1 - (1 : Int32))
set_option maxHeartbeats 4000000 in
set_option maxRecDepth 100000 in
theorem kc_X3_behindResting {B : KB} {l : Launch} {T : TT} {h0 : Nat × Nat} {x1 : Int32} {res : Int32} (hk0 : kok h0.1 h0.2) (h : m_X3_behindResting h0 x1 = some res) : Kt B l 1 yX3_behindResting cX3_behindResting 2 (some .int) T [.ref (B.1 h0.1 h0.2), .int x1] (some (.int res)) T := by
  refine Kt.of (by decide) (Nat.le_of_ble_eq_true rfl) (fun X hX C E => ?_)
  subst hX
  have C : Cx B X "GriefEngine$Plain" cX3_behindResting 2 1 := C
  show Wk B X 2 T 0 [(0, .ref (B.1 h0.1 h0.2)), (1, .int x1)] []
  unfold m_X3_behindResting at h
  refine k_iload_n (pc := 0) C dX3_behindResting_0 1 rfl ?_
  refine k_iconst (pc := 1) (v := (1 : Int32)) C dX3_behindResting_1 ciconst_1 ?_
  refine k_isub (pc := 2) C dX3_behindResting_2 ?_
  exact k_iret (pc := 3) C E (some_i h) rfl dX3_behindResting_3
def m_X6_behindTelling (h0 : Nat × Nat) (x1 : Int32) : Option (Int32) := (m_X3_behindTelling h0 x1).bind (fun z1 => some (z1 / (2 : Int32)))
set_option maxHeartbeats 4000000 in
set_option maxRecDepth 100000 in
theorem kc_X6_behindTelling {B : KB} {l : Launch} {T : TT} {h0 : Nat × Nat} {x1 : Int32} {res : Int32} (hk0 : kok h0.1 h0.2) (h : m_X6_behindTelling h0 x1 = some res) : Kt B l 2 yX6_behindTelling cX6_behindTelling 2 (some .int) T [.ref (B.1 h0.1 h0.2), .int x1] (some (.int res)) T := by
  refine Kt.of (by decide) (Nat.le_of_ble_eq_true rfl) (fun X hX C E => ?_)
  subst hX
  have C : Cx B X "GriefEngine$Sham" cX6_behindTelling 2 2 := C
  show Wk B X 2 T 0 [(0, .ref (B.1 h0.1 h0.2)), (1, .int x1)] []
  unfold m_X6_behindTelling at h
  refine k_aload_n (pc := 0) C dX6_behindTelling_0 0 rfl ?_
  refine k_iload_n (pc := 1) C dX6_behindTelling_1 1 rfl ?_
  obtain ⟨z1, e1, h⟩ := bnd h
  refine k_callpI (pc := 2) C lk_X6_11 (by decide) (kok_at hk0).1 ((kok_at hk0).2.1 _ _) (ci_at hk0) (kc_X3_behindTelling hk0 e1) dX6_behindTelling_2 rfl rfl (Nat.le_of_ble_eq_true rfl) ?_
  refine k_iconst (pc := 5) (v := (2 : Int32)) C dX6_behindTelling_5 ciconst_2 ?_
  refine k_idivc (pc := 6) C dX6_behindTelling_6 (by decide) ?_
  exact k_iret (pc := 7) C E (some_i h) rfl dX6_behindTelling_7
def m_X8_behindTelling (h0 : Nat × Nat) (x1 : Int32) : Option (Int32) := (m_X3_behindTelling h0 x1).bind (fun z1 => some (z1 + (4 : Int32)))
set_option maxHeartbeats 4000000 in
set_option maxRecDepth 100000 in
theorem kc_X8_behindTelling {B : KB} {l : Launch} {T : TT} {h0 : Nat × Nat} {x1 : Int32} {res : Int32} (hk0 : kok h0.1 h0.2) (h : m_X8_behindTelling h0 x1 = some res) : Kt B l 2 yX8_behindTelling cX8_behindTelling 2 (some .int) T [.ref (B.1 h0.1 h0.2), .int x1] (some (.int res)) T := by
  refine Kt.of (by decide) (Nat.le_of_ble_eq_true rfl) (fun X hX C E => ?_)
  subst hX
  have C : Cx B X "GriefEngine$Teller" cX8_behindTelling 2 2 := C
  show Wk B X 2 T 0 [(0, .ref (B.1 h0.1 h0.2)), (1, .int x1)] []
  unfold m_X8_behindTelling at h
  refine k_aload_n (pc := 0) C dX8_behindTelling_0 0 rfl ?_
  refine k_iload_n (pc := 1) C dX8_behindTelling_1 1 rfl ?_
  obtain ⟨z1, e1, h⟩ := bnd h
  refine k_callp2I (pc := 2) C lk_X8_7 (by decide) (kok_at hk0).1 ((kok_at hk0).2.1 _ _) (ci_at hk0) (kc_X3_behindTelling hk0 e1) dX8_behindTelling_2 rfl rfl (Nat.le_of_ble_eq_true rfl) ?_
  refine k_iconst (pc := 5) (v := (4 : Int32)) C dX8_behindTelling_5 ciconst_4 ?_
  refine k_iadd (pc := 6) C dX8_behindTelling_6 ?_
  exact k_iret (pc := 7) C E (some_i h) rfl dX8_behindTelling_7
def m_X8_behindResting (h0 : Nat × Nat) (x1 : Int32) : Option (Int32) := (m_X3_behindResting h0 x1).bind (fun z1 => some (z1 - (2 : Int32)))
set_option maxHeartbeats 4000000 in
set_option maxRecDepth 100000 in
theorem kc_X8_behindResting {B : KB} {l : Launch} {T : TT} {h0 : Nat × Nat} {x1 : Int32} {res : Int32} (hk0 : kok h0.1 h0.2) (h : m_X8_behindResting h0 x1 = some res) : Kt B l 2 yX8_behindResting cX8_behindResting 2 (some .int) T [.ref (B.1 h0.1 h0.2), .int x1] (some (.int res)) T := by
  refine Kt.of (by decide) (Nat.le_of_ble_eq_true rfl) (fun X hX C E => ?_)
  subst hX
  have C : Cx B X "GriefEngine$Teller" cX8_behindResting 2 2 := C
  show Wk B X 2 T 0 [(0, .ref (B.1 h0.1 h0.2)), (1, .int x1)] []
  unfold m_X8_behindResting at h
  refine k_aload_n (pc := 0) C dX8_behindResting_0 0 rfl ?_
  refine k_iload_n (pc := 1) C dX8_behindResting_1 1 rfl ?_
  obtain ⟨z1, e1, h⟩ := bnd h
  refine k_callp2I (pc := 2) C lk_X8_11 (by decide) (kok_at hk0).1 ((kok_at hk0).2.1 _ _) (ci_at hk0) (kc_X3_behindResting hk0 e1) dX8_behindResting_2 rfl rfl (Nat.le_of_ble_eq_true rfl) ?_
  refine k_iconst (pc := 5) (v := (2 : Int32)) C dX8_behindResting_5 ciconst_2 ?_
  refine k_isub (pc := 6) C dX8_behindResting_6 ?_
  exact k_iret (pc := 7) C E (some_i h) rfl dX8_behindResting_7
/-- behindDriving, by the kind -/
def v_behindDriving (h0 : Nat × Nat) (x1 : Int32) : Option Int32 := if kn h0.1 h0.2 = 0 then m_X3_behindDriving h0 x1 else (if kn h0.1 h0.2 = 1 then m_X0_behindDriving h0 x1 else (if kn h0.1 h0.2 = 2 then m_X3_behindDriving h0 x1 else (if kn h0.1 h0.2 = 3 then m_X3_behindDriving h0 x1 else (if kn h0.1 h0.2 = 4 then m_X0_behindDriving h0 x1 else (m_X3_behindDriving h0 x1)))))
set_option maxHeartbeats 4000000 in
set_option maxRecDepth 100000 in
theorem kv_behindDriving {B : KB} {X : KE} {own : String} {cc : ByteArray} {nL d : Nat} {T : TT} {pc : Nat} {lv : List (Nat × Value)} {rest : List Value} {idx : Nat} {h0 : Nat × Nat} {x1 r : Int32} (C : Cx B X own cc nL d) (lk : Cond.methodLink own idx yX3_behindDriving ∈ GW) (hdd : 2 < d) (hk : kok h0.1 h0.2) (e : v_behindDriving h0 x1 = some r) (hd : decode cc pc = .ok (.invokevirtual idx, 3)) (hW : (rest.map fun v => v.category).sum ≤ 8) (kk : Wk B X nL T (pc + 3) lv (.int r :: rest)) : Wk B X nL T pc lv (.int x1 :: .ref (B.1 h0.1 h0.2) :: rest) := by
  obtain ⟨hx, hw, h6⟩ := kok_at hk
  unfold v_behindDriving at e
  rcases (show kn h0.1 h0.2 = 0 ∨ kn h0.1 h0.2 = 1 ∨ kn h0.1 h0.2 = 2 ∨ kn h0.1 h0.2 = 3 ∨ kn h0.1 h0.2 = 4 ∨ kn h0.1 h0.2 = 5 by omega) with q | q | q | q | q | q
  · rw [q] at e
    have e : m_X3_behindDriving h0 x1 = some r := e
    exact k_calluI C (lu_behindDriving_0 lk) (Nat.lt_of_le_of_lt (by decide) hdd) hx (ci := 3) (by rw [hw, q]; rfl) rfl rfl (kc_X3_behindDriving hk e) hd rfl rfl hW kk
  · rw [q] at e
    have e : m_X0_behindDriving h0 x1 = some r := e
    exact k_calluI C (lu_behindDriving_1 lk) (Nat.lt_of_le_of_lt (by decide) hdd) hx (ci := 0) (by rw [hw, q]; rfl) rfl rfl (kc_X0_behindDriving hk e) hd rfl rfl hW kk
  · rw [q] at e
    have e : m_X3_behindDriving h0 x1 = some r := e
    exact k_calluI C (lu_behindDriving_2 lk) (Nat.lt_of_le_of_lt (by decide) hdd) hx (ci := 6) (by rw [hw, q]; rfl) rfl rfl (kc_X3_behindDriving hk e) hd rfl rfl hW kk
  · rw [q] at e
    have e : m_X3_behindDriving h0 x1 = some r := e
    exact k_calluI C (lu_behindDriving_3 lk) (Nat.lt_of_le_of_lt (by decide) hdd) hx (ci := 7) (by rw [hw, q]; rfl) rfl rfl (kc_X3_behindDriving hk e) hd rfl rfl hW kk
  · rw [q] at e
    have e : m_X0_behindDriving h0 x1 = some r := e
    exact k_calluI C (lu_behindDriving_4 lk) (Nat.lt_of_le_of_lt (by decide) hdd) hx (ci := 8) (by rw [hw, q]; rfl) rfl rfl (kc_X0_behindDriving hk e) hd rfl rfl hW kk
  · rw [q] at e
    have e : m_X3_behindDriving h0 x1 = some r := e
    exact k_calluI C (lu_behindDriving_5 lk) (Nat.lt_of_le_of_lt (by decide) hdd) hx (ci := 1) (by rw [hw, q]; rfl) rfl rfl (kc_X3_behindDriving hk e) hd rfl rfl hW kk
/-- behindTelling, by the kind -/
def v_behindTelling (h0 : Nat × Nat) (x1 : Int32) : Option Int32 := if kn h0.1 h0.2 = 0 then m_X3_behindTelling h0 x1 else (if kn h0.1 h0.2 = 1 then m_X3_behindTelling h0 x1 else (if kn h0.1 h0.2 = 2 then m_X6_behindTelling h0 x1 else (if kn h0.1 h0.2 = 3 then m_X3_behindTelling h0 x1 else (if kn h0.1 h0.2 = 4 then m_X8_behindTelling h0 x1 else (m_X3_behindTelling h0 x1)))))
set_option maxHeartbeats 4000000 in
set_option maxRecDepth 100000 in
theorem kv_behindTelling {B : KB} {X : KE} {own : String} {cc : ByteArray} {nL d : Nat} {T : TT} {pc : Nat} {lv : List (Nat × Value)} {rest : List Value} {idx : Nat} {h0 : Nat × Nat} {x1 r : Int32} (C : Cx B X own cc nL d) (lk : Cond.methodLink own idx yX3_behindTelling ∈ GW) (hdd : 2 < d) (hk : kok h0.1 h0.2) (e : v_behindTelling h0 x1 = some r) (hd : decode cc pc = .ok (.invokevirtual idx, 3)) (hW : (rest.map fun v => v.category).sum ≤ 8) (kk : Wk B X nL T (pc + 3) lv (.int r :: rest)) : Wk B X nL T pc lv (.int x1 :: .ref (B.1 h0.1 h0.2) :: rest) := by
  obtain ⟨hx, hw, h6⟩ := kok_at hk
  unfold v_behindTelling at e
  rcases (show kn h0.1 h0.2 = 0 ∨ kn h0.1 h0.2 = 1 ∨ kn h0.1 h0.2 = 2 ∨ kn h0.1 h0.2 = 3 ∨ kn h0.1 h0.2 = 4 ∨ kn h0.1 h0.2 = 5 by omega) with q | q | q | q | q | q
  · rw [q] at e
    have e : m_X3_behindTelling h0 x1 = some r := e
    exact k_calluI C (lu_behindTelling_0 lk) (Nat.lt_of_le_of_lt (by decide) hdd) hx (ci := 3) (by rw [hw, q]; rfl) rfl rfl (kc_X3_behindTelling hk e) hd rfl rfl hW kk
  · rw [q] at e
    have e : m_X3_behindTelling h0 x1 = some r := e
    exact k_calluI C (lu_behindTelling_1 lk) (Nat.lt_of_le_of_lt (by decide) hdd) hx (ci := 0) (by rw [hw, q]; rfl) rfl rfl (kc_X3_behindTelling hk e) hd rfl rfl hW kk
  · rw [q] at e
    have e : m_X6_behindTelling h0 x1 = some r := e
    exact k_calluI C (lu_behindTelling_2 lk) (Nat.lt_of_le_of_lt (by decide) hdd) hx (ci := 6) (by rw [hw, q]; rfl) rfl rfl (kc_X6_behindTelling hk e) hd rfl rfl hW kk
  · rw [q] at e
    have e : m_X3_behindTelling h0 x1 = some r := e
    exact k_calluI C (lu_behindTelling_3 lk) (Nat.lt_of_le_of_lt (by decide) hdd) hx (ci := 7) (by rw [hw, q]; rfl) rfl rfl (kc_X3_behindTelling hk e) hd rfl rfl hW kk
  · rw [q] at e
    have e : m_X8_behindTelling h0 x1 = some r := e
    exact k_calluI C (lu_behindTelling_4 lk) (Nat.lt_of_le_of_lt (by decide) hdd) hx (ci := 8) (by rw [hw, q]; rfl) rfl rfl (kc_X8_behindTelling hk e) hd rfl rfl hW kk
  · rw [q] at e
    have e : m_X3_behindTelling h0 x1 = some r := e
    exact k_calluI C (lu_behindTelling_5 lk) (Nat.lt_of_le_of_lt (by decide) hdd) hx (ci := 1) (by rw [hw, q]; rfl) rfl rfl (kc_X3_behindTelling hk e) hd rfl rfl hW kk
/-- behindResting, by the kind -/
def v_behindResting (h0 : Nat × Nat) (x1 : Int32) : Option Int32 := if kn h0.1 h0.2 = 0 then m_X3_behindResting h0 x1 else (if kn h0.1 h0.2 = 1 then m_X3_behindResting h0 x1 else (if kn h0.1 h0.2 = 2 then m_X3_behindResting h0 x1 else (if kn h0.1 h0.2 = 3 then m_X3_behindResting h0 x1 else (if kn h0.1 h0.2 = 4 then m_X8_behindResting h0 x1 else (m_X1_behindResting h0 x1)))))
set_option maxHeartbeats 4000000 in
set_option maxRecDepth 100000 in
theorem kv_behindResting {B : KB} {X : KE} {own : String} {cc : ByteArray} {nL d : Nat} {T : TT} {pc : Nat} {lv : List (Nat × Value)} {rest : List Value} {idx : Nat} {h0 : Nat × Nat} {x1 r : Int32} (C : Cx B X own cc nL d) (lk : Cond.methodLink own idx yX3_behindResting ∈ GW) (hdd : 2 < d) (hk : kok h0.1 h0.2) (e : v_behindResting h0 x1 = some r) (hd : decode cc pc = .ok (.invokevirtual idx, 3)) (hW : (rest.map fun v => v.category).sum ≤ 8) (kk : Wk B X nL T (pc + 3) lv (.int r :: rest)) : Wk B X nL T pc lv (.int x1 :: .ref (B.1 h0.1 h0.2) :: rest) := by
  obtain ⟨hx, hw, h6⟩ := kok_at hk
  unfold v_behindResting at e
  rcases (show kn h0.1 h0.2 = 0 ∨ kn h0.1 h0.2 = 1 ∨ kn h0.1 h0.2 = 2 ∨ kn h0.1 h0.2 = 3 ∨ kn h0.1 h0.2 = 4 ∨ kn h0.1 h0.2 = 5 by omega) with q | q | q | q | q | q
  · rw [q] at e
    have e : m_X3_behindResting h0 x1 = some r := e
    exact k_calluI C (lu_behindResting_0 lk) (Nat.lt_of_le_of_lt (by decide) hdd) hx (ci := 3) (by rw [hw, q]; rfl) rfl rfl (kc_X3_behindResting hk e) hd rfl rfl hW kk
  · rw [q] at e
    have e : m_X3_behindResting h0 x1 = some r := e
    exact k_calluI C (lu_behindResting_1 lk) (Nat.lt_of_le_of_lt (by decide) hdd) hx (ci := 0) (by rw [hw, q]; rfl) rfl rfl (kc_X3_behindResting hk e) hd rfl rfl hW kk
  · rw [q] at e
    have e : m_X3_behindResting h0 x1 = some r := e
    exact k_calluI C (lu_behindResting_2 lk) (Nat.lt_of_le_of_lt (by decide) hdd) hx (ci := 6) (by rw [hw, q]; rfl) rfl rfl (kc_X3_behindResting hk e) hd rfl rfl hW kk
  · rw [q] at e
    have e : m_X3_behindResting h0 x1 = some r := e
    exact k_calluI C (lu_behindResting_3 lk) (Nat.lt_of_le_of_lt (by decide) hdd) hx (ci := 7) (by rw [hw, q]; rfl) rfl rfl (kc_X3_behindResting hk e) hd rfl rfl hW kk
  · rw [q] at e
    have e : m_X8_behindResting h0 x1 = some r := e
    exact k_calluI C (lu_behindResting_4 lk) (Nat.lt_of_le_of_lt (by decide) hdd) hx (ci := 8) (by rw [hw, q]; rfl) rfl rfl (kc_X8_behindResting hk e) hd rfl rfl hW kk
  · rw [q] at e
    have e : m_X1_behindResting h0 x1 = some r := e
    exact k_calluI C (lu_behindResting_5 lk) (Nat.lt_of_le_of_lt (by decide) hdd) hx (ci := 1) (by rw [hw, q]; rfl) rfl rfl (kc_X1_behindResting hk e) hd rfl rfl hW kk
def m_X3_left_b33 (x3 : Int32) : Option (Int32) := some (if (0 : Int32) < (if x3 < (99 : Int32) then x3 else (99 : Int32)) then (if x3 < (99 : Int32) then x3 else (99 : Int32)) else (0 : Int32))
def m_X3_left (h0 : Nat × Nat) (x1 : Int32) (x2 : Int32) : Option (Int32) := if x1 = 0 then ((v_behindDriving h0 x2).bind (fun z4 => m_X3_left_b33 z4)) else (if x1 = (1 : Int32) then ((v_behindTelling h0 x2).bind (fun z2 => m_X3_left_b33 z2)) else ((v_behindResting h0 x2).bind (fun z1 => m_X3_left_b33 z1)))
set_option maxHeartbeats 4000000 in
set_option maxRecDepth 100000 in
theorem k_X3_left_b33 {B : KB} {X : KE} {T0 : TT} {res : Int32} (C : Cx B X "GriefEngine$Plain" cX3_left 4 3) (E : Cr B X (some .int) (some (.int res)) T0) (x3 : Int32) (h : m_X3_left_b33 x3 = some res) : Wk B X 4 T0 33 [(3, .int x3)] [] := by
  unfold m_X3_left_b33 at h
  refine k_iconst (pc := 33) (v := (0 : Int32)) C dX3_left_33 ciconst_0 ?_
  refine k_bipush (pc := 34) (v := (99 : Int32)) C dX3_left_34 cbipush_99 ?_
  refine k_iload_n (pc := 36) C dX3_left_36 0 rfl ?_
  refine k_mmin (pc := 37) C (by decide) tw3_12 tw2_184 tw1_17 tw2_185 (Nat.le_of_ble_eq_true rfl) dX3_left_37 ?_
  refine k_mmax (pc := 40) C (by decide) tw3_13 tw3_14 tw1_17 tw3_15 (Nat.le_of_ble_eq_true rfl) dX3_left_40 ?_
  exact k_iret (pc := 43) C E (some_i h) rfl dX3_left_43
set_option maxHeartbeats 4000000 in
set_option maxRecDepth 100000 in
theorem kc_X3_left {B : KB} {l : Launch} {T : TT} {h0 : Nat × Nat} {x1 : Int32} {x2 : Int32} {res : Int32} (hk0 : kok h0.1 h0.2) (h : m_X3_left h0 x1 x2 = some res) : Kt B l 3 yX3_left cX3_left 4 (some .int) T [.ref (B.1 h0.1 h0.2), .int x1, .int x2] (some (.int res)) T := by
  refine Kt.of (by decide) (Nat.le_of_ble_eq_true rfl) (fun X hX C E => ?_)
  subst hX
  have C : Cx B X "GriefEngine$Plain" cX3_left 4 3 := C
  show Wk B X 4 T 0 [(0, .ref (B.1 h0.1 h0.2)), (1, .int x1), (2, .int x2)] []
  unfold m_X3_left at h
  refine k_iload_n (pc := 0) C dX3_left_0 1 rfl ?_
  refine k_if_ne (pc := 1) C 13 dX3_left_1 (by decide) h (fun c5 h => ?_) (fun c5 h => ?_)
  · refine k_iload_n (pc := 13) C dX3_left_13 1 rfl ?_
    refine k_iconst (pc := 14) (v := (1 : Int32)) C dX3_left_14 ciconst_1 ?_
    refine k_icmp_ne (pc := 15) C 27 dX3_left_15 (by decide) h (fun c3 h => ?_) (fun c3 h => ?_)
    · refine k_aload_n (pc := 27) C dX3_left_27 0 rfl ?_
      refine k_iload_n (pc := 28) C dX3_left_28 2 rfl ?_
      obtain ⟨z1, e1, h⟩ := bnd h
      refine kv_behindResting (pc := 29) C lk_X3_18 (by decide) hk0 e1 dX3_left_29 (Nat.le_of_ble_eq_true rfl) ?_
      refine k_istore_n (pc := 32) C [(3, .int z1), (0, .ref (B.1 h0.1 h0.2)), (1, .int x1), (2, .int x2)] dX3_left_32 (by decide) rfl ?_
      refine k_sub [0] rfl ?_
      exact k_X3_left_b33 C E z1 h
    · refine k_aload_n (pc := 18) C dX3_left_18 0 rfl ?_
      refine k_iload_n (pc := 19) C dX3_left_19 2 rfl ?_
      obtain ⟨z2, e2, h⟩ := bnd h
      refine kv_behindTelling (pc := 20) C lk_X3_15 (by decide) hk0 e2 dX3_left_20 (Nat.le_of_ble_eq_true rfl) ?_
      refine k_istore_n (pc := 23) C [(3, .int z2), (0, .ref (B.1 h0.1 h0.2)), (1, .int x1), (2, .int x2)] dX3_left_23 (by decide) rfl ?_
      refine k_goto (pc := 24) C 33 dX3_left_24 (by decide) ?_
      refine k_sub [0] rfl ?_
      exact k_X3_left_b33 C E z2 h
  · refine k_aload_n (pc := 4) C dX3_left_4 0 rfl ?_
    refine k_iload_n (pc := 5) C dX3_left_5 2 rfl ?_
    obtain ⟨z4, e4, h⟩ := bnd h
    refine kv_behindDriving (pc := 6) C lk_X3_9 (by decide) hk0 e4 dX3_left_6 (Nat.le_of_ble_eq_true rfl) ?_
    refine k_istore_n (pc := 9) C [(3, .int z4), (0, .ref (B.1 h0.1 h0.2)), (1, .int x1), (2, .int x2)] dX3_left_9 (by decide) rfl ?_
    refine k_goto (pc := 10) C 33 dX3_left_10 (by decide) ?_
    refine k_sub [0] rfl ?_
    exact k_X3_left_b33 C E z4 h
def m_X10_seasonOf (x0 : Int32) : Option (Int32) := some ((x0 / (20 : Int32)) - (x0 / (20 : Int32)) / (4 : Int32) * (4 : Int32))
set_option maxHeartbeats 4000000 in
set_option maxRecDepth 100000 in
theorem kc_X10_seasonOf {B : KB} {l : Launch} {T : TT} {x0 : Int32} {res : Int32} (h : m_X10_seasonOf x0 = some res) : Kt B l 1 yX10_seasonOf cX10_seasonOf 1 (some .int) T [.int x0] (some (.int res)) T := by
  refine Kt.of (by decide) (Nat.le_of_ble_eq_true rfl) (fun X hX C E => ?_)
  subst hX
  have C : Cx B X "GriefEngine" cX10_seasonOf 1 1 := C
  show Wk B X 1 T 0 [(0, .int x0)] []
  unfold m_X10_seasonOf at h
  refine k_iload_n (pc := 0) C dX10_seasonOf_0 0 rfl ?_
  refine k_bipush (pc := 1) (v := (20 : Int32)) C dX10_seasonOf_1 cbipush_20 ?_
  refine k_idivc (pc := 3) C dX10_seasonOf_3 (by decide) ?_
  refine k_iconst (pc := 4) (v := (4 : Int32)) C dX10_seasonOf_4 ciconst_4 ?_
  refine k_iremc (pc := 5) C dX10_seasonOf_5 (by decide) ?_
  exact k_iret (pc := 6) C E (some_i h) rfl dX10_seasonOf_6
def m_X6_runs (h0 : Nat × Nat) (x1 : Int32) (x2 : Int32) : Option (Int32) := (m_X3_runs h0 x1 x2).bind (fun z1 => some (z1 / (3 : Int32)))
set_option maxHeartbeats 4000000 in
set_option maxRecDepth 100000 in
theorem kc_X6_runs {B : KB} {l : Launch} {T : TT} {h0 : Nat × Nat} {x1 : Int32} {x2 : Int32} {res : Int32} (hk0 : kok h0.1 h0.2) (h : m_X6_runs h0 x1 x2 = some res) : Kt B l 2 yX6_runs cX6_runs 3 (some .int) T [.ref (B.1 h0.1 h0.2), .int x1, .int x2] (some (.int res)) T := by
  refine Kt.of (by decide) (Nat.le_of_ble_eq_true rfl) (fun X hX C E => ?_)
  subst hX
  have C : Cx B X "GriefEngine$Sham" cX6_runs 3 2 := C
  show Wk B X 3 T 0 [(0, .ref (B.1 h0.1 h0.2)), (1, .int x1), (2, .int x2)] []
  unfold m_X6_runs at h
  refine k_aload_n (pc := 0) C dX6_runs_0 0 rfl ?_
  refine k_iload_n (pc := 1) C dX6_runs_1 1 rfl ?_
  refine k_iload_n (pc := 2) C dX6_runs_2 2 rfl ?_
  obtain ⟨z1, e1, h⟩ := bnd h
  refine k_callpI (pc := 3) C lk_X6_7 (by decide) (kok_at hk0).1 ((kok_at hk0).2.1 _ _) (ci_at hk0) (kc_X3_runs hk0 e1) dX6_runs_3 rfl rfl (Nat.le_of_ble_eq_true rfl) ?_
  refine k_iconst (pc := 6) (v := (3 : Int32)) C dX6_runs_6 ciconst_3 ?_
  refine k_idivc (pc := 7) C dX6_runs_7 (by decide) ?_
  exact k_iret (pc := 8) C E (some_i h) rfl dX6_runs_8
/-- runs, by the kind -/
def v_runs (h0 : Nat × Nat) (x1 x2 : Int32) : Option Int32 := if kn h0.1 h0.2 = 0 then m_X3_runs h0 x1 x2 else (if kn h0.1 h0.2 = 1 then m_X3_runs h0 x1 x2 else (if kn h0.1 h0.2 = 2 then m_X6_runs h0 x1 x2 else (if kn h0.1 h0.2 = 3 then m_X7_runs h0 x1 x2 else (if kn h0.1 h0.2 = 4 then m_X3_runs h0 x1 x2 else (m_X1_runs h0 x1 x2)))))
set_option maxHeartbeats 4000000 in
set_option maxRecDepth 100000 in
theorem kv_runs {B : KB} {X : KE} {own : String} {cc : ByteArray} {nL d : Nat} {T : TT} {pc : Nat} {lv : List (Nat × Value)} {rest : List Value} {idx : Nat} {h0 : Nat × Nat} {x1 x2 r : Int32} (C : Cx B X own cc nL d) (lk : Cond.methodLink own idx yX3_runs ∈ GW) (hdd : 3 < d) (hk : kok h0.1 h0.2) (e : v_runs h0 x1 x2 = some r) (hd : decode cc pc = .ok (.invokevirtual idx, 3)) (hW : (rest.map fun v => v.category).sum ≤ 8) (kk : Wk B X nL T (pc + 3) lv (.int r :: rest)) : Wk B X nL T pc lv (.int x2 :: .int x1 :: .ref (B.1 h0.1 h0.2) :: rest) := by
  obtain ⟨hx, hw, h6⟩ := kok_at hk
  unfold v_runs at e
  rcases (show kn h0.1 h0.2 = 0 ∨ kn h0.1 h0.2 = 1 ∨ kn h0.1 h0.2 = 2 ∨ kn h0.1 h0.2 = 3 ∨ kn h0.1 h0.2 = 4 ∨ kn h0.1 h0.2 = 5 by omega) with q | q | q | q | q | q
  · rw [q] at e
    have e : m_X3_runs h0 x1 x2 = some r := e
    exact k_calluI C (lu_runs_0 lk) (Nat.lt_of_le_of_lt (by decide) hdd) hx (ci := 3) (by rw [hw, q]; rfl) rfl rfl (kc_X3_runs hk e) hd rfl rfl hW kk
  · rw [q] at e
    have e : m_X3_runs h0 x1 x2 = some r := e
    exact k_calluI C (lu_runs_1 lk) (Nat.lt_of_le_of_lt (by decide) hdd) hx (ci := 0) (by rw [hw, q]; rfl) rfl rfl (kc_X3_runs hk e) hd rfl rfl hW kk
  · rw [q] at e
    have e : m_X6_runs h0 x1 x2 = some r := e
    exact k_calluI C (lu_runs_2 lk) (Nat.lt_of_le_of_lt (by decide) hdd) hx (ci := 6) (by rw [hw, q]; rfl) rfl rfl (kc_X6_runs hk e) hd rfl rfl hW kk
  · rw [q] at e
    have e : m_X7_runs h0 x1 x2 = some r := e
    exact k_calluI C (lu_runs_3 lk) (Nat.lt_of_le_of_lt (by decide) hdd) hx (ci := 7) (by rw [hw, q]; rfl) rfl rfl (kc_X7_runs hk e) hd rfl rfl hW kk
  · rw [q] at e
    have e : m_X3_runs h0 x1 x2 = some r := e
    exact k_calluI C (lu_runs_4 lk) (Nat.lt_of_le_of_lt (by decide) hdd) hx (ci := 8) (by rw [hw, q]; rfl) rfl rfl (kc_X3_runs hk e) hd rfl rfl hW kk
  · rw [q] at e
    have e : m_X1_runs h0 x1 x2 = some r := e
    exact k_calluI C (lu_runs_5 lk) (Nat.lt_of_le_of_lt (by decide) hdd) hx (ci := 1) (by rw [hw, q]; rfl) rfl rfl (kc_X1_runs hk e) hd rfl rfl hW kk
/-- left, by the kind -/
def v_left (h0 : Nat × Nat) (x1 x2 : Int32) : Option Int32 := if kn h0.1 h0.2 = 0 then m_X3_left h0 x1 x2 else (if kn h0.1 h0.2 = 1 then m_X3_left h0 x1 x2 else (if kn h0.1 h0.2 = 2 then m_X3_left h0 x1 x2 else (if kn h0.1 h0.2 = 3 then m_X3_left h0 x1 x2 else (if kn h0.1 h0.2 = 4 then m_X3_left h0 x1 x2 else (m_X3_left h0 x1 x2)))))
set_option maxHeartbeats 4000000 in
set_option maxRecDepth 100000 in
theorem kv_left {B : KB} {X : KE} {own : String} {cc : ByteArray} {nL d : Nat} {T : TT} {pc : Nat} {lv : List (Nat × Value)} {rest : List Value} {idx : Nat} {h0 : Nat × Nat} {x1 x2 r : Int32} (C : Cx B X own cc nL d) (lk : Cond.methodLink own idx yX3_left ∈ GW) (hdd : 3 < d) (hk : kok h0.1 h0.2) (e : v_left h0 x1 x2 = some r) (hd : decode cc pc = .ok (.invokevirtual idx, 3)) (hW : (rest.map fun v => v.category).sum ≤ 8) (kk : Wk B X nL T (pc + 3) lv (.int r :: rest)) : Wk B X nL T pc lv (.int x2 :: .int x1 :: .ref (B.1 h0.1 h0.2) :: rest) := by
  obtain ⟨hx, hw, h6⟩ := kok_at hk
  unfold v_left at e
  rcases (show kn h0.1 h0.2 = 0 ∨ kn h0.1 h0.2 = 1 ∨ kn h0.1 h0.2 = 2 ∨ kn h0.1 h0.2 = 3 ∨ kn h0.1 h0.2 = 4 ∨ kn h0.1 h0.2 = 5 by omega) with q | q | q | q | q | q
  · rw [q] at e
    have e : m_X3_left h0 x1 x2 = some r := e
    exact k_calluI C (lu_left_0 lk) (Nat.lt_of_le_of_lt (by decide) hdd) hx (ci := 3) (by rw [hw, q]; rfl) rfl rfl (kc_X3_left hk e) hd rfl rfl hW kk
  · rw [q] at e
    have e : m_X3_left h0 x1 x2 = some r := e
    exact k_calluI C (lu_left_1 lk) (Nat.lt_of_le_of_lt (by decide) hdd) hx (ci := 0) (by rw [hw, q]; rfl) rfl rfl (kc_X3_left hk e) hd rfl rfl hW kk
  · rw [q] at e
    have e : m_X3_left h0 x1 x2 = some r := e
    exact k_calluI C (lu_left_2 lk) (Nat.lt_of_le_of_lt (by decide) hdd) hx (ci := 6) (by rw [hw, q]; rfl) rfl rfl (kc_X3_left hk e) hd rfl rfl hW kk
  · rw [q] at e
    have e : m_X3_left h0 x1 x2 = some r := e
    exact k_calluI C (lu_left_3 lk) (Nat.lt_of_le_of_lt (by decide) hdd) hx (ci := 7) (by rw [hw, q]; rfl) rfl rfl (kc_X3_left hk e) hd rfl rfl hW kk
  · rw [q] at e
    have e : m_X3_left h0 x1 x2 = some r := e
    exact k_calluI C (lu_left_4 lk) (Nat.lt_of_le_of_lt (by decide) hdd) hx (ci := 8) (by rw [hw, q]; rfl) rfl rfl (kc_X3_left hk e) hd rfl rfl hW kk
  · rw [q] at e
    have e : m_X3_left h0 x1 x2 = some r := e
    exact k_calluI C (lu_left_5 lk) (Nat.lt_of_le_of_lt (by decide) hdd) hx (ci := 1) (by rw [hw, q]; rfl) rfl rfl (kc_X3_left hk e) hd rfl rfl hW kk
def m_X3_milesFromFirstDay_h8 (rec8 : (Nat × Nat) → Int32 → Int32 → Int32 → Int32 → Option (Int32)) (hx0 : Nat × Nat) (x2 : Int32) (x3 : Int32) (x4 : Int32) (x5 : Int32) : Option (Int32) := if x2 ≤ x5 then (some x3) else ((m_X10_seasonOf x5).bind (fun z1 => (v_runs hx0 z1 x4).bind (fun z2 => bT (x3 + z2) (fun y3 => (v_left hx0 (0 : Int32) x4).bind (fun z4 => bT (x5 + (1 : Int32)) (fun y5 => rec8 hx0 x2 y3 z4 y5))))))
def m_X3_milesFromFirstDay_l8 : Nat → (Nat × Nat) → Int32 → Int32 → Int32 → Int32 → Option (Int32)
  | 0 => fun _ _ _ _ _ => none
  | n + 1 => fun hx0 x2 x3 x4 x5 => m_X3_milesFromFirstDay_h8 (m_X3_milesFromFirstDay_l8 n) hx0 x2 x3 x4 x5
def m_X3_milesFromFirstDay (h0 : Nat × Nat) (x1 : Int32) (x2 : Int32) : Option (Int32) := m_X3_milesFromFirstDay_l8 FU h0 x2 (0 : Int32) x1 (0 : Int32)
set_option maxHeartbeats 4000000 in
set_option maxRecDepth 100000 in
theorem k_X3_milesFromFirstDay_h8 {B : KB} {X : KE} {rec8 : (Nat × Nat) → Int32 → Int32 → Int32 → Int32 → Option (Int32)} {T0 : TT} {res : Int32} (C : Cx B X "GriefEngine$Plain" cX3_milesFromFirstDay 6 4) (E : Cr B X (some .int) (some (.int res)) T0) (hrec8 : ∀ (hx0 : Nat × Nat) (x2 : Int32) (x3 : Int32) (x4 : Int32) (x5 : Int32), kok hx0.1 hx0.2 → rec8 hx0 x2 x3 x4 x5 = some res → Wk B X 6 T0 8 [(0, .ref (B.1 hx0.1 hx0.2)), (2, .int x2), (3, .int x3), (4, .int x4), (5, .int x5)] []) (hx0 : Nat × Nat) (x2 : Int32) (x3 : Int32) (x4 : Int32) (x5 : Int32) (hkx0 : kok hx0.1 hx0.2) (h : m_X3_milesFromFirstDay_h8 rec8 hx0 x2 x3 x4 x5 = some res) : Wk B X 6 T0 8 [(0, .ref (B.1 hx0.1 hx0.2)), (2, .int x2), (3, .int x3), (4, .int x4), (5, .int x5)] [] := by
  unfold m_X3_milesFromFirstDay_h8 at h
  refine k_iload (pc := 8) C dX3_milesFromFirstDay_8 4 rfl ?_
  refine k_iload_n (pc := 10) C dX3_milesFromFirstDay_10 1 rfl ?_
  refine k_icmp_ge (pc := 11) C 43 dX3_milesFromFirstDay_11 (by decide) h (fun c6 h => ?_) (fun c6 h => ?_)
  · refine k_iload_n (pc := 43) C dX3_milesFromFirstDay_43 2 rfl ?_
    exact k_iret (pc := 44) C E (some_i h) rfl dX3_milesFromFirstDay_44
  · refine k_iload_n (pc := 14) C dX3_milesFromFirstDay_14 2 rfl ?_
    refine k_aload_n (pc := 15) C dX3_milesFromFirstDay_15 0 rfl ?_
    refine k_iload (pc := 16) C dX3_milesFromFirstDay_16 4 rfl ?_
    obtain ⟨z1, e1, h⟩ := bnd h
    refine k_callsnI (pc := 18) (n := 1) C C.2.2.2.2.2.1.2.1 tw2_169 tw1_1 tw2_170 ⟨by decide, by decide, by decide +kernel⟩ (by decide) (by decide) (kc_X10_seasonOf e1) dX3_milesFromFirstDay_18 rfl rfl (Nat.le_of_ble_eq_true rfl) ?_
    refine k_iload (pc := 21) C dX3_milesFromFirstDay_21 3 rfl ?_
    obtain ⟨z2, e2, h⟩ := bnd h
    refine kv_runs (pc := 23) C lk_X3_33 (by decide) hkx0 e2 dX3_milesFromFirstDay_23 (Nat.le_of_ble_eq_true rfl) ?_
    refine k_iadd (pc := 26) C dX3_milesFromFirstDay_26 ?_
    refine k_nI h (fun y3 h => ?_)
    refine k_istore_n (pc := 27) C [(3, .int y3), (0, .ref (B.1 hx0.1 hx0.2)), (2, .int x2), (4, .int x4), (5, .int x5)] dX3_milesFromFirstDay_27 (by decide) rfl ?_
    refine k_aload_n (pc := 28) C dX3_milesFromFirstDay_28 1 rfl ?_
    refine k_iconst (pc := 29) (v := (0 : Int32)) C dX3_milesFromFirstDay_29 ciconst_0 ?_
    refine k_iload (pc := 30) C dX3_milesFromFirstDay_30 3 rfl ?_
    obtain ⟨z4, e4, h⟩ := bnd h
    refine kv_left (pc := 32) C lk_X3_36 (by decide) hkx0 e4 dX3_milesFromFirstDay_32 (Nat.le_of_ble_eq_true rfl) ?_
    refine k_istore (pc := 35) C [(4, .int z4), (3, .int y3), (0, .ref (B.1 hx0.1 hx0.2)), (2, .int x2), (5, .int x5)] dX3_milesFromFirstDay_35 (by decide) rfl ?_
    refine k_iincN (pc := 37) (x := x5) (c := (1 : Int32)) C (fun y5 => [(5, .int y5), (4, .int z4), (3, .int y3), (0, .ref (B.1 hx0.1 hx0.2)), (2, .int x2)]) dX3_milesFromFirstDay_37 4 rfl ciconst_1 (by decide) (fun _ => rfl) h (fun y5 h => ?_)
    refine k_goto (pc := 40) C 8 dX3_milesFromFirstDay_40 (by decide) ?_
    refine k_sub [3, 4, 2, 1, 0] rfl ?_
    exact hrec8 hx0 x2 y3 z4 y5 hkx0 h
set_option maxHeartbeats 4000000 in
set_option maxRecDepth 100000 in
theorem k_X3_milesFromFirstDay_l8 {B : KB} {X : KE} {T0 : TT} {res : Int32} (C : Cx B X "GriefEngine$Plain" cX3_milesFromFirstDay 6 4) (E : Cr B X (some .int) (some (.int res)) T0) : ∀ (n : Nat) (hx0 : Nat × Nat) (x2 : Int32) (x3 : Int32) (x4 : Int32) (x5 : Int32) (hkx0 : kok hx0.1 hx0.2) (h : m_X3_milesFromFirstDay_l8 n hx0 x2 x3 x4 x5 = some res), Wk B X 6 T0 8 [(0, .ref (B.1 hx0.1 hx0.2)), (2, .int x2), (3, .int x3), (4, .int x4), (5, .int x5)] [] := by
  intro n
  induction n with
  | zero =>
    intro hx0 x2 x3 x4 x5 hkx0 h
    exact no_some h
  | succ n ih =>
    intro hx0 x2 x3 x4 x5 hkx0 h
    exact k_X3_milesFromFirstDay_h8 C E (fun hx0 x2 x3 x4 x5 hkx0 h => ih hx0 x2 x3 x4 x5 hkx0 h) hx0 x2 x3 x4 x5 hkx0 h
set_option maxHeartbeats 4000000 in
set_option maxRecDepth 100000 in
theorem kc_X3_milesFromFirstDay {B : KB} {l : Launch} {T : TT} {h0 : Nat × Nat} {x1 : Int32} {x2 : Int32} {res : Int32} (hk0 : kok h0.1 h0.2) (h : m_X3_milesFromFirstDay h0 x1 x2 = some res) : Kt B l 4 yX3_milesFromFirstDay cX3_milesFromFirstDay 6 (some .int) T [.ref (B.1 h0.1 h0.2), .int x1, .int x2] (some (.int res)) T := by
  refine Kt.of (by decide) (Nat.le_of_ble_eq_true rfl) (fun X hX C E => ?_)
  subst hX
  have C : Cx B X "GriefEngine$Plain" cX3_milesFromFirstDay 6 4 := C
  show Wk B X 6 T 0 [(0, .ref (B.1 h0.1 h0.2)), (1, .int x1), (2, .int x2)] []
  unfold m_X3_milesFromFirstDay at h
  refine k_iconst (pc := 0) (v := (0 : Int32)) C dX3_milesFromFirstDay_0 ciconst_0 ?_
  refine k_istore_n (pc := 1) C [(3, .int (0 : Int32)), (0, .ref (B.1 h0.1 h0.2)), (1, .int x1), (2, .int x2)] dX3_milesFromFirstDay_1 (by decide) rfl ?_
  refine k_iload_n (pc := 2) C dX3_milesFromFirstDay_2 2 rfl ?_
  refine k_istore (pc := 3) C [(4, .int x1), (3, .int (0 : Int32)), (0, .ref (B.1 h0.1 h0.2)), (1, .int x1), (2, .int x2)] dX3_milesFromFirstDay_3 (by decide) rfl ?_
  refine k_iconst (pc := 5) (v := (0 : Int32)) C dX3_milesFromFirstDay_5 ciconst_0 ?_
  refine k_istore (pc := 6) C [(5, .int (0 : Int32)), (4, .int x1), (3, .int (0 : Int32)), (0, .ref (B.1 h0.1 h0.2)), (1, .int x1), (2, .int x2)] dX3_milesFromFirstDay_6 (by decide) rfl ?_
  refine k_sub [3, 5, 2, 1, 0] rfl ?_
  exact k_X3_milesFromFirstDay_l8 C E FU h0 x2 (0 : Int32) x1 (0 : Int32) hk0 h
def m_X4_reset (T : TT) (g : Nat) : Option (TT) := bT (sI T g 7 (0 : Int32)) (fun T1 => bT (sI T1 g 8 (0 : Int32)) (fun T2 => bT (sI T2 g 9 (0 : Int32)) (fun T3 => bT (sI T3 g 10 (0 : Int32)) (fun T4 => bT (sI T4 g 11 (0 : Int32)) (fun T5 => some T5)))))
set_option maxHeartbeats 4000000 in
set_option maxRecDepth 100000 in
theorem kc_X4_reset {B : KB} {l : Launch} {T : TT} {g : Nat} {res : TT} (hg : g < 4) (h : m_X4_reset T g = some res) : Kt B l 1 yX4_reset cX4_reset 1 none T [.ref (B.1 g 0)] none res := by
  refine Kt.of (by decide) (Nat.le_of_ble_eq_true rfl) (fun X hX C E => ?_)
  subst hX
  have C : Cx B X "GriefEngine$Rank" cX4_reset 1 1 := C
  show Wk B X 1 T 0 [(0, .ref (B.1 g 0))] []
  unfold m_X4_reset at h
  refine k_aload_n (pc := 0) C dX4_reset_0 0 rfl ?_
  refine k_iconst (pc := 1) (v := (0 : Int32)) C dX4_reset_1 ciconst_0 ?_
  refine pf_X4_52 (pc := 2) C hg dX4_reset_2 ?_
  refine k_nT h (fun T1 h => ?_)
  refine k_aload_n (pc := 5) C dX4_reset_5 0 rfl ?_
  refine k_iconst (pc := 6) (v := (0 : Int32)) C dX4_reset_6 ciconst_0 ?_
  refine pf_X4_56 (pc := 7) C hg dX4_reset_7 ?_
  refine k_nT h (fun T2 h => ?_)
  refine k_aload_n (pc := 10) C dX4_reset_10 0 rfl ?_
  refine k_iconst (pc := 11) (v := (0 : Int32)) C dX4_reset_11 ciconst_0 ?_
  refine pf_X4_59 (pc := 12) C hg dX4_reset_12 ?_
  refine k_nT h (fun T3 h => ?_)
  refine k_aload_n (pc := 15) C dX4_reset_15 0 rfl ?_
  refine k_iconst (pc := 16) (v := (0 : Int32)) C dX4_reset_16 ciconst_0 ?_
  refine pf_X4_62 (pc := 17) C hg dX4_reset_17 ?_
  refine k_nT h (fun T4 h => ?_)
  refine k_aload_n (pc := 20) C dX4_reset_20 0 rfl ?_
  refine k_iconst (pc := 21) (v := (0 : Int32)) C dX4_reset_21 ciconst_0 ?_
  refine pf_X4_65 (pc := 22) C hg dX4_reset_22 ?_
  refine k_nT h (fun T5 h => ?_)
  exact k_vret (pc := 25) C E (some_i h) dX4_reset_25
