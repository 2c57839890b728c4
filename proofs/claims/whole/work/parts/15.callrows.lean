section KW
variable {B : KB} {X : KE} {own : String} {cc : ByteArray} {nL d : Nat} {T : TT} {pc : Nat} {lv : List (Nat × Value)} {st : List Value}
theorem k_callsI {idx : Nat} {y : MethodName} {c2 : ByteArray} {maxL n d' : Nat} {ret : Option FieldType} {as rest : List Value} {v : Int32} {T1 : TT} (C : Cx B X own cc nL d) (lk : LkS own idx y c2 maxL ret n) (hdd : d' < d) (hk : Kt B X.2.1 d' y c2 maxL ret T as (some (.int v)) T1) (hd : decode cc pc = .ok (.invokestatic idx, 3)) (hn : as.length = n) (hs : st = as.reverse ++ rest) (hW : (rest.map fun v => v.category).sum ≤ 8) (kk : Wk B X nL T1 (pc + 3) lv (.int v :: rest)) : Wk B X nL T pc lv st := k_calls C lk hdd hk hd hn hs hW kk
theorem k_callsnI {idx : Nat} {y : MethodName} {c2 : ByteArray} {maxL n d' : Nat} {ret : Option FieldType} {as rest : List Value} {v : Int32} {T1 : TT} (C : Cx B X own cc nL d) {host : String} (hnw : va_Nw (.methodLinkNest own idx y host) X.2.2.2.2.1) (l2 : Cond.static y ∈ GW) (l3 : Cond.initialized y.cls ∈ GW) (l4 : Cond.code y c2 maxL ret ∈ GW) (l5 : y.cls ≠ "java/lang/invoke/MethodHandle" ∧ y.cls ≠ "java/lang/invoke/VarHandle" ∧ (parseMethodDescriptor y.desc).map (fun d => d.parameters.length) = some n) (l6 : maxL ≤ 45) (hdd : d' < d) (hk : Kt B X.2.1 d' y c2 maxL ret T as (some (.int v)) T1) (hd : decode cc pc = .ok (.invokestatic idx, 3)) (hn : as.length = n) (hs : st = as.reverse ++ rest) (hW : (rest.map fun v => v.category).sum ≤ 8) (kk : Wk B X nL T1 (pc + 3) lv (.int v :: rest)) : Wk B X nL T pc lv st := k_callsn C hnw l2 l3 l4 l5 l6 hdd hk hd hn hs hW kk
theorem k_callvI {idx : Nat} {y : MethodName} {c2 : ByteArray} {maxL n d' : Nat} {ret : Option FieldType} {as rest : List Value} {v : Int32} {T1 : TT} (C : Cx B X own cc nL d) {g f ci : Nat} {q : vw_C} {fs : List Value} (lk : LkV own idx y c2 maxL ret n) (hdd : d' < d) (hx0 : (g, f) ∈ IX) (hw0 : wc B T g f = .inr (ci, fs)) (hc0 : vwCl[ci]? = some q) (hq0 : q.1 = y.cls) (hk : Kt B X.2.1 d' y c2 maxL ret T (.ref (B.1 g f) :: as) (some (.int v)) T1) (hd : decode cc pc = .ok (.invokevirtual idx, 3)) (hn : as.length = n) (hs : st = as.reverse ++ .ref (B.1 g f) :: rest) (hW : (rest.map fun v => v.category).sum ≤ 8) (kk : Wk B X nL T1 (pc + 3) lv (.int v :: rest)) : Wk B X nL T pc lv st := k_callv C lk hdd hx0 hw0 hc0 hq0 hk hd hn hs hW kk
theorem k_calluI {idx : Nat} {y : MethodName} {c2 : ByteArray} {maxL n d' : Nat} {ret : Option FieldType} {as rest : List Value} {v : Int32} {T1 : TT} (C : Cx B X own cc nL d) {Cn : String} {x : MethodName} {g f ci : Nat} {q : vw_C} {fs : List Value} (lk : LkU own idx Cn x y c2 maxL ret n) (hdd : d' < d) (hx0 : (g, f) ∈ IX) (hw0 : wc B T g f = .inr (ci, fs)) (hc0 : vwCl[ci]? = some q) (hq0 : q.1 = Cn) (hk : Kt B X.2.1 d' y c2 maxL ret T (.ref (B.1 g f) :: as) (some (.int v)) T1) (hd : decode cc pc = .ok (.invokevirtual idx, 3)) (hn : as.length = n) (hs : st = as.reverse ++ .ref (B.1 g f) :: rest) (hW : (rest.map fun v => v.category).sum ≤ 8) (kk : Wk B X nL T1 (pc + 3) lv (.int v :: rest)) : Wk B X nL T pc lv st := k_callu C lk hdd hx0 hw0 hc0 hq0 hk hd hn hs hW kk
theorem k_callpI {idx : Nat} {y : MethodName} {c2 : ByteArray} {maxL n d' : Nat} {ret : Option FieldType} {as rest : List Value} {v : Int32} {T1 : TT} (C : Cx B X own cc nL d) {g f ci : Nat} {q : vw_C} {fs : List Value} (lk : LkP own idx y c2 maxL ret n) (hdd : d' < d) (hx0 : (g, f) ∈ IX) (hw0 : wc B T g f = .inr (ci, fs)) (hc0 : vwCl[ci]? = some q) (hk : Kt B X.2.1 d' y c2 maxL ret T (.ref (B.1 g f) :: as) (some (.int v)) T1) (hd : decode cc pc = .ok (.invokespecial idx, 3)) (hn : as.length = n) (hs : st = as.reverse ++ .ref (B.1 g f) :: rest) (hW : (rest.map fun v => v.category).sum ≤ 8) (kk : Wk B X nL T1 (pc + 3) lv (.int v :: rest)) : Wk B X nL T pc lv st := k_callp C lk hdd hx0 hw0 hc0 hk hd hn hs hW kk
theorem k_callsJ {idx : Nat} {y : MethodName} {c2 : ByteArray} {maxL n d' : Nat} {ret : Option FieldType} {as rest : List Value} {v : Int64} {T1 : TT} (C : Cx B X own cc nL d) (lk : LkS own idx y c2 maxL ret n) (hdd : d' < d) (hk : Kt B X.2.1 d' y c2 maxL ret T as (some (.long v)) T1) (hd : decode cc pc = .ok (.invokestatic idx, 3)) (hn : as.length = n) (hs : st = as.reverse ++ rest) (hW : (rest.map fun v => v.category).sum ≤ 8) (kk : Wk B X nL T1 (pc + 3) lv (.long v :: rest)) : Wk B X nL T pc lv st := k_calls C lk hdd hk hd hn hs hW kk
theorem k_callsnJ {idx : Nat} {y : MethodName} {c2 : ByteArray} {maxL n d' : Nat} {ret : Option FieldType} {as rest : List Value} {v : Int64} {T1 : TT} (C : Cx B X own cc nL d) {host : String} (hnw : va_Nw (.methodLinkNest own idx y host) X.2.2.2.2.1) (l2 : Cond.static y ∈ GW) (l3 : Cond.initialized y.cls ∈ GW) (l4 : Cond.code y c2 maxL ret ∈ GW) (l5 : y.cls ≠ "java/lang/invoke/MethodHandle" ∧ y.cls ≠ "java/lang/invoke/VarHandle" ∧ (parseMethodDescriptor y.desc).map (fun d => d.parameters.length) = some n) (l6 : maxL ≤ 45) (hdd : d' < d) (hk : Kt B X.2.1 d' y c2 maxL ret T as (some (.long v)) T1) (hd : decode cc pc = .ok (.invokestatic idx, 3)) (hn : as.length = n) (hs : st = as.reverse ++ rest) (hW : (rest.map fun v => v.category).sum ≤ 8) (kk : Wk B X nL T1 (pc + 3) lv (.long v :: rest)) : Wk B X nL T pc lv st := k_callsn C hnw l2 l3 l4 l5 l6 hdd hk hd hn hs hW kk
theorem k_callvJ {idx : Nat} {y : MethodName} {c2 : ByteArray} {maxL n d' : Nat} {ret : Option FieldType} {as rest : List Value} {v : Int64} {T1 : TT} (C : Cx B X own cc nL d) {g f ci : Nat} {q : vw_C} {fs : List Value} (lk : LkV own idx y c2 maxL ret n) (hdd : d' < d) (hx0 : (g, f) ∈ IX) (hw0 : wc B T g f = .inr (ci, fs)) (hc0 : vwCl[ci]? = some q) (hq0 : q.1 = y.cls) (hk : Kt B X.2.1 d' y c2 maxL ret T (.ref (B.1 g f) :: as) (some (.long v)) T1) (hd : decode cc pc = .ok (.invokevirtual idx, 3)) (hn : as.length = n) (hs : st = as.reverse ++ .ref (B.1 g f) :: rest) (hW : (rest.map fun v => v.category).sum ≤ 8) (kk : Wk B X nL T1 (pc + 3) lv (.long v :: rest)) : Wk B X nL T pc lv st := k_callv C lk hdd hx0 hw0 hc0 hq0 hk hd hn hs hW kk
theorem k_callsV {idx : Nat} {y : MethodName} {c2 : ByteArray} {maxL n d' : Nat} {ret : Option FieldType} {as rest : List Value}  {T1 : TT} (C : Cx B X own cc nL d) (lk : LkS own idx y c2 maxL ret n) (hdd : d' < d) (hk : Kt B X.2.1 d' y c2 maxL ret T as none T1) (hd : decode cc pc = .ok (.invokestatic idx, 3)) (hn : as.length = n) (hs : st = as.reverse ++ rest) (hW : (rest.map fun v => v.category).sum ≤ 8) (kk : Wk B X nL T1 (pc + 3) lv (rest)) : Wk B X nL T pc lv st := k_calls C lk hdd hk hd hn hs hW kk
theorem k_callsnV {idx : Nat} {y : MethodName} {c2 : ByteArray} {maxL n d' : Nat} {ret : Option FieldType} {as rest : List Value}  {T1 : TT} (C : Cx B X own cc nL d) {host : String} (hnw : va_Nw (.methodLinkNest own idx y host) X.2.2.2.2.1) (l2 : Cond.static y ∈ GW) (l3 : Cond.initialized y.cls ∈ GW) (l4 : Cond.code y c2 maxL ret ∈ GW) (l5 : y.cls ≠ "java/lang/invoke/MethodHandle" ∧ y.cls ≠ "java/lang/invoke/VarHandle" ∧ (parseMethodDescriptor y.desc).map (fun d => d.parameters.length) = some n) (l6 : maxL ≤ 45) (hdd : d' < d) (hk : Kt B X.2.1 d' y c2 maxL ret T as none T1) (hd : decode cc pc = .ok (.invokestatic idx, 3)) (hn : as.length = n) (hs : st = as.reverse ++ rest) (hW : (rest.map fun v => v.category).sum ≤ 8) (kk : Wk B X nL T1 (pc + 3) lv (rest)) : Wk B X nL T pc lv st := k_callsn C hnw l2 l3 l4 l5 l6 hdd hk hd hn hs hW kk
theorem k_callvV {idx : Nat} {y : MethodName} {c2 : ByteArray} {maxL n d' : Nat} {ret : Option FieldType} {as rest : List Value}  {T1 : TT} (C : Cx B X own cc nL d) {g f ci : Nat} {q : vw_C} {fs : List Value} (lk : LkV own idx y c2 maxL ret n) (hdd : d' < d) (hx0 : (g, f) ∈ IX) (hw0 : wc B T g f = .inr (ci, fs)) (hc0 : vwCl[ci]? = some q) (hq0 : q.1 = y.cls) (hk : Kt B X.2.1 d' y c2 maxL ret T (.ref (B.1 g f) :: as) none T1) (hd : decode cc pc = .ok (.invokevirtual idx, 3)) (hn : as.length = n) (hs : st = as.reverse ++ .ref (B.1 g f) :: rest) (hW : (rest.map fun v => v.category).sum ≤ 8) (kk : Wk B X nL T1 (pc + 3) lv (rest)) : Wk B X nL T pc lv st := k_callv C lk hdd hx0 hw0 hc0 hq0 hk hd hn hs hW kk
theorem k_callsA {idx : Nat} {y : MethodName} {c2 : ByteArray} {maxL n d' : Nat} {ret : Option FieldType} {as rest : List Value} {v : Nat} {T1 : TT} (C : Cx B X own cc nL d) (lk : LkS own idx y c2 maxL ret n) (hdd : d' < d) (hk : Kt B X.2.1 d' y c2 maxL ret T as (some (.ref v)) T1) (hd : decode cc pc = .ok (.invokestatic idx, 3)) (hn : as.length = n) (hs : st = as.reverse ++ rest) (hW : (rest.map fun v => v.category).sum ≤ 8) (kk : Wk B X nL T1 (pc + 3) lv (.ref v :: rest)) : Wk B X nL T pc lv st := k_calls C lk hdd hk hd hn hs hW kk
theorem k_callsnA {idx : Nat} {y : MethodName} {c2 : ByteArray} {maxL n d' : Nat} {ret : Option FieldType} {as rest : List Value} {v : Nat} {T1 : TT} (C : Cx B X own cc nL d) {host : String} (hnw : va_Nw (.methodLinkNest own idx y host) X.2.2.2.2.1) (l2 : Cond.static y ∈ GW) (l3 : Cond.initialized y.cls ∈ GW) (l4 : Cond.code y c2 maxL ret ∈ GW) (l5 : y.cls ≠ "java/lang/invoke/MethodHandle" ∧ y.cls ≠ "java/lang/invoke/VarHandle" ∧ (parseMethodDescriptor y.desc).map (fun d => d.parameters.length) = some n) (l6 : maxL ≤ 45) (hdd : d' < d) (hk : Kt B X.2.1 d' y c2 maxL ret T as (some (.ref v)) T1) (hd : decode cc pc = .ok (.invokestatic idx, 3)) (hn : as.length = n) (hs : st = as.reverse ++ rest) (hW : (rest.map fun v => v.category).sum ≤ 8) (kk : Wk B X nL T1 (pc + 3) lv (.ref v :: rest)) : Wk B X nL T pc lv st := k_callsn C hnw l2 l3 l4 l5 l6 hdd hk hd hn hs hW kk
theorem k_callvA {idx : Nat} {y : MethodName} {c2 : ByteArray} {maxL n d' : Nat} {ret : Option FieldType} {as rest : List Value} {v : Nat} {T1 : TT} (C : Cx B X own cc nL d) {g f ci : Nat} {q : vw_C} {fs : List Value} (lk : LkV own idx y c2 maxL ret n) (hdd : d' < d) (hx0 : (g, f) ∈ IX) (hw0 : wc B T g f = .inr (ci, fs)) (hc0 : vwCl[ci]? = some q) (hq0 : q.1 = y.cls) (hk : Kt B X.2.1 d' y c2 maxL ret T (.ref (B.1 g f) :: as) (some (.ref v)) T1) (hd : decode cc pc = .ok (.invokevirtual idx, 3)) (hn : as.length = n) (hs : st = as.reverse ++ .ref (B.1 g f) :: rest) (hW : (rest.map fun v => v.category).sum ≤ 8) (kk : Wk B X nL T1 (pc + 3) lv (.ref v :: rest)) : Wk B X nL T pc lv st := k_callv C lk hdd hx0 hw0 hc0 hq0 hk hd hn hs hW kk
theorem bnd {α β : Type} {x : Option α} {f : α → Option β} {r : β} (h : x.bind f = some r) : ∃ z, x = some z ∧ f z = some r := by
  cases x with
  | none => cases h
  | some z => exact ⟨z, rfl, h⟩
/-- a name for a value -/
def bT {α β : Type} (x : α) (k : α → β) : β := k x
theorem k_nT {R : Type} {res : R} {k0 : TT → Option R} (h : bT T k0 = some res) (kk : ∀ T' : TT, k0 T' = some res → Wk B X nL T' pc lv st) : Wk B X nL T pc lv st := kk T h
theorem k_nI {R : Type} {res : R} {x : Int32} {k0 : Int32 → Option R} (h : bT x k0 = some res) (kk : ∀ y : Int32, k0 y = some res → Wk B X nL T pc lv (.int y :: st)) : Wk B X nL T pc lv (.int x :: st) := kk x h
theorem k_nL {R : Type} {res : R} {x : Int64} {k0 : Int64 → Option R} (h : bT x k0 = some res) (kk : ∀ y : Int64, k0 y = some res → Wk B X nL T pc lv (.long y :: st)) : Wk B X nL T pc lv (.long x :: st) := kk x h
theorem k_iincN {R : Type} {res : R} {k0 : Int32 → Option R} {i : Nat} {n : Int} {x c : Int32} (C : Cx B X own cc nL d) (lv' : Int32 → List (Nat × Value)) (hd : decode cc pc = .ok (.iinc i n, 3)) (j : Nat) (hj : lv[j]? = some (i, .int x)) (hv : Int32.ofInt n = c) (hn : i < nL) (hf : ∀ v : Int32, (i, Value.int v) :: lv.filter (fun q => !(q.1 == i) && !(q.1 + 1 == i && q.2.category == 2)) = lv' v) (h : bT (x + c) k0 = some res) (kk : ∀ v : Int32, k0 v = some res → Wk B X nL T (pc + 3) (lv' v) st) : Wk B X nL T pc lv st := k_iinc C (x + c) (lv' (x + c)) hd j hj (by rw [hv]) hn (hf _) (kk (x + c) h)
theorem no_some {α : Type} {r : α} {p : Prop} (h : none = some r) : p := by cases h
theorem some_i {α : Type} {x y : α} (h : some x = some y) : x = y := Option.some.inj h
theorem ne_toInt {x v : Int32} (h : ¬ x = v) : x.toInt ≠ v.toInt := fun e => h (Int32.toInt_inj.mp e)
theorem bool01 {x : Int32} (h : x = 0 ∨ x = 1) : narrow .boolean (.int x) = .int x := by rcases h with rfl | rfl <;> rfl
def FU : Nat := 1000000
theorem kok_at {g f : Nat} (h : kok g f) : (g, f) ∈ IX ∧ (∀ (B : KB) (T : TT), wc B T g f = .inr (ciK (kn g f), [])) ∧ kn g f < 6 := by
  rcases h with ⟨rfl, rfl⟩ | ⟨hg, h8, h14⟩
  · exact ⟨by decide +kernel, fun B T => rfl, by decide⟩
  · refine ⟨ix_rank hg h14, fun B T => ?_, ?_⟩
    · have h6 : ¬ g = 6 := by omega
      have h0 : ¬ f = 0 := by omega
      have h1 : ¬ f = 1 := by omega
      have h5 : ¬ f < 5 := by omega
      have h55 : ¬ f = 5 := by omega
      have h66 : ¬ f = 6 := by omega
      have h7 : ¬ f = 7 := by omega
      simp [wc, warr, kn, hg, h6, h0, h1, h5, h55, h66, h7]
    · have h6 : ¬ g = 6 := by omega
      simp [kn, h6]
      omega
theorem cbipush_m10 : (Int8.ofInt (-10)).toInt32 = (-10 : Int32) := by decide
theorem cbipush_m5 : (Int8.ofInt (-5)).toInt32 = (-5 : Int32) := by decide
theorem cbipush_m4 : (Int8.ofInt (-4)).toInt32 = (-4 : Int32) := by decide
theorem cbipush_m3 : (Int8.ofInt (-3)).toInt32 = (-3 : Int32) := by decide
theorem cbipush_m2 : (Int8.ofInt (-2)).toInt32 = (-2 : Int32) := by decide
theorem cbipush_6 : (Int8.ofInt 6).toInt32 = (6 : Int32) := by decide
theorem cbipush_7 : (Int8.ofInt 7).toInt32 = (7 : Int32) := by decide
theorem cbipush_8 : (Int8.ofInt 8).toInt32 = (8 : Int32) := by decide
theorem cbipush_10 : (Int8.ofInt 10).toInt32 = (10 : Int32) := by decide
theorem cbipush_12 : (Int8.ofInt 12).toInt32 = (12 : Int32) := by decide
theorem cbipush_13 : (Int8.ofInt 13).toInt32 = (13 : Int32) := by decide
theorem cbipush_16 : (Int8.ofInt 16).toInt32 = (16 : Int32) := by decide
theorem cbipush_17 : (Int8.ofInt 17).toInt32 = (17 : Int32) := by decide
theorem cbipush_20 : (Int8.ofInt 20).toInt32 = (20 : Int32) := by decide
theorem cbipush_23 : (Int8.ofInt 23).toInt32 = (23 : Int32) := by decide
theorem cbipush_30 : (Int8.ofInt 30).toInt32 = (30 : Int32) := by decide
theorem cbipush_31 : (Int8.ofInt 31).toInt32 = (31 : Int32) := by decide
theorem cbipush_32 : (Int8.ofInt 32).toInt32 = (32 : Int32) := by decide
theorem cbipush_33 : (Int8.ofInt 33).toInt32 = (33 : Int32) := by decide
theorem cbipush_36 : (Int8.ofInt 36).toInt32 = (36 : Int32) := by decide
theorem cbipush_48 : (Int8.ofInt 48).toInt32 = (48 : Int32) := by decide
theorem cbipush_57 : (Int8.ofInt 57).toInt32 = (57 : Int32) := by decide
theorem cbipush_59 : (Int8.ofInt 59).toInt32 = (59 : Int32) := by decide
theorem cbipush_60 : (Int8.ofInt 60).toInt32 = (60 : Int32) := by decide
theorem cbipush_71 : (Int8.ofInt 71).toInt32 = (71 : Int32) := by decide
theorem cbipush_84 : (Int8.ofInt 84).toInt32 = (84 : Int32) := by decide
theorem cbipush_91 : (Int8.ofInt 91).toInt32 = (91 : Int32) := by decide
theorem cbipush_97 : (Int8.ofInt 97).toInt32 = (97 : Int32) := by decide
theorem cbipush_99 : (Int8.ofInt 99).toInt32 = (99 : Int32) := by decide
theorem cbipush_100 : (Int8.ofInt 100).toInt32 = (100 : Int32) := by decide
theorem cbipush_101 : (Int8.ofInt 101).toInt32 = (101 : Int32) := by decide
theorem cbipush_104 : (Int8.ofInt 104).toInt32 = (104 : Int32) := by decide
theorem cbipush_105 : (Int8.ofInt 105).toInt32 = (105 : Int32) := by decide
theorem cbipush_107 : (Int8.ofInt 107).toInt32 = (107 : Int32) := by decide
theorem cbipush_110 : (Int8.ofInt 110).toInt32 = (110 : Int32) := by decide
theorem cbipush_114 : (Int8.ofInt 114).toInt32 = (114 : Int32) := by decide
theorem cbipush_115 : (Int8.ofInt 115).toInt32 = (115 : Int32) := by decide
theorem cbipush_118 : (Int8.ofInt 118).toInt32 = (118 : Int32) := by decide
theorem cbipush_121 : (Int8.ofInt 121).toInt32 = (121 : Int32) := by decide
theorem cbipush_122 : (Int8.ofInt 122).toInt32 = (122 : Int32) := by decide
theorem cbipush_127 : (Int8.ofInt 127).toInt32 = (127 : Int32) := by decide
theorem ciconst_m1 : Int32.ofInt (-1) = (-1 : Int32) := by decide
theorem ciconst_0 : Int32.ofInt 0 = (0 : Int32) := by decide
theorem ciconst_1 : Int32.ofInt 1 = (1 : Int32) := by decide
theorem ciconst_2 : Int32.ofInt 2 = (2 : Int32) := by decide
theorem ciconst_3 : Int32.ofInt 3 = (3 : Int32) := by decide
theorem ciconst_4 : Int32.ofInt 4 = (4 : Int32) := by decide
theorem ciconst_5 : Int32.ofInt 5 = (5 : Int32) := by decide
theorem csipush_150 : (Int16.ofInt 150).toInt32 = (150 : Int32) := by decide
theorem csipush_175 : (Int16.ofInt 175).toInt32 = (175 : Int32) := by decide
theorem csipush_200 : (Int16.ofInt 200).toInt32 = (200 : Int32) := by decide
theorem csipush_255 : (Int16.ofInt 255).toInt32 = (255 : Int32) := by decide
theorem csipush_350 : (Int16.ofInt 350).toInt32 = (350 : Int32) := by decide
theorem csipush_999 : (Int16.ofInt 999).toInt32 = (999 : Int32) := by decide
theorem csipush_6000 : (Int16.ofInt 6000).toInt32 = (6000 : Int32) := by decide
theorem csipush_9999 : (Int16.ofInt 9999).toInt32 = (9999 : Int32) := by decide
end KW
