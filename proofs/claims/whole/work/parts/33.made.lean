section NR0
variable {B : KB} {X : KE} {own : String} {cc : ByteArray} {nL d MC MS c s : Nat} {pre l : List va_E} {pc : Nat} {lv : List (Nat × Value)} {st : List Value}
theorem n_callN0 {idx : Nat} {y : MethodName} {c2 : ByteArray} {maxL d' : Nat} {host : String} {a : Nat} {rest : List Value} (C : Cn B X own cc nL d MC MS) (hnw : va_Nw (.methodLinkNest own idx y host) X.2.2.2.2.1) (hy1 : y.name = "<init>") (l2 : Cond.instanceMethod y ∈ GW) (l3 : Cond.initialized y.cls ∈ GW) (l4 : Cond.code y c2 maxL none ∈ GW) (l5 : y.cls ≠ "java/lang/invoke/MethodHandle" ∧ y.cls ≠ "java/lang/invoke/VarHandle" ∧ (parseMethodDescriptor y.desc).map (fun d => d.parameters.length) = some 0) (l6 : maxL ≤ 45) (hdd : d' < d) (hk : ∀ al : List va_E, Kn B X.2.1 d' y c2 maxL 0 0 al [.ref a] al) (hd : decode cc pc = .ok (.invokespecial idx, 3)) (hW : (rest.map fun v => v.category).sum ≤ 8) (h1 : c ≤ MC) (h2 : s ≤ MS) (kk : Wn B X nL c s pre l (pc + 3) lv rest) : Wn B X nL c s pre l pc lv (.ref a :: rest) := fun H locs ls hH hL hl => by
  obtain ⟨⟨hx, hb, hml, ho, hts, hK, hf, hlo, hce, hsl⟩, hN, hc1, hc2⟩ := C
  refine n_run (mc := 0) (ms := 0) rfl hL (va_runIN (Ts := GW) (As := []) ⟨hx, hb, hml, ho, hts⟩ (hk (pre ++ l)) ⟨va_cnB 0 hts (gG_code (L := []) (fun w hw => by cases hw) l4) rfl rfl rfl hnw (hts _ l3) l5 (roomN hdd l6 hf hlo), hy1, hts _ l2⟩ ⟨n_blind, fun U hU hW => ⟨rfl, by rw [hU]; exact hH, KK.warm hW hK, KN.warm hW hN⟩⟩ rfl rfl hl.1 rfl ?_ hd ⟨by rw [hc1]; exact h1, by rw [hc2]; exact h2⟩) hl kk
  show 2 * 0 + _ ≤ 8
  omega
end NR0
/-- new int[8][100], the rule of the library, taken at the end -/
def MNA : Prop := ∀ (X : KE) (cc : ByteArray) (own : String) (index : Nat) (H : Heap) (locs : List Loc) (c s pc : Nat) (ls : Array Slot) (rest : List Value) (cA cI : ClassId),
  X.1.tables.exec = Jvm.exec → X.2.2.2.2.2.2.2.2.2.1.code = cc → X.2.2.2.2.1.vm.findClass own = some X.2.2.2.2.2.1.cls → (Cond.classLink own index "[[I").before X.2.2.2.2.2.2.1 X.2.2.2.2.1 = true → (Cond.arrayOver (.array .int)).before X.2.2.2.2.2.2.1 X.2.2.2.2.1 = true → (Cond.arrayClass .int).before X.2.2.2.2.2.2.1 X.2.2.2.2.1 = true → X.2.2.2.2.1.vm.findClass "[[I" = some cA → X.2.2.2.2.1.vm.findClass "[I" = some cI → c + 9 ≤ X.2.2.2.1.cells → s + 808 ≤ X.2.2.2.1.slots → decode cc pc = .ok (.multianewarray index 2, 4) →
  (∀ H1 : Heap, H1.size = H.size + 9 → H1[H.size]? = some (vp_cell cA (8, .inr (.inr (.inr (.inr (fun i => if i < 8 then some (H.size + 1 + i) else none)))))) → (∀ j : Nat, j < 8 → H1[H.size + 1 + j]? = some (vp_cell cI (100, .inl (fun _ => 0)))) → (∀ q : Nat, q < H.size → H1[q]? = H[q]?) →
    W X.1 X.2.1 X.2.2.1 X.2.2.2.1 X.2.2.2.2.1 X.2.2.2.2.2.1 X.2.2.2.2.2.2.1 X.2.2.2.2.2.2.2.1 X.2.2.2.2.2.2.2.2.1 X.2.2.2.2.2.2.2.2.2.1 H1 locs (c + 9) (s + 808) X.2.2.2.2.2.2.2.2.2.2.2.2 (F0 X.2.2.2.2.2.1 (pc + 4) ls (.ref H.size :: rest))) →
  W X.1 X.2.1 X.2.2.1 X.2.2.2.1 X.2.2.2.2.1 X.2.2.2.2.2.1 X.2.2.2.2.2.2.1 X.2.2.2.2.2.2.2.1 X.2.2.2.2.2.2.2.2.1 X.2.2.2.2.2.2.2.2.2.1 H locs c s X.2.2.2.2.2.2.2.2.2.2.2.2 (F0 X.2.2.2.2.2.1 pc ls (.int 100 :: .int 8 :: rest))
/-- the nine cells of new int[8][100] at p -/
def gridL (B : KB) (p : Nat) : List va_E := .inl (B.2.2.2.1 5, 8, .inr (.inr (.inr (.inr (fun i => if i < 8 then some (z0 B + p + 1 + i) else none))))) :: List.replicate 8 (.inl (B.2.2.2.1 0, 100, .inl (fun _ => 0)))
theorem gridL_len (B : KB) (p : Nat) : (gridL B p).length = 9 := rfl
theorem n_mna {B : KB} {X : KE} {own : String} {cc : ByteArray} {nL d MC MS c s : Nat} {pre l : List va_E} {pc : Nat} {lv : List (Nat × Value)} {st : List Value} (hM : MNA) (C : Cn B X own cc nL d MC MS) {idx : Nat} (l' : List va_E) (m : Nat) (hcl : Cond.classLink own idx "[[I" ∈ GW) (harr : Cond.arrayClass .int ∈ GW) (h1 : c + 9 ≤ MC) (h2 : s + 808 ≤ MS) (hd : decode cc pc = .ok (.multianewarray idx 2, 4)) (hm : l.length = m) (hl' : l ++ gridL B (pre.length + m) = l') (kk : Wn B X nL (c + 9) (s + 808) pre l' (pc + 4) lv (.ref (z0 B + (pre.length + m)) :: st)) : Wn B X nL c s pre l pc lv (.int 100 :: .int 8 :: st) := fun H locs ls hH hL hl => by
  subst hl'; subst hm
  have hts := C.1.2.2.2.2.1
  have hK := C.1.2.2.2.2.2.1.1
  refine hM X cc own idx H locs c s pc ls st (B.2.2.2.1 5) (B.2.2.2.1 0) C.1.1 C.1.2.1 C.1.2.2.2.1 (hts _ hcl) (C.2.1.2.2.2.1.use) (hts _ harr) (hK.2 5 _ rfl).2 (hK.2 0 _ rfl).2 (by rw [C.2.2.1]; exact h1) (by rw [C.2.2.2]; exact h2) hd (fun H1 z1 e1 e2 o1 => ?_)
  have e9 : H.size = z0 B + (pre.length + l.length) := by rw [hH.1, List.length_append]
  have hlen : (gridL B (pre.length + l.length)).length = 9 := rfl
  have hH1 : Hn B (pre ++ (l ++ gridL B (pre.length + l.length))) H1 := by
    refine ⟨by rw [z1, e9, List.length_append, List.length_append, hlen]; omega, fun k x hx => ?_, fun q hq => (o1 q (by rw [e9]; omega)).trans (hH.2.2 q hq)⟩
    rw [← List.append_assoc] at hx
    by_cases hk : k < (pre ++ l).length
    · rw [List.getElem?_append_left hk] at hx
      have h3 := hH.2.1 k x hx
      exact h3.kept (o1 _ h3.lt)
    · rw [List.getElem?_append_right (by omega)] at hx
      have hz : k - (pre ++ l).length < 9 := by
        have := (List.getElem?_eq_some_iff.mp hx).1
        rwa [hlen] at this
      obtain ⟨j, hj⟩ : ∃ j, k = (pre ++ l).length + j := ⟨k - (pre ++ l).length, by omega⟩
      subst hj
      rw [Nat.add_sub_cancel_left] at hx hz
      have e10 : z0 B + ((pre ++ l).length + j) = H.size + j := by rw [hH.1]; omega
      rw [e10]
      cases j with
      | zero =>
        have hx : some (Sum.inl (B.2.2.2.1 5, 8, .inr (.inr (.inr (.inr (fun i => if i < 8 then some (z0 B + (pre.length + l.length) + 1 + i) else none)))))) = some x := hx
        cases hx
        rw [← e9]
        exact e1
      | succ j =>
        have hx : (List.replicate 8 (Sum.inl (B.2.2.2.1 0, 100, .inl (fun _ => 0)) : va_E))[j]? = some x := hx
        have hxe : x = Sum.inl (B.2.2.2.1 0, 100, .inl (fun _ => 0)) := List.eq_of_mem_replicate (List.mem_of_getElem? hx)
        subst hxe
        have h4 := e2 j (by omega)
        rw [show H.size + (j + 1) = H.size + 1 + j by omega]
        exact h4
  rw [e9]
  exact kk H1 locs ls hH1 hL hl
set_option maxHeartbeats 4000000 in
set_option maxRecDepth 100000 in
theorem kn_X3_init {B : KB} {l : Launch} (al : List va_E) (a : Nat) : Kn B l 1 yX3_init cX3_init 1 0 0 al [.ref a] al := by
  have h : Kn B l 1 yX3_init cX3_init 1 0 0 (al ++ []) [.ref a] (al ++ []) := by
    refine Kn.of (by decide) rfl (Nat.le_of_ble_eq_true rfl) (fun X hX C hnm hr hlk hQ => ?_)
    subst hX
    have C : Cn B X "GriefEngine$Plain" cX3_init 1 1 0 0 := C
    show Wn B X 1 0 0 al [] 0 [(0, .ref a)] []
    refine n_aload_n (pc := 0) C dX3_init_0 0 rfl ?_
    refine n_obj (pc := 1) C (by decide) tw1_39 tw1_25 tw1_26 (Nat.le_of_ble_eq_true rfl) dX3_init_1 ?_
    exact n_ret (pc := 4) C hr hlk hQ (Nat.le_refl 0) (Nat.le_refl 0) dX3_init_4
  rw [List.append_nil] at h
  exact h
set_option maxHeartbeats 4000000 in
set_option maxRecDepth 100000 in
theorem kn_X0_init {B : KB} {l : Launch} (al : List va_E) (a : Nat) : Kn B l 2 yX0_init cX0_init 1 0 0 al [.ref a] al := by
  have h : Kn B l 2 yX0_init cX0_init 1 0 0 (al ++ []) [.ref a] (al ++ []) := by
    refine Kn.of (by decide) rfl (Nat.le_of_ble_eq_true rfl) (fun X hX C hnm hr hlk hQ => ?_)
    subst hX
    have C : Cn B X "GriefEngine$Keeper" cX0_init 1 2 0 0 := C
    show Wn B X 1 0 0 al [] 0 [(0, .ref a)] []
    refine n_aload_n (pc := 0) C dX0_init_0 0 rfl ?_
    refine n_callN0 (pc := 1) C (C.2.1.1 _ (List.mem_of_getElem? (i := 3) rfl)) rfl tw1_37 tw1_3 tw1_38 ⟨by decide, by decide, by decide +kernel⟩ (by decide) (by decide) (fun al => kn_X3_init al a) dX0_init_1 (Nat.le_of_ble_eq_true rfl) (Nat.le_refl 0) (Nat.le_refl 0) ?_
    exact n_ret (pc := 4) C hr hlk hQ (Nat.le_refl 0) (Nat.le_refl 0) dX0_init_4
  rw [List.append_nil] at h
  exact h
set_option maxHeartbeats 4000000 in
set_option maxRecDepth 100000 in
theorem kn_X6_init {B : KB} {l : Launch} (al : List va_E) (a : Nat) : Kn B l 2 yX6_init cX6_init 1 0 0 al [.ref a] al := by
  have h : Kn B l 2 yX6_init cX6_init 1 0 0 (al ++ []) [.ref a] (al ++ []) := by
    refine Kn.of (by decide) rfl (Nat.le_of_ble_eq_true rfl) (fun X hX C hnm hr hlk hQ => ?_)
    subst hX
    have C : Cn B X "GriefEngine$Sham" cX6_init 1 2 0 0 := C
    show Wn B X 1 0 0 al [] 0 [(0, .ref a)] []
    refine n_aload_n (pc := 0) C dX6_init_0 0 rfl ?_
    refine n_callN0 (pc := 1) C (C.2.1.1 _ (List.mem_of_getElem? (i := 5) rfl)) rfl tw1_37 tw1_3 tw1_38 ⟨by decide, by decide, by decide +kernel⟩ (by decide) (by decide) (fun al => kn_X3_init al a) dX6_init_1 (Nat.le_of_ble_eq_true rfl) (Nat.le_refl 0) (Nat.le_refl 0) ?_
    exact n_ret (pc := 4) C hr hlk hQ (Nat.le_refl 0) (Nat.le_refl 0) dX6_init_4
  rw [List.append_nil] at h
  exact h
set_option maxHeartbeats 4000000 in
set_option maxRecDepth 100000 in
theorem kn_X7_init {B : KB} {l : Launch} (al : List va_E) (a : Nat) : Kn B l 2 yX7_init cX7_init 1 0 0 al [.ref a] al := by
  have h : Kn B l 2 yX7_init cX7_init 1 0 0 (al ++ []) [.ref a] (al ++ []) := by
    refine Kn.of (by decide) rfl (Nat.le_of_ble_eq_true rfl) (fun X hX C hnm hr hlk hQ => ?_)
    subst hX
    have C : Cn B X "GriefEngine$Spring" cX7_init 1 2 0 0 := C
    show Wn B X 1 0 0 al [] 0 [(0, .ref a)] []
    refine n_aload_n (pc := 0) C dX7_init_0 0 rfl ?_
    refine n_callN0 (pc := 1) C (C.2.1.1 _ (List.mem_of_getElem? (i := 7) rfl)) rfl tw1_37 tw1_3 tw1_38 ⟨by decide, by decide, by decide +kernel⟩ (by decide) (by decide) (fun al => kn_X3_init al a) dX7_init_1 (Nat.le_of_ble_eq_true rfl) (Nat.le_refl 0) (Nat.le_refl 0) ?_
    exact n_ret (pc := 4) C hr hlk hQ (Nat.le_refl 0) (Nat.le_refl 0) dX7_init_4
  rw [List.append_nil] at h
  exact h
set_option maxHeartbeats 4000000 in
set_option maxRecDepth 100000 in
theorem kn_X8_init {B : KB} {l : Launch} (al : List va_E) (a : Nat) : Kn B l 3 yX8_init cX8_init 1 0 0 al [.ref a] al := by
  have h : Kn B l 3 yX8_init cX8_init 1 0 0 (al ++ []) [.ref a] (al ++ []) := by
    refine Kn.of (by decide) rfl (Nat.le_of_ble_eq_true rfl) (fun X hX C hnm hr hlk hQ => ?_)
    subst hX
    have C : Cn B X "GriefEngine$Teller" cX8_init 1 3 0 0 := C
    show Wn B X 1 0 0 al [] 0 [(0, .ref a)] []
    refine n_aload_n (pc := 0) C dX8_init_0 0 rfl ?_
    refine n_callN0 (pc := 1) C (C.2.1.1 _ (List.mem_of_getElem? (i := 9) rfl)) rfl tw1_44 tw1_4 tw1_45 ⟨by decide, by decide, by decide +kernel⟩ (by decide) (by decide) (fun al => kn_X0_init al a) dX8_init_1 (Nat.le_of_ble_eq_true rfl) (Nat.le_refl 0) (Nat.le_refl 0) ?_
    exact n_ret (pc := 4) C hr hlk hQ (Nat.le_refl 0) (Nat.le_refl 0) dX8_init_4
  rw [List.append_nil] at h
  exact h
set_option maxHeartbeats 4000000 in
set_option maxRecDepth 100000 in
theorem kn_X1_init {B : KB} {l : Launch} (al : List va_E) (a : Nat) : Kn B l 3 yX1_init cX1_init 1 0 0 al [.ref a] al := by
  have h : Kn B l 3 yX1_init cX1_init 1 0 0 (al ++ []) [.ref a] (al ++ []) := by
    refine Kn.of (by decide) rfl (Nat.le_of_ble_eq_true rfl) (fun X hX C hnm hr hlk hQ => ?_)
    subst hX
    have C : Cn B X "GriefEngine$Old" cX1_init 1 3 0 0 := C
    show Wn B X 1 0 0 al [] 0 [(0, .ref a)] []
    refine n_aload_n (pc := 0) C dX1_init_0 0 rfl ?_
    refine n_callN0 (pc := 1) C (C.2.1.1 _ (List.mem_of_getElem? (i := 11) rfl)) rfl tw1_58 tw1_6 tw1_59 ⟨by decide, by decide, by decide +kernel⟩ (by decide) (by decide) (fun al => kn_X7_init al a) dX1_init_1 (Nat.le_of_ble_eq_true rfl) (Nat.le_refl 0) (Nat.le_refl 0) ?_
    exact n_ret (pc := 4) C hr hlk hQ (Nat.le_refl 0) (Nat.le_refl 0) dX1_init_4
  rw [List.append_nil] at h
  exact h
theorem asg_self {s : State} {C : String} {cC : ClassId} (h : ClassAt s C cC) {comp c0 : ClassId} (h1 : s.vm.findClass C = some comp) (h2 : s.vm.findClass C = some c0) : s.vm.assignable c0 comp = true := by
  have e : c0 = comp := Option.some.inj (h2.symm.trans h1)
  have e2 : comp = cC := Option.some.inj (h1.symm.trans h.1)
  rw [e, e2]
  exact va_assign h
def rkL (B : KB) (p : Nat) : List va_E := [.inr (4, [.ref (z0 B + (p + 1)), .ref (z0 B + (p + 8)), .ref (z0 B + (p + 9)), .ref (z0 B + (p + 10)), .ref (z0 B + (p + 11)), .ref (z0 B + (p + 12)), .ref (z0 B + (p + 13)), .int 0, .int 0, .int 0, .int 0, .int 0]), .inl (B.2.2.2.1 3, 6, .inr (.inr (.inr (.inr (va_up (va_up (va_up (va_up (va_up (va_up (fun _ => none) 0 (some (z0 B + (p + 2)))) 1 (some (z0 B + (p + 3)))) 2 (some (z0 B + (p + 4)))) 3 (some (z0 B + (p + 5)))) 4 (some (z0 B + (p + 6)))) 5 (some (z0 B + (p + 7)))))))), .inr (3, []), .inr (0, []), .inr (6, []), .inr (7, []), .inr (8, []), .inr (1, []), .inl (B.2.2.2.1 0, 6, .inl (fun _ => 0)), .inl (B.2.2.2.1 0, 6, .inl (fun _ => 0)), .inl (B.2.2.2.1 0, 6, .inl (fun _ => 0)), .inl (B.2.2.2.1 0, 36, .inl (fun _ => 0)), .inl (B.2.2.2.1 0, 12, .inl (fun _ => 0)), .inl (B.2.2.2.1 0, 104, .inl (fun _ => 0))]
set_option maxHeartbeats 4000000 in
set_option maxRecDepth 100000 in
theorem kn_X4_init {B : KB} {l : Launch} (pre : List va_E) : Kn B l 4 yX4_init cX4_init 1 13 176 (pre ++ [.inr (4, [.null, .null, .null, .null, .null, .null, .null, .int 0, .int 0, .int 0, .int 0, .int 0])]) [.ref (z0 B + pre.length)] (pre ++ rkL B pre.length) := by
  refine Kn.of (by decide) rfl (Nat.le_of_ble_eq_true rfl) (fun X hX C hnm hr hlk hQ => ?_)
  subst hX
  have C : Cn B X "GriefEngine$Rank" cX4_init 1 4 13 176 := C
  show Wn B X 1 0 0 pre [.inr (4, [.null, .null, .null, .null, .null, .null, .null, .int 0, .int 0, .int 0, .int 0, .int 0])] 0 [(0, .ref (z0 B + (pre.length + 0)))] []
  refine n_aload_n (pc := 0) C dX4_init_0 0 rfl ?_
  refine n_obj (pc := 1) C (by decide) tw1_32 tw1_25 tw1_26 (Nat.le_of_ble_eq_true rfl) dX4_init_1 ?_
  refine n_aload_n (pc := 4) C dX4_init_4 0 rfl ?_
  refine n_bipush (pc := 5) (v := (6 : Int32)) C dX4_init_5 (by decide) ?_
  refine n_newq (pc := 7) C 3 6 [.inr (4, [.null, .null, .null, .null, .null, .null, .null, .int 0, .int 0, .int 0, .int 0, .int 0]), .inl (B.2.2.2.1 3, 6, .inr (.inr (.inr (.inr (fun _ => none)))))] 1 tw1_33 C.2.1.2.1 rfl (by decide) (by decide) (by decide) (by decide) (by decide) dX4_init_7 rfl rfl ?_
  refine n_dup (pc := 10) C dX4_init_10 rfl ?_
  refine n_iconst (pc := 11) (v := (0 : Int32)) C dX4_init_11 (by decide) ?_
  refine n_new (pc := 12) C [] [.inr (4, [.null, .null, .null, .null, .null, .null, .null, .int 0, .int 0, .int 0, .int 0, .int 0]), .inl (B.2.2.2.1 3, 6, .inr (.inr (.inr (.inr (fun _ => none))))), .inr (3, [])] 2 (ci := 3) rfl inGX3 tyX3_ok tw1_33 tw1_35 tw1_3 (fun j hj => absurd hj (Nat.not_lt_zero j)) (by decide) (by decide) dX4_init_12 rfl rfl ?_
  refine n_dup (pc := 15) C dX4_init_15 rfl ?_
  refine n_callN0 (pc := 16) C (C.2.1.1 _ (List.mem_of_getElem? (i := 1) rfl)) rfl tw1_37 tw1_3 tw1_38 ⟨by decide, by decide, by decide +kernel⟩ (by decide) (by decide) (fun al => kn_X3_init al _) dX4_init_16 (Nat.le_of_ble_eq_true rfl) (by decide) (by decide) ?_
  refine n_aast (pc := 19) C 3 1 2 6 [.inr (4, [.null, .null, .null, .null, .null, .null, .null, .int 0, .int 0, .int 0, .int 0, .int 0]), .inl (B.2.2.2.1 3, 6, .inr (.inr (.inr (.inr (va_up (fun _ => none) 0 (some (z0 B + (pre.length + 2)))))))), .inr (3, [])] rfl rfl rfl rfl (fun comp c0 h1 h2 => asg_self (C.1.2.2.2.2.2.1.1.1 3 _ rfl).2 h1 h2) (by decide) rfl dX4_init_19 ?_
  refine n_dup (pc := 20) C dX4_init_20 rfl ?_
  refine n_iconst (pc := 21) (v := (1 : Int32)) C dX4_init_21 (by decide) ?_
  refine n_new (pc := 22) C [] [.inr (4, [.null, .null, .null, .null, .null, .null, .null, .int 0, .int 0, .int 0, .int 0, .int 0]), .inl (B.2.2.2.1 3, 6, .inr (.inr (.inr (.inr (va_up (fun _ => none) 0 (some (z0 B + (pre.length + 2)))))))), .inr (3, []), .inr (0, [])] 3 (ci := 0) rfl inGX0 tyX0_ok tw1_41 tw1_42 tw1_4 (fun j hj => absurd hj (Nat.not_lt_zero j)) (by decide) (by decide) dX4_init_22 rfl rfl ?_
  refine n_dup (pc := 25) C dX4_init_25 rfl ?_
  refine n_callN0 (pc := 26) C (C.2.1.1 _ (List.mem_of_getElem? (i := 2) rfl)) rfl tw1_44 tw1_4 tw1_45 ⟨by decide, by decide, by decide +kernel⟩ (by decide) (by decide) (fun al => kn_X0_init al _) dX4_init_26 (Nat.le_of_ble_eq_true rfl) (by decide) (by decide) ?_
  refine n_aast (pc := 29) C 3 1 3 6 [.inr (4, [.null, .null, .null, .null, .null, .null, .null, .int 0, .int 0, .int 0, .int 0, .int 0]), .inl (B.2.2.2.1 3, 6, .inr (.inr (.inr (.inr (va_up (va_up (fun _ => none) 0 (some (z0 B + (pre.length + 2)))) 1 (some (z0 B + (pre.length + 3)))))))), .inr (3, []), .inr (0, [])] rfl rfl rfl rfl (fun comp c0 h1 h2 => vb_asgC (C.2.1.2.2.2.2 "GriefEngine$Keeper" (by decide)) comp c0 h1 h2) (by decide) rfl dX4_init_29 ?_
  refine n_dup (pc := 30) C dX4_init_30 rfl ?_
  refine n_iconst (pc := 31) (v := (2 : Int32)) C dX4_init_31 (by decide) ?_
  refine n_new (pc := 32) C [] [.inr (4, [.null, .null, .null, .null, .null, .null, .null, .int 0, .int 0, .int 0, .int 0, .int 0]), .inl (B.2.2.2.1 3, 6, .inr (.inr (.inr (.inr (va_up (va_up (fun _ => none) 0 (some (z0 B + (pre.length + 2)))) 1 (some (z0 B + (pre.length + 3)))))))), .inr (3, []), .inr (0, []), .inr (6, [])] 4 (ci := 6) rfl inGX6 tyX6_ok tw1_48 tw1_49 tw1_5 (fun j hj => absurd hj (Nat.not_lt_zero j)) (by decide) (by decide) dX4_init_32 rfl rfl ?_
  refine n_dup (pc := 35) C dX4_init_35 rfl ?_
  refine n_callN0 (pc := 36) C (C.2.1.1 _ (List.mem_of_getElem? (i := 4) rfl)) rfl tw1_51 tw1_5 tw1_52 ⟨by decide, by decide, by decide +kernel⟩ (by decide) (by decide) (fun al => kn_X6_init al _) dX4_init_36 (Nat.le_of_ble_eq_true rfl) (by decide) (by decide) ?_
  refine n_aast (pc := 39) C 3 1 4 6 [.inr (4, [.null, .null, .null, .null, .null, .null, .null, .int 0, .int 0, .int 0, .int 0, .int 0]), .inl (B.2.2.2.1 3, 6, .inr (.inr (.inr (.inr (va_up (va_up (va_up (fun _ => none) 0 (some (z0 B + (pre.length + 2)))) 1 (some (z0 B + (pre.length + 3)))) 2 (some (z0 B + (pre.length + 4)))))))), .inr (3, []), .inr (0, []), .inr (6, [])] rfl rfl rfl rfl (fun comp c0 h1 h2 => vb_asgC (C.2.1.2.2.2.2 "GriefEngine$Sham" (by decide)) comp c0 h1 h2) (by decide) rfl dX4_init_39 ?_
  refine n_dup (pc := 40) C dX4_init_40 rfl ?_
  refine n_iconst (pc := 41) (v := (3 : Int32)) C dX4_init_41 (by decide) ?_
  refine n_new (pc := 42) C [] [.inr (4, [.null, .null, .null, .null, .null, .null, .null, .int 0, .int 0, .int 0, .int 0, .int 0]), .inl (B.2.2.2.1 3, 6, .inr (.inr (.inr (.inr (va_up (va_up (va_up (fun _ => none) 0 (some (z0 B + (pre.length + 2)))) 1 (some (z0 B + (pre.length + 3)))) 2 (some (z0 B + (pre.length + 4)))))))), .inr (3, []), .inr (0, []), .inr (6, []), .inr (7, [])] 5 (ci := 7) rfl inGX7 tyX7_ok tw1_55 tw1_56 tw1_6 (fun j hj => absurd hj (Nat.not_lt_zero j)) (by decide) (by decide) dX4_init_42 rfl rfl ?_
  refine n_dup (pc := 45) C dX4_init_45 rfl ?_
  refine n_callN0 (pc := 46) C (C.2.1.1 _ (List.mem_of_getElem? (i := 6) rfl)) rfl tw1_58 tw1_6 tw1_59 ⟨by decide, by decide, by decide +kernel⟩ (by decide) (by decide) (fun al => kn_X7_init al _) dX4_init_46 (Nat.le_of_ble_eq_true rfl) (by decide) (by decide) ?_
  refine n_aast (pc := 49) C 3 1 5 6 [.inr (4, [.null, .null, .null, .null, .null, .null, .null, .int 0, .int 0, .int 0, .int 0, .int 0]), .inl (B.2.2.2.1 3, 6, .inr (.inr (.inr (.inr (va_up (va_up (va_up (va_up (fun _ => none) 0 (some (z0 B + (pre.length + 2)))) 1 (some (z0 B + (pre.length + 3)))) 2 (some (z0 B + (pre.length + 4)))) 3 (some (z0 B + (pre.length + 5)))))))), .inr (3, []), .inr (0, []), .inr (6, []), .inr (7, [])] rfl rfl rfl rfl (fun comp c0 h1 h2 => vb_asgC (C.2.1.2.2.2.2 "GriefEngine$Spring" (by decide)) comp c0 h1 h2) (by decide) rfl dX4_init_49 ?_
  refine n_dup (pc := 50) C dX4_init_50 rfl ?_
  refine n_iconst (pc := 51) (v := (4 : Int32)) C dX4_init_51 (by decide) ?_
  refine n_new (pc := 52) C [] [.inr (4, [.null, .null, .null, .null, .null, .null, .null, .int 0, .int 0, .int 0, .int 0, .int 0]), .inl (B.2.2.2.1 3, 6, .inr (.inr (.inr (.inr (va_up (va_up (va_up (va_up (fun _ => none) 0 (some (z0 B + (pre.length + 2)))) 1 (some (z0 B + (pre.length + 3)))) 2 (some (z0 B + (pre.length + 4)))) 3 (some (z0 B + (pre.length + 5)))))))), .inr (3, []), .inr (0, []), .inr (6, []), .inr (7, []), .inr (8, [])] 6 (ci := 8) rfl inGX8 tyX8_ok tw1_62 tw1_63 tw1_7 (fun j hj => absurd hj (Nat.not_lt_zero j)) (by decide) (by decide) dX4_init_52 rfl rfl ?_
  refine n_dup (pc := 55) C dX4_init_55 rfl ?_
  refine n_callN0 (pc := 56) C (C.2.1.1 _ (List.mem_of_getElem? (i := 8) rfl)) rfl tw1_65 tw1_7 tw1_66 ⟨by decide, by decide, by decide +kernel⟩ (by decide) (by decide) (fun al => kn_X8_init al _) dX4_init_56 (Nat.le_of_ble_eq_true rfl) (by decide) (by decide) ?_
  refine n_aast (pc := 59) C 3 1 6 6 [.inr (4, [.null, .null, .null, .null, .null, .null, .null, .int 0, .int 0, .int 0, .int 0, .int 0]), .inl (B.2.2.2.1 3, 6, .inr (.inr (.inr (.inr (va_up (va_up (va_up (va_up (va_up (fun _ => none) 0 (some (z0 B + (pre.length + 2)))) 1 (some (z0 B + (pre.length + 3)))) 2 (some (z0 B + (pre.length + 4)))) 3 (some (z0 B + (pre.length + 5)))) 4 (some (z0 B + (pre.length + 6)))))))), .inr (3, []), .inr (0, []), .inr (6, []), .inr (7, []), .inr (8, [])] rfl rfl rfl rfl (fun comp c0 h1 h2 => vb_asgC (C.2.1.2.2.2.2 "GriefEngine$Teller" (by decide)) comp c0 h1 h2) (by decide) rfl dX4_init_59 ?_
  refine n_dup (pc := 60) C dX4_init_60 rfl ?_
  refine n_iconst (pc := 61) (v := (5 : Int32)) C dX4_init_61 (by decide) ?_
  refine n_new (pc := 62) C [] [.inr (4, [.null, .null, .null, .null, .null, .null, .null, .int 0, .int 0, .int 0, .int 0, .int 0]), .inl (B.2.2.2.1 3, 6, .inr (.inr (.inr (.inr (va_up (va_up (va_up (va_up (va_up (fun _ => none) 0 (some (z0 B + (pre.length + 2)))) 1 (some (z0 B + (pre.length + 3)))) 2 (some (z0 B + (pre.length + 4)))) 3 (some (z0 B + (pre.length + 5)))) 4 (some (z0 B + (pre.length + 6)))))))), .inr (3, []), .inr (0, []), .inr (6, []), .inr (7, []), .inr (8, []), .inr (1, [])] 7 (ci := 1) rfl inGX1 tyX1_ok tw1_69 tw1_70 tw1_8 (fun j hj => absurd hj (Nat.not_lt_zero j)) (by decide) (by decide) dX4_init_62 rfl rfl ?_
  refine n_dup (pc := 65) C dX4_init_65 rfl ?_
  refine n_callN0 (pc := 66) C (C.2.1.1 _ (List.mem_of_getElem? (i := 10) rfl)) rfl tw1_72 tw1_8 tw1_73 ⟨by decide, by decide, by decide +kernel⟩ (by decide) (by decide) (fun al => kn_X1_init al _) dX4_init_66 (Nat.le_of_ble_eq_true rfl) (by decide) (by decide) ?_
  refine n_aast (pc := 69) C 3 1 7 6 [.inr (4, [.null, .null, .null, .null, .null, .null, .null, .int 0, .int 0, .int 0, .int 0, .int 0]), .inl (B.2.2.2.1 3, 6, .inr (.inr (.inr (.inr (va_up (va_up (va_up (va_up (va_up (va_up (fun _ => none) 0 (some (z0 B + (pre.length + 2)))) 1 (some (z0 B + (pre.length + 3)))) 2 (some (z0 B + (pre.length + 4)))) 3 (some (z0 B + (pre.length + 5)))) 4 (some (z0 B + (pre.length + 6)))) 5 (some (z0 B + (pre.length + 7)))))))), .inr (3, []), .inr (0, []), .inr (6, []), .inr (7, []), .inr (8, []), .inr (1, [])] rfl rfl rfl rfl (fun comp c0 h1 h2 => vb_asgC (C.2.1.2.2.2.2 "GriefEngine$Old" (by decide)) comp c0 h1 h2) (by decide) rfl dX4_init_69 ?_
  refine n_putF (pc := 70) C hnm 0 [.inr (4, [.ref (z0 B + (pre.length + 1)), .null, .null, .null, .null, .null, .null, .int 0, .int 0, .int 0, .int 0, .int 0]), .inl (B.2.2.2.1 3, 6, .inr (.inr (.inr (.inr (va_up (va_up (va_up (va_up (va_up (va_up (fun _ => none) 0 (some (z0 B + (pre.length + 2)))) 1 (some (z0 B + (pre.length + 3)))) 2 (some (z0 B + (pre.length + 4)))) 3 (some (z0 B + (pre.length + 5)))) 4 (some (z0 B + (pre.length + 6)))) 5 (some (z0 B + (pre.length + 7)))))))), .inr (3, []), .inr (0, []), .inr (6, []), .inr (7, []), .inr (8, []), .inr (1, [])] rfl (k := 0) rfl inGX4 tyX4_ok nmX4 (by decide) rfl rfl tw1_76 rfl (ty := (.array (.object "GriefEngine$Plain"))) (by decide +kernel) rfl rfl (by show 0 < 12; decide) rfl dX4_init_70 ?_
  refine n_aload_n (pc := 73) C dX4_init_73 0 rfl ?_
  refine n_bipush (pc := 74) (v := (6 : Int32)) C dX4_init_74 (by decide) ?_
  refine n_newa (pc := 76) (atype := .int) (ty := .int) C 0 6 [.inr (4, [.ref (z0 B + (pre.length + 1)), .null, .null, .null, .null, .null, .null, .int 0, .int 0, .int 0, .int 0, .int 0]), .inl (B.2.2.2.1 3, 6, .inr (.inr (.inr (.inr (va_up (va_up (va_up (va_up (va_up (va_up (fun _ => none) 0 (some (z0 B + (pre.length + 2)))) 1 (some (z0 B + (pre.length + 3)))) 2 (some (z0 B + (pre.length + 4)))) 3 (some (z0 B + (pre.length + 5)))) 4 (some (z0 B + (pre.length + 6)))) 5 (some (z0 B + (pre.length + 7)))))))), .inr (3, []), .inr (0, []), .inr (6, []), .inr (7, []), .inr (8, []), .inr (1, []), .inl (B.2.2.2.1 0, 6, .inl (fun _ => 0))] 8 rfl tw1_129 rfl (fun U cA h => h) (fun cA => rfl) (by decide) (by decide) (by decide) (by decide) (by decide) dX4_init_76 rfl rfl ?_
  refine n_putF (pc := 78) C hnm 0 [.inr (4, [.ref (z0 B + (pre.length + 1)), .ref (z0 B + (pre.length + 8)), .null, .null, .null, .null, .null, .int 0, .int 0, .int 0, .int 0, .int 0]), .inl (B.2.2.2.1 3, 6, .inr (.inr (.inr (.inr (va_up (va_up (va_up (va_up (va_up (va_up (fun _ => none) 0 (some (z0 B + (pre.length + 2)))) 1 (some (z0 B + (pre.length + 3)))) 2 (some (z0 B + (pre.length + 4)))) 3 (some (z0 B + (pre.length + 5)))) 4 (some (z0 B + (pre.length + 6)))) 5 (some (z0 B + (pre.length + 7)))))))), .inr (3, []), .inr (0, []), .inr (6, []), .inr (7, []), .inr (8, []), .inr (1, []), .inl (B.2.2.2.1 0, 6, .inl (fun _ => 0))] rfl (k := 1) rfl inGX4 tyX4_ok nmX4 (by decide) rfl rfl tw1_78 rfl (ty := (.array .int)) (by decide +kernel) rfl rfl (by show 1 < 12; decide) rfl dX4_init_78 ?_
  refine n_aload_n (pc := 81) C dX4_init_81 0 rfl ?_
  refine n_bipush (pc := 82) (v := (6 : Int32)) C dX4_init_82 (by decide) ?_
  refine n_newa (pc := 84) (atype := .int) (ty := .int) C 0 6 [.inr (4, [.ref (z0 B + (pre.length + 1)), .ref (z0 B + (pre.length + 8)), .null, .null, .null, .null, .null, .int 0, .int 0, .int 0, .int 0, .int 0]), .inl (B.2.2.2.1 3, 6, .inr (.inr (.inr (.inr (va_up (va_up (va_up (va_up (va_up (va_up (fun _ => none) 0 (some (z0 B + (pre.length + 2)))) 1 (some (z0 B + (pre.length + 3)))) 2 (some (z0 B + (pre.length + 4)))) 3 (some (z0 B + (pre.length + 5)))) 4 (some (z0 B + (pre.length + 6)))) 5 (some (z0 B + (pre.length + 7)))))))), .inr (3, []), .inr (0, []), .inr (6, []), .inr (7, []), .inr (8, []), .inr (1, []), .inl (B.2.2.2.1 0, 6, .inl (fun _ => 0)), .inl (B.2.2.2.1 0, 6, .inl (fun _ => 0))] 9 rfl tw1_129 rfl (fun U cA h => h) (fun cA => rfl) (by decide) (by decide) (by decide) (by decide) (by decide) dX4_init_84 rfl rfl ?_
  refine n_putF (pc := 86) C hnm 0 [.inr (4, [.ref (z0 B + (pre.length + 1)), .ref (z0 B + (pre.length + 8)), .ref (z0 B + (pre.length + 9)), .null, .null, .null, .null, .int 0, .int 0, .int 0, .int 0, .int 0]), .inl (B.2.2.2.1 3, 6, .inr (.inr (.inr (.inr (va_up (va_up (va_up (va_up (va_up (va_up (fun _ => none) 0 (some (z0 B + (pre.length + 2)))) 1 (some (z0 B + (pre.length + 3)))) 2 (some (z0 B + (pre.length + 4)))) 3 (some (z0 B + (pre.length + 5)))) 4 (some (z0 B + (pre.length + 6)))) 5 (some (z0 B + (pre.length + 7)))))))), .inr (3, []), .inr (0, []), .inr (6, []), .inr (7, []), .inr (8, []), .inr (1, []), .inl (B.2.2.2.1 0, 6, .inl (fun _ => 0)), .inl (B.2.2.2.1 0, 6, .inl (fun _ => 0))] rfl (k := 2) rfl inGX4 tyX4_ok nmX4 (by decide) rfl rfl tw1_81 rfl (ty := (.array .int)) (by decide +kernel) rfl rfl (by show 2 < 12; decide) rfl dX4_init_86 ?_
  refine n_aload_n (pc := 89) C dX4_init_89 0 rfl ?_
  refine n_bipush (pc := 90) (v := (6 : Int32)) C dX4_init_90 (by decide) ?_
  refine n_newa (pc := 92) (atype := .int) (ty := .int) C 0 6 [.inr (4, [.ref (z0 B + (pre.length + 1)), .ref (z0 B + (pre.length + 8)), .ref (z0 B + (pre.length + 9)), .null, .null, .null, .null, .int 0, .int 0, .int 0, .int 0, .int 0]), .inl (B.2.2.2.1 3, 6, .inr (.inr (.inr (.inr (va_up (va_up (va_up (va_up (va_up (va_up (fun _ => none) 0 (some (z0 B + (pre.length + 2)))) 1 (some (z0 B + (pre.length + 3)))) 2 (some (z0 B + (pre.length + 4)))) 3 (some (z0 B + (pre.length + 5)))) 4 (some (z0 B + (pre.length + 6)))) 5 (some (z0 B + (pre.length + 7)))))))), .inr (3, []), .inr (0, []), .inr (6, []), .inr (7, []), .inr (8, []), .inr (1, []), .inl (B.2.2.2.1 0, 6, .inl (fun _ => 0)), .inl (B.2.2.2.1 0, 6, .inl (fun _ => 0)), .inl (B.2.2.2.1 0, 6, .inl (fun _ => 0))] 10 rfl tw1_129 rfl (fun U cA h => h) (fun cA => rfl) (by decide) (by decide) (by decide) (by decide) (by decide) dX4_init_92 rfl rfl ?_
  refine n_putF (pc := 94) C hnm 0 [.inr (4, [.ref (z0 B + (pre.length + 1)), .ref (z0 B + (pre.length + 8)), .ref (z0 B + (pre.length + 9)), .ref (z0 B + (pre.length + 10)), .null, .null, .null, .int 0, .int 0, .int 0, .int 0, .int 0]), .inl (B.2.2.2.1 3, 6, .inr (.inr (.inr (.inr (va_up (va_up (va_up (va_up (va_up (va_up (fun _ => none) 0 (some (z0 B + (pre.length + 2)))) 1 (some (z0 B + (pre.length + 3)))) 2 (some (z0 B + (pre.length + 4)))) 3 (some (z0 B + (pre.length + 5)))) 4 (some (z0 B + (pre.length + 6)))) 5 (some (z0 B + (pre.length + 7)))))))), .inr (3, []), .inr (0, []), .inr (6, []), .inr (7, []), .inr (8, []), .inr (1, []), .inl (B.2.2.2.1 0, 6, .inl (fun _ => 0)), .inl (B.2.2.2.1 0, 6, .inl (fun _ => 0)), .inl (B.2.2.2.1 0, 6, .inl (fun _ => 0))] rfl (k := 3) rfl inGX4 tyX4_ok nmX4 (by decide) rfl rfl tw1_85 rfl (ty := (.array .int)) (by decide +kernel) rfl rfl (by show 3 < 12; decide) rfl dX4_init_94 ?_
  refine n_aload_n (pc := 97) C dX4_init_97 0 rfl ?_
  refine n_bipush (pc := 98) (v := (36 : Int32)) C dX4_init_98 (by decide) ?_
  refine n_newa (pc := 100) (atype := .int) (ty := .int) C 0 36 [.inr (4, [.ref (z0 B + (pre.length + 1)), .ref (z0 B + (pre.length + 8)), .ref (z0 B + (pre.length + 9)), .ref (z0 B + (pre.length + 10)), .null, .null, .null, .int 0, .int 0, .int 0, .int 0, .int 0]), .inl (B.2.2.2.1 3, 6, .inr (.inr (.inr (.inr (va_up (va_up (va_up (va_up (va_up (va_up (fun _ => none) 0 (some (z0 B + (pre.length + 2)))) 1 (some (z0 B + (pre.length + 3)))) 2 (some (z0 B + (pre.length + 4)))) 3 (some (z0 B + (pre.length + 5)))) 4 (some (z0 B + (pre.length + 6)))) 5 (some (z0 B + (pre.length + 7)))))))), .inr (3, []), .inr (0, []), .inr (6, []), .inr (7, []), .inr (8, []), .inr (1, []), .inl (B.2.2.2.1 0, 6, .inl (fun _ => 0)), .inl (B.2.2.2.1 0, 6, .inl (fun _ => 0)), .inl (B.2.2.2.1 0, 6, .inl (fun _ => 0)), .inl (B.2.2.2.1 0, 36, .inl (fun _ => 0))] 11 rfl tw1_129 rfl (fun U cA h => h) (fun cA => rfl) (by decide) (by decide) (by decide) (by decide) (by decide) dX4_init_100 rfl rfl ?_
  refine n_putF (pc := 102) C hnm 0 [.inr (4, [.ref (z0 B + (pre.length + 1)), .ref (z0 B + (pre.length + 8)), .ref (z0 B + (pre.length + 9)), .ref (z0 B + (pre.length + 10)), .ref (z0 B + (pre.length + 11)), .null, .null, .int 0, .int 0, .int 0, .int 0, .int 0]), .inl (B.2.2.2.1 3, 6, .inr (.inr (.inr (.inr (va_up (va_up (va_up (va_up (va_up (va_up (fun _ => none) 0 (some (z0 B + (pre.length + 2)))) 1 (some (z0 B + (pre.length + 3)))) 2 (some (z0 B + (pre.length + 4)))) 3 (some (z0 B + (pre.length + 5)))) 4 (some (z0 B + (pre.length + 6)))) 5 (some (z0 B + (pre.length + 7)))))))), .inr (3, []), .inr (0, []), .inr (6, []), .inr (7, []), .inr (8, []), .inr (1, []), .inl (B.2.2.2.1 0, 6, .inl (fun _ => 0)), .inl (B.2.2.2.1 0, 6, .inl (fun _ => 0)), .inl (B.2.2.2.1 0, 6, .inl (fun _ => 0)), .inl (B.2.2.2.1 0, 36, .inl (fun _ => 0))] rfl (k := 4) rfl inGX4 tyX4_ok nmX4 (by decide) rfl rfl tw1_87 rfl (ty := (.array .int)) (by decide +kernel) rfl rfl (by show 4 < 12; decide) rfl dX4_init_102 ?_
  refine n_aload_n (pc := 105) C dX4_init_105 0 rfl ?_
  refine n_bipush (pc := 106) (v := (12 : Int32)) C dX4_init_106 (by decide) ?_
  refine n_newa (pc := 108) (atype := .int) (ty := .int) C 0 12 [.inr (4, [.ref (z0 B + (pre.length + 1)), .ref (z0 B + (pre.length + 8)), .ref (z0 B + (pre.length + 9)), .ref (z0 B + (pre.length + 10)), .ref (z0 B + (pre.length + 11)), .null, .null, .int 0, .int 0, .int 0, .int 0, .int 0]), .inl (B.2.2.2.1 3, 6, .inr (.inr (.inr (.inr (va_up (va_up (va_up (va_up (va_up (va_up (fun _ => none) 0 (some (z0 B + (pre.length + 2)))) 1 (some (z0 B + (pre.length + 3)))) 2 (some (z0 B + (pre.length + 4)))) 3 (some (z0 B + (pre.length + 5)))) 4 (some (z0 B + (pre.length + 6)))) 5 (some (z0 B + (pre.length + 7)))))))), .inr (3, []), .inr (0, []), .inr (6, []), .inr (7, []), .inr (8, []), .inr (1, []), .inl (B.2.2.2.1 0, 6, .inl (fun _ => 0)), .inl (B.2.2.2.1 0, 6, .inl (fun _ => 0)), .inl (B.2.2.2.1 0, 6, .inl (fun _ => 0)), .inl (B.2.2.2.1 0, 36, .inl (fun _ => 0)), .inl (B.2.2.2.1 0, 12, .inl (fun _ => 0))] 12 rfl tw1_129 rfl (fun U cA h => h) (fun cA => rfl) (by decide) (by decide) (by decide) (by decide) (by decide) dX4_init_108 rfl rfl ?_
  refine n_putF (pc := 110) C hnm 0 [.inr (4, [.ref (z0 B + (pre.length + 1)), .ref (z0 B + (pre.length + 8)), .ref (z0 B + (pre.length + 9)), .ref (z0 B + (pre.length + 10)), .ref (z0 B + (pre.length + 11)), .ref (z0 B + (pre.length + 12)), .null, .int 0, .int 0, .int 0, .int 0, .int 0]), .inl (B.2.2.2.1 3, 6, .inr (.inr (.inr (.inr (va_up (va_up (va_up (va_up (va_up (va_up (fun _ => none) 0 (some (z0 B + (pre.length + 2)))) 1 (some (z0 B + (pre.length + 3)))) 2 (some (z0 B + (pre.length + 4)))) 3 (some (z0 B + (pre.length + 5)))) 4 (some (z0 B + (pre.length + 6)))) 5 (some (z0 B + (pre.length + 7)))))))), .inr (3, []), .inr (0, []), .inr (6, []), .inr (7, []), .inr (8, []), .inr (1, []), .inl (B.2.2.2.1 0, 6, .inl (fun _ => 0)), .inl (B.2.2.2.1 0, 6, .inl (fun _ => 0)), .inl (B.2.2.2.1 0, 6, .inl (fun _ => 0)), .inl (B.2.2.2.1 0, 36, .inl (fun _ => 0)), .inl (B.2.2.2.1 0, 12, .inl (fun _ => 0))] rfl (k := 5) rfl inGX4 tyX4_ok nmX4 (by decide) rfl rfl tw1_89 rfl (ty := (.array .int)) (by decide +kernel) rfl rfl (by show 5 < 12; decide) rfl dX4_init_110 ?_
  refine n_aload_n (pc := 113) C dX4_init_113 0 rfl ?_
  refine n_bipush (pc := 114) (v := (104 : Int32)) C dX4_init_114 (by decide) ?_
  refine n_newa (pc := 116) (atype := .int) (ty := .int) C 0 104 [.inr (4, [.ref (z0 B + (pre.length + 1)), .ref (z0 B + (pre.length + 8)), .ref (z0 B + (pre.length + 9)), .ref (z0 B + (pre.length + 10)), .ref (z0 B + (pre.length + 11)), .ref (z0 B + (pre.length + 12)), .null, .int 0, .int 0, .int 0, .int 0, .int 0]), .inl (B.2.2.2.1 3, 6, .inr (.inr (.inr (.inr (va_up (va_up (va_up (va_up (va_up (va_up (fun _ => none) 0 (some (z0 B + (pre.length + 2)))) 1 (some (z0 B + (pre.length + 3)))) 2 (some (z0 B + (pre.length + 4)))) 3 (some (z0 B + (pre.length + 5)))) 4 (some (z0 B + (pre.length + 6)))) 5 (some (z0 B + (pre.length + 7)))))))), .inr (3, []), .inr (0, []), .inr (6, []), .inr (7, []), .inr (8, []), .inr (1, []), .inl (B.2.2.2.1 0, 6, .inl (fun _ => 0)), .inl (B.2.2.2.1 0, 6, .inl (fun _ => 0)), .inl (B.2.2.2.1 0, 6, .inl (fun _ => 0)), .inl (B.2.2.2.1 0, 36, .inl (fun _ => 0)), .inl (B.2.2.2.1 0, 12, .inl (fun _ => 0)), .inl (B.2.2.2.1 0, 104, .inl (fun _ => 0))] 13 rfl tw1_129 rfl (fun U cA h => h) (fun cA => rfl) (by decide) (by decide) (by decide) (by decide) (by decide) dX4_init_116 rfl rfl ?_
  refine n_putF (pc := 118) C hnm 0 [.inr (4, [.ref (z0 B + (pre.length + 1)), .ref (z0 B + (pre.length + 8)), .ref (z0 B + (pre.length + 9)), .ref (z0 B + (pre.length + 10)), .ref (z0 B + (pre.length + 11)), .ref (z0 B + (pre.length + 12)), .ref (z0 B + (pre.length + 13)), .int 0, .int 0, .int 0, .int 0, .int 0]), .inl (B.2.2.2.1 3, 6, .inr (.inr (.inr (.inr (va_up (va_up (va_up (va_up (va_up (va_up (fun _ => none) 0 (some (z0 B + (pre.length + 2)))) 1 (some (z0 B + (pre.length + 3)))) 2 (some (z0 B + (pre.length + 4)))) 3 (some (z0 B + (pre.length + 5)))) 4 (some (z0 B + (pre.length + 6)))) 5 (some (z0 B + (pre.length + 7)))))))), .inr (3, []), .inr (0, []), .inr (6, []), .inr (7, []), .inr (8, []), .inr (1, []), .inl (B.2.2.2.1 0, 6, .inl (fun _ => 0)), .inl (B.2.2.2.1 0, 6, .inl (fun _ => 0)), .inl (B.2.2.2.1 0, 6, .inl (fun _ => 0)), .inl (B.2.2.2.1 0, 36, .inl (fun _ => 0)), .inl (B.2.2.2.1 0, 12, .inl (fun _ => 0)), .inl (B.2.2.2.1 0, 104, .inl (fun _ => 0))] rfl (k := 6) rfl inGX4 tyX4_ok nmX4 (by decide) rfl rfl tw1_91 rfl (ty := (.array .int)) (by decide +kernel) rfl rfl (by show 6 < 12; decide) rfl dX4_init_118 ?_
  exact n_ret (pc := 121) C hr hlk hQ (by decide) (by decide) dX4_init_121
theorem kq_X4_init {B : KB} {l : Launch} (pre : List va_E) (p : Nat) (hp : pre.length = p) : Kn B l 4 yX4_init cX4_init 1 13 176 (pre ++ [.inr (4, [.null, .null, .null, .null, .null, .null, .null, .int 0, .int 0, .int 0, .int 0, .int 0])]) [.ref (z0 B + p)] (pre ++ rkL B p) := by
  subst hp
  exact kn_X4_init pre
theorem rkL_len (B : KB) (p : Nat) : (rkL B p).length = 14 := rfl
def txL (B : KB) (p : Nat) : List va_E := [.inr (9, [.ref (z0 B + (p + 1)), .int 0, .int 0, .int 0, .int 0, .int 0, .int 0, .int 0, .int 0, .int 0]), .inl (B.2.2.2.1 1, 150, .inl (fun _ => 0))]
set_option maxHeartbeats 4000000 in
set_option maxRecDepth 100000 in
theorem kn_X9_init {B : KB} {l : Launch} (pre : List va_E) : Kn B l 1 yX9_init cX9_init 1 1 150 (pre ++ [.inr (9, [.null, .int 0, .int 0, .int 0, .int 0, .int 0, .int 0, .int 0, .int 0, .int 0])]) [.ref (z0 B + pre.length)] (pre ++ txL B pre.length) := by
  refine Kn.of (by decide) rfl (Nat.le_of_ble_eq_true rfl) (fun X hX C hnm hr hlk hQ => ?_)
  subst hX
  have C : Cn B X "GriefEngine$Text" cX9_init 1 1 1 150 := C
  show Wn B X 1 0 0 pre [.inr (9, [.null, .int 0, .int 0, .int 0, .int 0, .int 0, .int 0, .int 0, .int 0, .int 0])] 0 [(0, .ref (z0 B + (pre.length + 0)))] []
  refine n_aload_n (pc := 0) C dX9_init_0 0 rfl ?_
  refine n_obj (pc := 1) C (by decide) tw1_136 tw1_25 tw1_26 (Nat.le_of_ble_eq_true rfl) dX9_init_1 ?_
  refine n_aload_n (pc := 4) C dX9_init_4 0 rfl ?_
  refine n_sipush (pc := 5) (v := (150 : Int32)) C dX9_init_5 (by decide) ?_
  refine n_newa (pc := 8) (atype := .byte) (ty := .byte) C 1 150 [.inr (9, [.null, .int 0, .int 0, .int 0, .int 0, .int 0, .int 0, .int 0, .int 0, .int 0]), .inl (B.2.2.2.1 1, 150, .inl (fun _ => 0))] 1 rfl tw1_175 rfl (fun U cA h => h) (fun cA => rfl) (by decide) (by decide) (by decide) (by decide) (by decide) dX9_init_8 rfl rfl ?_
  refine n_putF (pc := 10) C hnm 0 [.inr (9, [.ref (z0 B + (pre.length + 1)), .int 0, .int 0, .int 0, .int 0, .int 0, .int 0, .int 0, .int 0, .int 0]), .inl (B.2.2.2.1 1, 150, .inl (fun _ => 0))] rfl (k := 0) rfl inGX9 tyX9_ok nmX9 (by decide) rfl rfl tw1_137 rfl (ty := (.array .byte)) (by decide +kernel) rfl rfl (by show 0 < 10; decide) rfl dX9_init_10 ?_
  exact n_ret (pc := 13) C hr hlk hQ (by decide) (by decide) dX9_init_13
theorem kq_X9_init {B : KB} {l : Launch} (pre : List va_E) (p : Nat) (hp : pre.length = p) : Kn B l 1 yX9_init cX9_init 1 1 150 (pre ++ [.inr (9, [.null, .int 0, .int 0, .int 0, .int 0, .int 0, .int 0, .int 0, .int 0, .int 0])]) [.ref (z0 B + p)] (pre ++ txL B p) := by
  subst hp
  exact kn_X9_init pre
theorem txL_len (B : KB) (p : Nat) : (txL B p).length = 2 := rfl
def prL (B : KB) (p : Nat) : List va_E := [.inr (2, [.ref (z0 B + (p + 1)), .int 0, .ref (z0 B + (p + 2))]), .inl (B.2.2.2.1 0, 6, .inl (fun _ => 0)), .inl (B.2.2.2.1 0, 6, .inl (fun _ => 0))]
set_option maxHeartbeats 4000000 in
set_option maxRecDepth 100000 in
theorem kn_X2_init {B : KB} {l : Launch} (pre : List va_E) : Kn B l 1 yX2_init cX2_init 1 2 12 (pre ++ [.inr (2, [.null, .int 0, .null])]) [.ref (z0 B + pre.length)] (pre ++ prL B pre.length) := by
  refine Kn.of (by decide) rfl (Nat.le_of_ble_eq_true rfl) (fun X hX C hnm hr hlk hQ => ?_)
  subst hX
  have C : Cn B X "GriefEngine$Pairs" cX2_init 1 1 2 12 := C
  show Wn B X 1 0 0 pre [.inr (2, [.null, .int 0, .null])] 0 [(0, .ref (z0 B + (pre.length + 0)))] []
  refine n_aload_n (pc := 0) C dX2_init_0 0 rfl ?_
  refine n_obj (pc := 1) C (by decide) tw1_210 tw1_25 tw1_26 (Nat.le_of_ble_eq_true rfl) dX2_init_1 ?_
  refine n_aload_n (pc := 4) C dX2_init_4 0 rfl ?_
  refine n_bipush (pc := 5) (v := (6 : Int32)) C dX2_init_5 (by decide) ?_
  refine n_newa (pc := 7) (atype := .int) (ty := .int) C 0 6 [.inr (2, [.null, .int 0, .null]), .inl (B.2.2.2.1 0, 6, .inl (fun _ => 0))] 1 rfl tw1_129 rfl (fun U cA h => h) (fun cA => rfl) (by decide) (by decide) (by decide) (by decide) (by decide) dX2_init_7 rfl rfl ?_
  refine n_putF (pc := 9) C hnm 0 [.inr (2, [.ref (z0 B + (pre.length + 1)), .int 0, .null]), .inl (B.2.2.2.1 0, 6, .inl (fun _ => 0))] rfl (k := 0) rfl inGX2 tyX2_ok nmX2 (by decide) rfl rfl tw1_211 rfl (ty := (.array .int)) (by decide +kernel) rfl rfl (by show 0 < 3; decide) rfl dX2_init_9 ?_
  refine n_aload_n (pc := 12) C dX2_init_12 0 rfl ?_
  refine n_bipush (pc := 13) (v := (6 : Int32)) C dX2_init_13 (by decide) ?_
  refine n_newa (pc := 15) (atype := .int) (ty := .int) C 0 6 [.inr (2, [.ref (z0 B + (pre.length + 1)), .int 0, .null]), .inl (B.2.2.2.1 0, 6, .inl (fun _ => 0)), .inl (B.2.2.2.1 0, 6, .inl (fun _ => 0))] 2 rfl tw1_129 rfl (fun U cA h => h) (fun cA => rfl) (by decide) (by decide) (by decide) (by decide) (by decide) dX2_init_15 rfl rfl ?_
  refine n_putF (pc := 17) C hnm 0 [.inr (2, [.ref (z0 B + (pre.length + 1)), .int 0, .ref (z0 B + (pre.length + 2))]), .inl (B.2.2.2.1 0, 6, .inl (fun _ => 0)), .inl (B.2.2.2.1 0, 6, .inl (fun _ => 0))] rfl (k := 2) rfl inGX2 tyX2_ok nmX2 (by decide) rfl rfl tw1_215 rfl (ty := (.array .int)) (by decide +kernel) rfl rfl (by show 2 < 3; decide) rfl dX2_init_17 ?_
  exact n_ret (pc := 20) C hr hlk hQ (by decide) (by decide) dX2_init_20
theorem kq_X2_init {B : KB} {l : Launch} (pre : List va_E) (p : Nat) (hp : pre.length = p) : Kn B l 1 yX2_init cX2_init 1 2 12 (pre ++ [.inr (2, [.null, .int 0, .null])]) [.ref (z0 B + p)] (pre ++ prL B p) := by
  subst hp
  exact kn_X2_init pre
theorem prL_len (B : KB) (p : Nat) : (prL B p).length = 3 := rfl
def rwL (B : KB) (p : Nat) : List va_E := ([.inr (5, [.ref (z0 B + (p + 1)), .ref (z0 B + (p + 10)), .ref (z0 B + (p + 19)), .int 0, .int 0, .int 0])] ++ (gridL B (p + 1) ++ (gridL B (p + 10) ++ ([.inr (3, [])]))))
set_option maxHeartbeats 4000000 in
set_option maxRecDepth 100000 in
theorem kn_X5_init {B : KB} {l : Launch} (hM : MNA) (pre : List va_E) : Kn B l 2 yX5_init cX5_init 1 19 1616 (pre ++ [.inr (5, [.null, .null, .null, .int 0, .int 0, .int 0])]) [.ref (z0 B + pre.length)] (pre ++ rwL B pre.length) := by
  refine Kn.of (by decide) rfl (Nat.le_of_ble_eq_true rfl) (fun X hX C hnm hr hlk hQ => ?_)
  subst hX
  have C : Cn B X "GriefEngine$Rows" cX5_init 1 2 19 1616 := C
  show Wn B X 1 0 0 pre [.inr (5, [.null, .null, .null, .int 0, .int 0, .int 0])] 0 [(0, .ref (z0 B + (pre.length + 0)))] []
  refine n_aload_n (pc := 0) C dX5_init_0 0 rfl ?_
  refine n_obj (pc := 1) C (by decide) tw1_181 tw1_25 tw1_26 (Nat.le_of_ble_eq_true rfl) dX5_init_1 ?_
  refine n_aload_n (pc := 4) C dX5_init_4 0 rfl ?_
  refine n_bipush (pc := 5) (v := (8 : Int32)) C dX5_init_5 (by decide) ?_
  refine n_bipush (pc := 7) (v := (100 : Int32)) C dX5_init_7 (by decide) ?_
  refine n_mna (pc := 9) hM C ([.inr (5, [.null, .null, .null, .int 0, .int 0, .int 0])] ++ (gridL B (pre.length + 1))) 1 tw1_182 tw1_129 (by decide) (by decide) dX5_init_9 rfl rfl ?_
  refine n_putF (pc := 13) C hnm 0 ([.inr (5, [.ref (z0 B + (pre.length + 1)), .null, .null, .int 0, .int 0, .int 0])] ++ (gridL B (pre.length + 1))) rfl (k := 0) rfl inGX5 tyX5_ok nmX5 (by decide) rfl rfl tw1_186 rfl (ty := (.array (.array .int))) (by decide +kernel) rfl rfl (by show 0 < 6; decide) rfl dX5_init_13 ?_
  refine n_aload_n (pc := 16) C dX5_init_16 0 rfl ?_
  refine n_bipush (pc := 17) (v := (8 : Int32)) C dX5_init_17 (by decide) ?_
  refine n_bipush (pc := 19) (v := (100 : Int32)) C dX5_init_19 (by decide) ?_
  refine n_mna (pc := 21) hM C ([.inr (5, [.ref (z0 B + (pre.length + 1)), .null, .null, .int 0, .int 0, .int 0])] ++ (gridL B (pre.length + 1) ++ (gridL B (pre.length + 10)))) 10 tw1_182 tw1_129 (by decide) (by decide) dX5_init_21 rfl rfl ?_
  refine n_putF (pc := 25) C hnm 0 ([.inr (5, [.ref (z0 B + (pre.length + 1)), .ref (z0 B + (pre.length + 10)), .null, .int 0, .int 0, .int 0])] ++ (gridL B (pre.length + 1) ++ (gridL B (pre.length + 10)))) rfl (k := 1) rfl inGX5 tyX5_ok nmX5 (by decide) rfl rfl tw1_187 rfl (ty := (.array (.array .int))) (by decide +kernel) rfl rfl (by show 1 < 6; decide) rfl dX5_init_25 ?_
  refine n_aload_n (pc := 28) C dX5_init_28 0 rfl ?_
  refine n_new (pc := 29) C [] ([.inr (5, [.ref (z0 B + (pre.length + 1)), .ref (z0 B + (pre.length + 10)), .null, .int 0, .int 0, .int 0])] ++ (gridL B (pre.length + 1) ++ (gridL B (pre.length + 10) ++ ([.inr (3, [])])))) 19 (ci := 3) rfl inGX3 tyX3_ok tw1_184 tw1_35 tw1_3 (fun j hj => absurd hj (Nat.not_lt_zero j)) (by decide) (by decide) dX5_init_29 rfl rfl ?_
  refine n_dup (pc := 32) C dX5_init_32 rfl ?_
  refine n_callN0 (pc := 33) C (C.2.1.1 _ (List.mem_of_getElem? (i := 13) rfl)) rfl tw1_37 tw1_3 tw1_38 ⟨by decide, by decide, by decide +kernel⟩ (by decide) (by decide) (fun al => kn_X3_init al _) dX5_init_33 (Nat.le_of_ble_eq_true rfl) (by decide) (by decide) ?_
  refine n_put (pc := 36) C 0 ([.inr (5, [.ref (z0 B + (pre.length + 1)), .ref (z0 B + (pre.length + 10)), .ref (z0 B + (pre.length + 19)), .int 0, .int 0, .int 0])] ++ (gridL B (pre.length + 1) ++ (gridL B (pre.length + 10) ++ ([.inr (3, [])])))) rfl (k := 2) rfl inGX5 tyX5_ok nmX5 (by decide) rfl tw1_188 rfl (ty := (.object "GriefEngine$Plain")) (by decide +kernel) rfl rfl (by show 2 < 6; decide) rfl dX5_init_36 ?_
  exact n_ret (pc := 39) C hr hlk hQ (by decide) (by decide) dX5_init_39
theorem kq_X5_init {B : KB} {l : Launch} (hM : MNA) (pre : List va_E) (p : Nat) (hp : pre.length = p) : Kn B l 2 yX5_init cX5_init 1 19 1616 (pre ++ [.inr (5, [.null, .null, .null, .int 0, .int 0, .int 0])]) [.ref (z0 B + p)] (pre ++ rwL B p) := by
  subst hp
  exact kn_X5_init hM pre
theorem rwL_len (B : KB) (p : Nat) : (rwL B p).length = 20 := rfl
def enL (B : KB) (p : Nat) : List va_E := ([.inr (10, [.ref (z0 B + (p + 1)), .ref (z0 B + (p + 15)), .ref (z0 B + (p + 29)), .ref (z0 B + (p + 58)), .ref (z0 B + (p + 59)), .ref (z0 B + (p + 61)), .ref (z0 B + (p + 81)), .ref (z0 B + (p + 84)), .ref (z0 B + (p + 85)), .long 0, .long 1])] ++ (rkL B (p + 1) ++ (rkL B (p + 15) ++ ([.inl (B.2.2.2.1 4, 2, .inr (.inr (.inr (.inr (va_up (va_up (fun _ => none) 0 (some (z0 B + (p + 30)))) 1 (some (z0 B + (p + 44))))))))] ++ (rkL B (p + 30) ++ (rkL B (p + 44) ++ ([.inl (B.2.2.2.1 2, 2, .inl (fun _ => 0))] ++ (txL B (p + 59) ++ (rwL B (p + 61) ++ (prL B (p + 81) ++ ([.inl (B.2.2.2.1 0, 6, .inl (fun _ => 0)), .inl (B.2.2.2.1 0, 3, .inl (fun _ => 0))])))))))))))
set_option maxHeartbeats 4000000 in
set_option maxRecDepth 100000 in
theorem kn_X10_init {B : KB} {l : Launch} (hM : MNA) (pre : List va_E) : Kn B l 5 yX10_init cX10_init 1 85 2562 (pre ++ [.inr (10, [.null, .null, .null, .null, .null, .null, .null, .null, .null, .long 0, .long 0])]) [.ref (z0 B + pre.length)] (pre ++ enL B pre.length) := by
  refine Kn.of (by decide) rfl (Nat.le_of_ble_eq_true rfl) (fun X hX C hnm hr hlk hQ => ?_)
  subst hX
  have C : Cn B X "GriefEngine" cX10_init 1 5 85 2562 := C
  show Wn B X 1 0 0 pre [.inr (10, [.null, .null, .null, .null, .null, .null, .null, .null, .null, .long 0, .long 0])] 0 [(0, .ref (z0 B + (pre.length + 0)))] []
  refine n_aload_n (pc := 0) C dX10_init_0 0 rfl ?_
  refine n_obj (pc := 1) C (by decide) tw1_24 tw1_25 tw1_26 (Nat.le_of_ble_eq_true rfl) dX10_init_1 ?_
  refine n_aload_n (pc := 4) C dX10_init_4 0 rfl ?_
  refine n_new (pc := 5) C [.null, .null, .null, .null, .null, .null, .null, .int 0, .int 0, .int 0, .int 0, .int 0] [.inr (10, [.null, .null, .null, .null, .null, .null, .null, .null, .null, .long 0, .long 0]), .inr (4, [.null, .null, .null, .null, .null, .null, .null, .int 0, .int 0, .int 0, .int 0, .int 0])] 1 (ci := 4) rfl inGX4 tyX4_ok tw1_27 tw1_28 tw1_2 (fun j hj => by
      match j, hj with
      | 0, _ => rfl
      | 1, _ => rfl
      | 2, _ => rfl
      | 3, _ => rfl
      | 4, _ => rfl
      | 5, _ => rfl
      | 6, _ => rfl
      | 7, _ => rfl
      | 8, _ => rfl
      | 9, _ => rfl
      | 10, _ => rfl
      | 11, _ => rfl
      | j + 12, hj => exact absurd hj (by omega)) (by decide) (by decide) dX10_init_5 rfl rfl ?_
  refine n_dup (pc := 8) C dX10_init_8 rfl ?_
  refine n_callN (pc := 9) (d' := 4) (mc := 13) (ms := 176) (l0 := [.inr (10, [.null, .null, .null, .null, .null, .null, .null, .null, .null, .long 0, .long 0])]) (lc := rkL B (pre.length + 1)) C (C.2.1.1 _ (List.mem_of_getElem? (i := 0) rfl)) rfl tw1_30 tw1_2 tw1_31 ⟨by decide, by decide, by decide +kernel⟩ (by decide) (by decide) rfl (kq_X4_init (pre ++ [.inr (10, [.null, .null, .null, .null, .null, .null, .null, .null, .null, .long 0, .long 0])]) (pre.length + 1) (by simp [gridL_len, rkL_len, txL_len, prL_len, rwL_len])) dX10_init_9 (Nat.le_of_ble_eq_true rfl) (by decide) (by decide) (l' := ([.inr (10, [.null, .null, .null, .null, .null, .null, .null, .null, .null, .long 0, .long 0])] ++ (rkL B (pre.length + 1)))) rfl ?_
  refine n_putF (pc := 12) C hnm 0 ([.inr (10, [.ref (z0 B + (pre.length + 1)), .null, .null, .null, .null, .null, .null, .null, .null, .long 0, .long 0])] ++ (rkL B (pre.length + 1))) rfl (k := 0) rfl inGX10 tyX10_ok nmX10 (by decide) rfl rfl tw1_223 rfl (ty := (.object "GriefEngine$Rank")) (by decide +kernel) rfl rfl (by show 0 < 11; decide) rfl dX10_init_12 ?_
  refine n_aload_n (pc := 15) C dX10_init_15 0 rfl ?_
  refine n_new (pc := 16) C [.null, .null, .null, .null, .null, .null, .null, .int 0, .int 0, .int 0, .int 0, .int 0] ([.inr (10, [.ref (z0 B + (pre.length + 1)), .null, .null, .null, .null, .null, .null, .null, .null, .long 0, .long 0])] ++ (rkL B (pre.length + 1) ++ ([.inr (4, [.null, .null, .null, .null, .null, .null, .null, .int 0, .int 0, .int 0, .int 0, .int 0])]))) 15 (ci := 4) rfl inGX4 tyX4_ok tw1_27 tw1_28 tw1_2 (fun j hj => by
      match j, hj with
      | 0, _ => rfl
      | 1, _ => rfl
      | 2, _ => rfl
      | 3, _ => rfl
      | 4, _ => rfl
      | 5, _ => rfl
      | 6, _ => rfl
      | 7, _ => rfl
      | 8, _ => rfl
      | 9, _ => rfl
      | 10, _ => rfl
      | 11, _ => rfl
      | j + 12, hj => exact absurd hj (by omega)) (by decide) (by decide) dX10_init_16 rfl rfl ?_
  refine n_dup (pc := 19) C dX10_init_19 rfl ?_
  refine n_callN (pc := 20) (d' := 4) (mc := 13) (ms := 176) (l0 := ([.inr (10, [.ref (z0 B + (pre.length + 1)), .null, .null, .null, .null, .null, .null, .null, .null, .long 0, .long 0])] ++ (rkL B (pre.length + 1)))) (lc := rkL B (pre.length + 15)) C (C.2.1.1 _ (List.mem_of_getElem? (i := 0) rfl)) rfl tw1_30 tw1_2 tw1_31 ⟨by decide, by decide, by decide +kernel⟩ (by decide) (by decide) rfl (kq_X4_init (pre ++ ([.inr (10, [.ref (z0 B + (pre.length + 1)), .null, .null, .null, .null, .null, .null, .null, .null, .long 0, .long 0])] ++ (rkL B (pre.length + 1)))) (pre.length + 15) (by simp [gridL_len, rkL_len, txL_len, prL_len, rwL_len])) dX10_init_20 (Nat.le_of_ble_eq_true rfl) (by decide) (by decide) (l' := ([.inr (10, [.ref (z0 B + (pre.length + 1)), .null, .null, .null, .null, .null, .null, .null, .null, .long 0, .long 0])] ++ (rkL B (pre.length + 1) ++ (rkL B (pre.length + 15))))) rfl ?_
  refine n_putF (pc := 23) C hnm 0 ([.inr (10, [.ref (z0 B + (pre.length + 1)), .ref (z0 B + (pre.length + 15)), .null, .null, .null, .null, .null, .null, .null, .long 0, .long 0])] ++ (rkL B (pre.length + 1) ++ (rkL B (pre.length + 15)))) rfl (k := 1) rfl inGX10 tyX10_ok nmX10 (by decide) rfl rfl tw1_224 rfl (ty := (.object "GriefEngine$Rank")) (by decide +kernel) rfl rfl (by show 1 < 11; decide) rfl dX10_init_23 ?_
  refine n_aload_n (pc := 26) C dX10_init_26 0 rfl ?_
  refine n_iconst (pc := 27) (v := (2 : Int32)) C dX10_init_27 (by decide) ?_
  refine n_newq (pc := 28) C 4 2 ([.inr (10, [.ref (z0 B + (pre.length + 1)), .ref (z0 B + (pre.length + 15)), .null, .null, .null, .null, .null, .null, .null, .long 0, .long 0])] ++ (rkL B (pre.length + 1) ++ (rkL B (pre.length + 15) ++ ([.inl (B.2.2.2.1 4, 2, .inr (.inr (.inr (.inr (fun _ => none)))))])))) 29 tw1_27 C.2.1.2.2.1 rfl (by decide) (by decide) (by decide) (by decide) (by decide) dX10_init_28 rfl rfl ?_
  refine n_dup (pc := 31) C dX10_init_31 rfl ?_
  refine n_iconst (pc := 32) (v := (0 : Int32)) C dX10_init_32 (by decide) ?_
  refine n_new (pc := 33) C [.null, .null, .null, .null, .null, .null, .null, .int 0, .int 0, .int 0, .int 0, .int 0] ([.inr (10, [.ref (z0 B + (pre.length + 1)), .ref (z0 B + (pre.length + 15)), .null, .null, .null, .null, .null, .null, .null, .long 0, .long 0])] ++ (rkL B (pre.length + 1) ++ (rkL B (pre.length + 15) ++ ([.inl (B.2.2.2.1 4, 2, .inr (.inr (.inr (.inr (fun _ => none))))), .inr (4, [.null, .null, .null, .null, .null, .null, .null, .int 0, .int 0, .int 0, .int 0, .int 0])])))) 30 (ci := 4) rfl inGX4 tyX4_ok tw1_27 tw1_28 tw1_2 (fun j hj => by
      match j, hj with
      | 0, _ => rfl
      | 1, _ => rfl
      | 2, _ => rfl
      | 3, _ => rfl
      | 4, _ => rfl
      | 5, _ => rfl
      | 6, _ => rfl
      | 7, _ => rfl
      | 8, _ => rfl
      | 9, _ => rfl
      | 10, _ => rfl
      | 11, _ => rfl
      | j + 12, hj => exact absurd hj (by omega)) (by decide) (by decide) dX10_init_33 rfl rfl ?_
  refine n_dup (pc := 36) C dX10_init_36 rfl ?_
  refine n_callN (pc := 37) (d' := 4) (mc := 13) (ms := 176) (l0 := ([.inr (10, [.ref (z0 B + (pre.length + 1)), .ref (z0 B + (pre.length + 15)), .null, .null, .null, .null, .null, .null, .null, .long 0, .long 0])] ++ (rkL B (pre.length + 1) ++ (rkL B (pre.length + 15) ++ ([.inl (B.2.2.2.1 4, 2, .inr (.inr (.inr (.inr (fun _ => none)))))]))))) (lc := rkL B (pre.length + 30)) C (C.2.1.1 _ (List.mem_of_getElem? (i := 0) rfl)) rfl tw1_30 tw1_2 tw1_31 ⟨by decide, by decide, by decide +kernel⟩ (by decide) (by decide) rfl (kq_X4_init (pre ++ ([.inr (10, [.ref (z0 B + (pre.length + 1)), .ref (z0 B + (pre.length + 15)), .null, .null, .null, .null, .null, .null, .null, .long 0, .long 0])] ++ (rkL B (pre.length + 1) ++ (rkL B (pre.length + 15) ++ ([.inl (B.2.2.2.1 4, 2, .inr (.inr (.inr (.inr (fun _ => none)))))]))))) (pre.length + 30) (by simp [gridL_len, rkL_len, txL_len, prL_len, rwL_len])) dX10_init_37 (Nat.le_of_ble_eq_true rfl) (by decide) (by decide) (l' := ([.inr (10, [.ref (z0 B + (pre.length + 1)), .ref (z0 B + (pre.length + 15)), .null, .null, .null, .null, .null, .null, .null, .long 0, .long 0])] ++ (rkL B (pre.length + 1) ++ (rkL B (pre.length + 15) ++ ([.inl (B.2.2.2.1 4, 2, .inr (.inr (.inr (.inr (fun _ => none)))))] ++ (rkL B (pre.length + 30))))))) rfl ?_
  refine n_aast (pc := 40) C 4 29 30 2 ([.inr (10, [.ref (z0 B + (pre.length + 1)), .ref (z0 B + (pre.length + 15)), .null, .null, .null, .null, .null, .null, .null, .long 0, .long 0])] ++ (rkL B (pre.length + 1) ++ (rkL B (pre.length + 15) ++ ([.inl (B.2.2.2.1 4, 2, .inr (.inr (.inr (.inr (va_up (fun _ => none) 0 (some (z0 B + (pre.length + 30))))))))] ++ (rkL B (pre.length + 30)))))) rfl rfl rfl rfl (fun comp c0 h1 h2 => asg_self (C.1.2.2.2.2.2.1.1.1 4 _ rfl).2 h1 h2) (by decide) rfl dX10_init_40 ?_
  refine n_dup (pc := 41) C dX10_init_41 rfl ?_
  refine n_iconst (pc := 42) (v := (1 : Int32)) C dX10_init_42 (by decide) ?_
  refine n_new (pc := 43) C [.null, .null, .null, .null, .null, .null, .null, .int 0, .int 0, .int 0, .int 0, .int 0] ([.inr (10, [.ref (z0 B + (pre.length + 1)), .ref (z0 B + (pre.length + 15)), .null, .null, .null, .null, .null, .null, .null, .long 0, .long 0])] ++ (rkL B (pre.length + 1) ++ (rkL B (pre.length + 15) ++ ([.inl (B.2.2.2.1 4, 2, .inr (.inr (.inr (.inr (va_up (fun _ => none) 0 (some (z0 B + (pre.length + 30))))))))] ++ (rkL B (pre.length + 30) ++ ([.inr (4, [.null, .null, .null, .null, .null, .null, .null, .int 0, .int 0, .int 0, .int 0, .int 0])])))))) 44 (ci := 4) rfl inGX4 tyX4_ok tw1_27 tw1_28 tw1_2 (fun j hj => by
      match j, hj with
      | 0, _ => rfl
      | 1, _ => rfl
      | 2, _ => rfl
      | 3, _ => rfl
      | 4, _ => rfl
      | 5, _ => rfl
      | 6, _ => rfl
      | 7, _ => rfl
      | 8, _ => rfl
      | 9, _ => rfl
      | 10, _ => rfl
      | 11, _ => rfl
      | j + 12, hj => exact absurd hj (by omega)) (by decide) (by decide) dX10_init_43 rfl rfl ?_
  refine n_dup (pc := 46) C dX10_init_46 rfl ?_
  refine n_callN (pc := 47) (d' := 4) (mc := 13) (ms := 176) (l0 := ([.inr (10, [.ref (z0 B + (pre.length + 1)), .ref (z0 B + (pre.length + 15)), .null, .null, .null, .null, .null, .null, .null, .long 0, .long 0])] ++ (rkL B (pre.length + 1) ++ (rkL B (pre.length + 15) ++ ([.inl (B.2.2.2.1 4, 2, .inr (.inr (.inr (.inr (va_up (fun _ => none) 0 (some (z0 B + (pre.length + 30))))))))] ++ (rkL B (pre.length + 30))))))) (lc := rkL B (pre.length + 44)) C (C.2.1.1 _ (List.mem_of_getElem? (i := 0) rfl)) rfl tw1_30 tw1_2 tw1_31 ⟨by decide, by decide, by decide +kernel⟩ (by decide) (by decide) rfl (kq_X4_init (pre ++ ([.inr (10, [.ref (z0 B + (pre.length + 1)), .ref (z0 B + (pre.length + 15)), .null, .null, .null, .null, .null, .null, .null, .long 0, .long 0])] ++ (rkL B (pre.length + 1) ++ (rkL B (pre.length + 15) ++ ([.inl (B.2.2.2.1 4, 2, .inr (.inr (.inr (.inr (va_up (fun _ => none) 0 (some (z0 B + (pre.length + 30))))))))] ++ (rkL B (pre.length + 30))))))) (pre.length + 44) (by simp [gridL_len, rkL_len, txL_len, prL_len, rwL_len])) dX10_init_47 (Nat.le_of_ble_eq_true rfl) (by decide) (by decide) (l' := ([.inr (10, [.ref (z0 B + (pre.length + 1)), .ref (z0 B + (pre.length + 15)), .null, .null, .null, .null, .null, .null, .null, .long 0, .long 0])] ++ (rkL B (pre.length + 1) ++ (rkL B (pre.length + 15) ++ ([.inl (B.2.2.2.1 4, 2, .inr (.inr (.inr (.inr (va_up (fun _ => none) 0 (some (z0 B + (pre.length + 30))))))))] ++ (rkL B (pre.length + 30) ++ (rkL B (pre.length + 44)))))))) rfl ?_
  refine n_aast (pc := 50) C 4 29 44 2 ([.inr (10, [.ref (z0 B + (pre.length + 1)), .ref (z0 B + (pre.length + 15)), .null, .null, .null, .null, .null, .null, .null, .long 0, .long 0])] ++ (rkL B (pre.length + 1) ++ (rkL B (pre.length + 15) ++ ([.inl (B.2.2.2.1 4, 2, .inr (.inr (.inr (.inr (va_up (va_up (fun _ => none) 0 (some (z0 B + (pre.length + 30)))) 1 (some (z0 B + (pre.length + 44))))))))] ++ (rkL B (pre.length + 30) ++ (rkL B (pre.length + 44))))))) rfl rfl rfl rfl (fun comp c0 h1 h2 => asg_self (C.1.2.2.2.2.2.1.1.1 4 _ rfl).2 h1 h2) (by decide) rfl dX10_init_50 ?_
  refine n_putF (pc := 51) C hnm 0 ([.inr (10, [.ref (z0 B + (pre.length + 1)), .ref (z0 B + (pre.length + 15)), .ref (z0 B + (pre.length + 29)), .null, .null, .null, .null, .null, .null, .long 0, .long 0])] ++ (rkL B (pre.length + 1) ++ (rkL B (pre.length + 15) ++ ([.inl (B.2.2.2.1 4, 2, .inr (.inr (.inr (.inr (va_up (va_up (fun _ => none) 0 (some (z0 B + (pre.length + 30)))) 1 (some (z0 B + (pre.length + 44))))))))] ++ (rkL B (pre.length + 30) ++ (rkL B (pre.length + 44))))))) rfl (k := 2) rfl inGX10 tyX10_ok nmX10 (by decide) rfl rfl tw1_225 rfl (ty := (.array (.object "GriefEngine$Rank"))) (by decide +kernel) rfl rfl (by show 2 < 11; decide) rfl dX10_init_51 ?_
  refine n_aload_n (pc := 54) C dX10_init_54 0 rfl ?_
  refine n_iconst (pc := 55) (v := (2 : Int32)) C dX10_init_55 (by decide) ?_
  refine n_newa (pc := 56) (atype := .boolean) (ty := .boolean) C 2 2 ([.inr (10, [.ref (z0 B + (pre.length + 1)), .ref (z0 B + (pre.length + 15)), .ref (z0 B + (pre.length + 29)), .null, .null, .null, .null, .null, .null, .long 0, .long 0])] ++ (rkL B (pre.length + 1) ++ (rkL B (pre.length + 15) ++ ([.inl (B.2.2.2.1 4, 2, .inr (.inr (.inr (.inr (va_up (va_up (fun _ => none) 0 (some (z0 B + (pre.length + 30)))) 1 (some (z0 B + (pre.length + 44))))))))] ++ (rkL B (pre.length + 30) ++ (rkL B (pre.length + 44) ++ ([.inl (B.2.2.2.1 2, 2, .inl (fun _ => 0))]))))))) 58 rfl tw1_174 rfl (fun U cA h => h) (fun cA => rfl) (by decide) (by decide) (by decide) (by decide) (by decide) dX10_init_56 rfl rfl ?_
  refine n_putF (pc := 58) C hnm 0 ([.inr (10, [.ref (z0 B + (pre.length + 1)), .ref (z0 B + (pre.length + 15)), .ref (z0 B + (pre.length + 29)), .ref (z0 B + (pre.length + 58)), .null, .null, .null, .null, .null, .long 0, .long 0])] ++ (rkL B (pre.length + 1) ++ (rkL B (pre.length + 15) ++ ([.inl (B.2.2.2.1 4, 2, .inr (.inr (.inr (.inr (va_up (va_up (fun _ => none) 0 (some (z0 B + (pre.length + 30)))) 1 (some (z0 B + (pre.length + 44))))))))] ++ (rkL B (pre.length + 30) ++ (rkL B (pre.length + 44) ++ ([.inl (B.2.2.2.1 2, 2, .inl (fun _ => 0))]))))))) rfl (k := 3) rfl inGX10 tyX10_ok nmX10 (by decide) rfl rfl tw1_226 rfl (ty := (.array .boolean)) (by decide +kernel) rfl rfl (by show 3 < 11; decide) rfl dX10_init_58 ?_
  refine n_aload_n (pc := 61) C dX10_init_61 0 rfl ?_
  refine n_new (pc := 62) C [.null, .int 0, .int 0, .int 0, .int 0, .int 0, .int 0, .int 0, .int 0, .int 0] ([.inr (10, [.ref (z0 B + (pre.length + 1)), .ref (z0 B + (pre.length + 15)), .ref (z0 B + (pre.length + 29)), .ref (z0 B + (pre.length + 58)), .null, .null, .null, .null, .null, .long 0, .long 0])] ++ (rkL B (pre.length + 1) ++ (rkL B (pre.length + 15) ++ ([.inl (B.2.2.2.1 4, 2, .inr (.inr (.inr (.inr (va_up (va_up (fun _ => none) 0 (some (z0 B + (pre.length + 30)))) 1 (some (z0 B + (pre.length + 44))))))))] ++ (rkL B (pre.length + 30) ++ (rkL B (pre.length + 44) ++ ([.inl (B.2.2.2.1 2, 2, .inl (fun _ => 0)), .inr (9, [.null, .int 0, .int 0, .int 0, .int 0, .int 0, .int 0, .int 0, .int 0, .int 0])]))))))) 59 (ci := 9) rfl inGX9 tyX9_ok tw1_131 tw1_132 tw1_9 (fun j hj => by
      match j, hj with
      | 0, _ => rfl
      | 1, _ => rfl
      | 2, _ => rfl
      | 3, _ => rfl
      | 4, _ => rfl
      | 5, _ => rfl
      | 6, _ => rfl
      | 7, _ => rfl
      | 8, _ => rfl
      | 9, _ => rfl
      | j + 10, hj => exact absurd hj (by omega)) (by decide) (by decide) dX10_init_62 rfl rfl ?_
  refine n_dup (pc := 65) C dX10_init_65 rfl ?_
  refine n_callN (pc := 66) (d' := 1) (mc := 1) (ms := 150) (l0 := ([.inr (10, [.ref (z0 B + (pre.length + 1)), .ref (z0 B + (pre.length + 15)), .ref (z0 B + (pre.length + 29)), .ref (z0 B + (pre.length + 58)), .null, .null, .null, .null, .null, .long 0, .long 0])] ++ (rkL B (pre.length + 1) ++ (rkL B (pre.length + 15) ++ ([.inl (B.2.2.2.1 4, 2, .inr (.inr (.inr (.inr (va_up (va_up (fun _ => none) 0 (some (z0 B + (pre.length + 30)))) 1 (some (z0 B + (pre.length + 44))))))))] ++ (rkL B (pre.length + 30) ++ (rkL B (pre.length + 44) ++ ([.inl (B.2.2.2.1 2, 2, .inl (fun _ => 0))])))))))) (lc := txL B (pre.length + 59)) C (C.2.1.1 _ (List.mem_of_getElem? (i := 12) rfl)) rfl tw1_134 tw1_9 tw1_135 ⟨by decide, by decide, by decide +kernel⟩ (by decide) (by decide) rfl (kq_X9_init (pre ++ ([.inr (10, [.ref (z0 B + (pre.length + 1)), .ref (z0 B + (pre.length + 15)), .ref (z0 B + (pre.length + 29)), .ref (z0 B + (pre.length + 58)), .null, .null, .null, .null, .null, .long 0, .long 0])] ++ (rkL B (pre.length + 1) ++ (rkL B (pre.length + 15) ++ ([.inl (B.2.2.2.1 4, 2, .inr (.inr (.inr (.inr (va_up (va_up (fun _ => none) 0 (some (z0 B + (pre.length + 30)))) 1 (some (z0 B + (pre.length + 44))))))))] ++ (rkL B (pre.length + 30) ++ (rkL B (pre.length + 44) ++ ([.inl (B.2.2.2.1 2, 2, .inl (fun _ => 0))])))))))) (pre.length + 59) (by simp [gridL_len, rkL_len, txL_len, prL_len, rwL_len])) dX10_init_66 (Nat.le_of_ble_eq_true rfl) (by decide) (by decide) (l' := ([.inr (10, [.ref (z0 B + (pre.length + 1)), .ref (z0 B + (pre.length + 15)), .ref (z0 B + (pre.length + 29)), .ref (z0 B + (pre.length + 58)), .null, .null, .null, .null, .null, .long 0, .long 0])] ++ (rkL B (pre.length + 1) ++ (rkL B (pre.length + 15) ++ ([.inl (B.2.2.2.1 4, 2, .inr (.inr (.inr (.inr (va_up (va_up (fun _ => none) 0 (some (z0 B + (pre.length + 30)))) 1 (some (z0 B + (pre.length + 44))))))))] ++ (rkL B (pre.length + 30) ++ (rkL B (pre.length + 44) ++ ([.inl (B.2.2.2.1 2, 2, .inl (fun _ => 0))] ++ (txL B (pre.length + 59)))))))))) rfl ?_
  refine n_putF (pc := 69) C hnm 0 ([.inr (10, [.ref (z0 B + (pre.length + 1)), .ref (z0 B + (pre.length + 15)), .ref (z0 B + (pre.length + 29)), .ref (z0 B + (pre.length + 58)), .ref (z0 B + (pre.length + 59)), .null, .null, .null, .null, .long 0, .long 0])] ++ (rkL B (pre.length + 1) ++ (rkL B (pre.length + 15) ++ ([.inl (B.2.2.2.1 4, 2, .inr (.inr (.inr (.inr (va_up (va_up (fun _ => none) 0 (some (z0 B + (pre.length + 30)))) 1 (some (z0 B + (pre.length + 44))))))))] ++ (rkL B (pre.length + 30) ++ (rkL B (pre.length + 44) ++ ([.inl (B.2.2.2.1 2, 2, .inl (fun _ => 0))] ++ (txL B (pre.length + 59))))))))) rfl (k := 4) rfl inGX10 tyX10_ok nmX10 (by decide) rfl rfl tw1_227 rfl (ty := (.object "GriefEngine$Text")) (by decide +kernel) rfl rfl (by show 4 < 11; decide) rfl dX10_init_69 ?_
  refine n_aload_n (pc := 72) C dX10_init_72 0 rfl ?_
  refine n_new (pc := 73) C [.null, .null, .null, .int 0, .int 0, .int 0] ([.inr (10, [.ref (z0 B + (pre.length + 1)), .ref (z0 B + (pre.length + 15)), .ref (z0 B + (pre.length + 29)), .ref (z0 B + (pre.length + 58)), .ref (z0 B + (pre.length + 59)), .null, .null, .null, .null, .long 0, .long 0])] ++ (rkL B (pre.length + 1) ++ (rkL B (pre.length + 15) ++ ([.inl (B.2.2.2.1 4, 2, .inr (.inr (.inr (.inr (va_up (va_up (fun _ => none) 0 (some (z0 B + (pre.length + 30)))) 1 (some (z0 B + (pre.length + 44))))))))] ++ (rkL B (pre.length + 30) ++ (rkL B (pre.length + 44) ++ ([.inl (B.2.2.2.1 2, 2, .inl (fun _ => 0))] ++ (txL B (pre.length + 59) ++ ([.inr (5, [.null, .null, .null, .int 0, .int 0, .int 0])]))))))))) 61 (ci := 5) rfl inGX5 tyX5_ok tw1_176 tw1_177 tw1_10 (fun j hj => by
      match j, hj with
      | 0, _ => rfl
      | 1, _ => rfl
      | 2, _ => rfl
      | 3, _ => rfl
      | 4, _ => rfl
      | 5, _ => rfl
      | j + 6, hj => exact absurd hj (by omega)) (by decide) (by decide) dX10_init_73 rfl rfl ?_
  refine n_dup (pc := 76) C dX10_init_76 rfl ?_
  refine n_callI (pc := 77) (d' := 2) (mc := 19) (ms := 1616) (l0 := ([.inr (10, [.ref (z0 B + (pre.length + 1)), .ref (z0 B + (pre.length + 15)), .ref (z0 B + (pre.length + 29)), .ref (z0 B + (pre.length + 58)), .ref (z0 B + (pre.length + 59)), .null, .null, .null, .null, .long 0, .long 0])] ++ (rkL B (pre.length + 1) ++ (rkL B (pre.length + 15) ++ ([.inl (B.2.2.2.1 4, 2, .inr (.inr (.inr (.inr (va_up (va_up (fun _ => none) 0 (some (z0 B + (pre.length + 30)))) 1 (some (z0 B + (pre.length + 44))))))))] ++ (rkL B (pre.length + 30) ++ (rkL B (pre.length + 44) ++ ([.inl (B.2.2.2.1 2, 2, .inl (fun _ => 0))] ++ (txL B (pre.length + 59)))))))))) (lc := rwL B (pre.length + 61)) C tw1_178 rfl tw1_179 tw1_10 tw1_180 ⟨by decide, by decide, by decide +kernel⟩ (by decide) (by decide) rfl (kq_X5_init hM (pre ++ ([.inr (10, [.ref (z0 B + (pre.length + 1)), .ref (z0 B + (pre.length + 15)), .ref (z0 B + (pre.length + 29)), .ref (z0 B + (pre.length + 58)), .ref (z0 B + (pre.length + 59)), .null, .null, .null, .null, .long 0, .long 0])] ++ (rkL B (pre.length + 1) ++ (rkL B (pre.length + 15) ++ ([.inl (B.2.2.2.1 4, 2, .inr (.inr (.inr (.inr (va_up (va_up (fun _ => none) 0 (some (z0 B + (pre.length + 30)))) 1 (some (z0 B + (pre.length + 44))))))))] ++ (rkL B (pre.length + 30) ++ (rkL B (pre.length + 44) ++ ([.inl (B.2.2.2.1 2, 2, .inl (fun _ => 0))] ++ (txL B (pre.length + 59)))))))))) (pre.length + 61) (by simp [gridL_len, rkL_len, txL_len, prL_len, rwL_len])) dX10_init_77 (Nat.le_of_ble_eq_true rfl) (by decide) (by decide) (l' := ([.inr (10, [.ref (z0 B + (pre.length + 1)), .ref (z0 B + (pre.length + 15)), .ref (z0 B + (pre.length + 29)), .ref (z0 B + (pre.length + 58)), .ref (z0 B + (pre.length + 59)), .null, .null, .null, .null, .long 0, .long 0])] ++ (rkL B (pre.length + 1) ++ (rkL B (pre.length + 15) ++ ([.inl (B.2.2.2.1 4, 2, .inr (.inr (.inr (.inr (va_up (va_up (fun _ => none) 0 (some (z0 B + (pre.length + 30)))) 1 (some (z0 B + (pre.length + 44))))))))] ++ (rkL B (pre.length + 30) ++ (rkL B (pre.length + 44) ++ ([.inl (B.2.2.2.1 2, 2, .inl (fun _ => 0))] ++ (txL B (pre.length + 59) ++ (rwL B (pre.length + 61))))))))))) rfl ?_
  refine n_putF (pc := 80) C hnm 0 ([.inr (10, [.ref (z0 B + (pre.length + 1)), .ref (z0 B + (pre.length + 15)), .ref (z0 B + (pre.length + 29)), .ref (z0 B + (pre.length + 58)), .ref (z0 B + (pre.length + 59)), .ref (z0 B + (pre.length + 61)), .null, .null, .null, .long 0, .long 0])] ++ (rkL B (pre.length + 1) ++ (rkL B (pre.length + 15) ++ ([.inl (B.2.2.2.1 4, 2, .inr (.inr (.inr (.inr (va_up (va_up (fun _ => none) 0 (some (z0 B + (pre.length + 30)))) 1 (some (z0 B + (pre.length + 44))))))))] ++ (rkL B (pre.length + 30) ++ (rkL B (pre.length + 44) ++ ([.inl (B.2.2.2.1 2, 2, .inl (fun _ => 0))] ++ (txL B (pre.length + 59) ++ (rwL B (pre.length + 61)))))))))) rfl (k := 5) rfl inGX10 tyX10_ok nmX10 (by decide) rfl rfl tw1_228 rfl (ty := (.object "GriefEngine$Rows")) (by decide +kernel) rfl rfl (by show 5 < 11; decide) rfl dX10_init_80 ?_
  refine n_aload_n (pc := 83) C dX10_init_83 0 rfl ?_
  refine n_new (pc := 84) C [.null, .int 0, .null] ([.inr (10, [.ref (z0 B + (pre.length + 1)), .ref (z0 B + (pre.length + 15)), .ref (z0 B + (pre.length + 29)), .ref (z0 B + (pre.length + 58)), .ref (z0 B + (pre.length + 59)), .ref (z0 B + (pre.length + 61)), .null, .null, .null, .long 0, .long 0])] ++ (rkL B (pre.length + 1) ++ (rkL B (pre.length + 15) ++ ([.inl (B.2.2.2.1 4, 2, .inr (.inr (.inr (.inr (va_up (va_up (fun _ => none) 0 (some (z0 B + (pre.length + 30)))) 1 (some (z0 B + (pre.length + 44))))))))] ++ (rkL B (pre.length + 30) ++ (rkL B (pre.length + 44) ++ ([.inl (B.2.2.2.1 2, 2, .inl (fun _ => 0))] ++ (txL B (pre.length + 59) ++ (rwL B (pre.length + 61) ++ ([.inr (2, [.null, .int 0, .null])])))))))))) 81 (ci := 2) rfl inGX2 tyX2_ok tw1_205 tw1_206 tw1_11 (fun j hj => by
      match j, hj with
      | 0, _ => rfl
      | 1, _ => rfl
      | 2, _ => rfl
      | j + 3, hj => exact absurd hj (by omega)) (by decide) (by decide) dX10_init_84 rfl rfl ?_
  refine n_dup (pc := 87) C dX10_init_87 rfl ?_
  refine n_callN (pc := 88) (d' := 1) (mc := 2) (ms := 12) (l0 := ([.inr (10, [.ref (z0 B + (pre.length + 1)), .ref (z0 B + (pre.length + 15)), .ref (z0 B + (pre.length + 29)), .ref (z0 B + (pre.length + 58)), .ref (z0 B + (pre.length + 59)), .ref (z0 B + (pre.length + 61)), .null, .null, .null, .long 0, .long 0])] ++ (rkL B (pre.length + 1) ++ (rkL B (pre.length + 15) ++ ([.inl (B.2.2.2.1 4, 2, .inr (.inr (.inr (.inr (va_up (va_up (fun _ => none) 0 (some (z0 B + (pre.length + 30)))) 1 (some (z0 B + (pre.length + 44))))))))] ++ (rkL B (pre.length + 30) ++ (rkL B (pre.length + 44) ++ ([.inl (B.2.2.2.1 2, 2, .inl (fun _ => 0))] ++ (txL B (pre.length + 59) ++ (rwL B (pre.length + 61))))))))))) (lc := prL B (pre.length + 81)) C (C.2.1.1 _ (List.mem_of_getElem? (i := 14) rfl)) rfl tw1_208 tw1_11 tw1_209 ⟨by decide, by decide, by decide +kernel⟩ (by decide) (by decide) rfl (kq_X2_init (pre ++ ([.inr (10, [.ref (z0 B + (pre.length + 1)), .ref (z0 B + (pre.length + 15)), .ref (z0 B + (pre.length + 29)), .ref (z0 B + (pre.length + 58)), .ref (z0 B + (pre.length + 59)), .ref (z0 B + (pre.length + 61)), .null, .null, .null, .long 0, .long 0])] ++ (rkL B (pre.length + 1) ++ (rkL B (pre.length + 15) ++ ([.inl (B.2.2.2.1 4, 2, .inr (.inr (.inr (.inr (va_up (va_up (fun _ => none) 0 (some (z0 B + (pre.length + 30)))) 1 (some (z0 B + (pre.length + 44))))))))] ++ (rkL B (pre.length + 30) ++ (rkL B (pre.length + 44) ++ ([.inl (B.2.2.2.1 2, 2, .inl (fun _ => 0))] ++ (txL B (pre.length + 59) ++ (rwL B (pre.length + 61))))))))))) (pre.length + 81) (by simp [gridL_len, rkL_len, txL_len, prL_len, rwL_len])) dX10_init_88 (Nat.le_of_ble_eq_true rfl) (by decide) (by decide) (l' := ([.inr (10, [.ref (z0 B + (pre.length + 1)), .ref (z0 B + (pre.length + 15)), .ref (z0 B + (pre.length + 29)), .ref (z0 B + (pre.length + 58)), .ref (z0 B + (pre.length + 59)), .ref (z0 B + (pre.length + 61)), .null, .null, .null, .long 0, .long 0])] ++ (rkL B (pre.length + 1) ++ (rkL B (pre.length + 15) ++ ([.inl (B.2.2.2.1 4, 2, .inr (.inr (.inr (.inr (va_up (va_up (fun _ => none) 0 (some (z0 B + (pre.length + 30)))) 1 (some (z0 B + (pre.length + 44))))))))] ++ (rkL B (pre.length + 30) ++ (rkL B (pre.length + 44) ++ ([.inl (B.2.2.2.1 2, 2, .inl (fun _ => 0))] ++ (txL B (pre.length + 59) ++ (rwL B (pre.length + 61) ++ (prL B (pre.length + 81)))))))))))) rfl ?_
  refine n_putF (pc := 91) C hnm 0 ([.inr (10, [.ref (z0 B + (pre.length + 1)), .ref (z0 B + (pre.length + 15)), .ref (z0 B + (pre.length + 29)), .ref (z0 B + (pre.length + 58)), .ref (z0 B + (pre.length + 59)), .ref (z0 B + (pre.length + 61)), .ref (z0 B + (pre.length + 81)), .null, .null, .long 0, .long 0])] ++ (rkL B (pre.length + 1) ++ (rkL B (pre.length + 15) ++ ([.inl (B.2.2.2.1 4, 2, .inr (.inr (.inr (.inr (va_up (va_up (fun _ => none) 0 (some (z0 B + (pre.length + 30)))) 1 (some (z0 B + (pre.length + 44))))))))] ++ (rkL B (pre.length + 30) ++ (rkL B (pre.length + 44) ++ ([.inl (B.2.2.2.1 2, 2, .inl (fun _ => 0))] ++ (txL B (pre.length + 59) ++ (rwL B (pre.length + 61) ++ (prL B (pre.length + 81))))))))))) rfl (k := 6) rfl inGX10 tyX10_ok nmX10 (by decide) rfl rfl tw1_229 rfl (ty := (.object "GriefEngine$Pairs")) (by decide +kernel) rfl rfl (by show 6 < 11; decide) rfl dX10_init_91 ?_
  refine n_aload_n (pc := 94) C dX10_init_94 0 rfl ?_
  refine n_bipush (pc := 95) (v := (6 : Int32)) C dX10_init_95 (by decide) ?_
  refine n_newa (pc := 97) (atype := .int) (ty := .int) C 0 6 ([.inr (10, [.ref (z0 B + (pre.length + 1)), .ref (z0 B + (pre.length + 15)), .ref (z0 B + (pre.length + 29)), .ref (z0 B + (pre.length + 58)), .ref (z0 B + (pre.length + 59)), .ref (z0 B + (pre.length + 61)), .ref (z0 B + (pre.length + 81)), .null, .null, .long 0, .long 0])] ++ (rkL B (pre.length + 1) ++ (rkL B (pre.length + 15) ++ ([.inl (B.2.2.2.1 4, 2, .inr (.inr (.inr (.inr (va_up (va_up (fun _ => none) 0 (some (z0 B + (pre.length + 30)))) 1 (some (z0 B + (pre.length + 44))))))))] ++ (rkL B (pre.length + 30) ++ (rkL B (pre.length + 44) ++ ([.inl (B.2.2.2.1 2, 2, .inl (fun _ => 0))] ++ (txL B (pre.length + 59) ++ (rwL B (pre.length + 61) ++ (prL B (pre.length + 81) ++ ([.inl (B.2.2.2.1 0, 6, .inl (fun _ => 0))]))))))))))) 84 rfl tw1_129 rfl (fun U cA h => h) (fun cA => rfl) (by decide) (by decide) (by decide) (by decide) (by decide) dX10_init_97 rfl rfl ?_
  refine n_putF (pc := 99) C hnm 0 ([.inr (10, [.ref (z0 B + (pre.length + 1)), .ref (z0 B + (pre.length + 15)), .ref (z0 B + (pre.length + 29)), .ref (z0 B + (pre.length + 58)), .ref (z0 B + (pre.length + 59)), .ref (z0 B + (pre.length + 61)), .ref (z0 B + (pre.length + 81)), .ref (z0 B + (pre.length + 84)), .null, .long 0, .long 0])] ++ (rkL B (pre.length + 1) ++ (rkL B (pre.length + 15) ++ ([.inl (B.2.2.2.1 4, 2, .inr (.inr (.inr (.inr (va_up (va_up (fun _ => none) 0 (some (z0 B + (pre.length + 30)))) 1 (some (z0 B + (pre.length + 44))))))))] ++ (rkL B (pre.length + 30) ++ (rkL B (pre.length + 44) ++ ([.inl (B.2.2.2.1 2, 2, .inl (fun _ => 0))] ++ (txL B (pre.length + 59) ++ (rwL B (pre.length + 61) ++ (prL B (pre.length + 81) ++ ([.inl (B.2.2.2.1 0, 6, .inl (fun _ => 0))]))))))))))) rfl (k := 7) rfl inGX10 tyX10_ok nmX10 (by decide) rfl rfl tw1_230 rfl (ty := (.array .int)) (by decide +kernel) rfl rfl (by show 7 < 11; decide) rfl dX10_init_99 ?_
  refine n_aload_n (pc := 102) C dX10_init_102 0 rfl ?_
  refine n_iconst (pc := 103) (v := (3 : Int32)) C dX10_init_103 (by decide) ?_
  refine n_newa (pc := 104) (atype := .int) (ty := .int) C 0 3 ([.inr (10, [.ref (z0 B + (pre.length + 1)), .ref (z0 B + (pre.length + 15)), .ref (z0 B + (pre.length + 29)), .ref (z0 B + (pre.length + 58)), .ref (z0 B + (pre.length + 59)), .ref (z0 B + (pre.length + 61)), .ref (z0 B + (pre.length + 81)), .ref (z0 B + (pre.length + 84)), .null, .long 0, .long 0])] ++ (rkL B (pre.length + 1) ++ (rkL B (pre.length + 15) ++ ([.inl (B.2.2.2.1 4, 2, .inr (.inr (.inr (.inr (va_up (va_up (fun _ => none) 0 (some (z0 B + (pre.length + 30)))) 1 (some (z0 B + (pre.length + 44))))))))] ++ (rkL B (pre.length + 30) ++ (rkL B (pre.length + 44) ++ ([.inl (B.2.2.2.1 2, 2, .inl (fun _ => 0))] ++ (txL B (pre.length + 59) ++ (rwL B (pre.length + 61) ++ (prL B (pre.length + 81) ++ ([.inl (B.2.2.2.1 0, 6, .inl (fun _ => 0)), .inl (B.2.2.2.1 0, 3, .inl (fun _ => 0))]))))))))))) 85 rfl tw1_129 rfl (fun U cA h => h) (fun cA => rfl) (by decide) (by decide) (by decide) (by decide) (by decide) dX10_init_104 rfl rfl ?_
  refine n_putF (pc := 106) C hnm 0 ([.inr (10, [.ref (z0 B + (pre.length + 1)), .ref (z0 B + (pre.length + 15)), .ref (z0 B + (pre.length + 29)), .ref (z0 B + (pre.length + 58)), .ref (z0 B + (pre.length + 59)), .ref (z0 B + (pre.length + 61)), .ref (z0 B + (pre.length + 81)), .ref (z0 B + (pre.length + 84)), .ref (z0 B + (pre.length + 85)), .long 0, .long 0])] ++ (rkL B (pre.length + 1) ++ (rkL B (pre.length + 15) ++ ([.inl (B.2.2.2.1 4, 2, .inr (.inr (.inr (.inr (va_up (va_up (fun _ => none) 0 (some (z0 B + (pre.length + 30)))) 1 (some (z0 B + (pre.length + 44))))))))] ++ (rkL B (pre.length + 30) ++ (rkL B (pre.length + 44) ++ ([.inl (B.2.2.2.1 2, 2, .inl (fun _ => 0))] ++ (txL B (pre.length + 59) ++ (rwL B (pre.length + 61) ++ (prL B (pre.length + 81) ++ ([.inl (B.2.2.2.1 0, 6, .inl (fun _ => 0)), .inl (B.2.2.2.1 0, 3, .inl (fun _ => 0))]))))))))))) rfl (k := 8) rfl inGX10 tyX10_ok nmX10 (by decide) rfl rfl tw1_231 rfl (ty := (.array .int)) (by decide +kernel) rfl rfl (by show 8 < 11; decide) rfl dX10_init_106 ?_
  refine n_aload_n (pc := 109) C dX10_init_109 0 rfl ?_
  refine n_lconst (pc := 110) (v := (0 : Int64)) C dX10_init_110 (by decide) ?_
  refine n_put (pc := 111) C 0 ([.inr (10, [.ref (z0 B + (pre.length + 1)), .ref (z0 B + (pre.length + 15)), .ref (z0 B + (pre.length + 29)), .ref (z0 B + (pre.length + 58)), .ref (z0 B + (pre.length + 59)), .ref (z0 B + (pre.length + 61)), .ref (z0 B + (pre.length + 81)), .ref (z0 B + (pre.length + 84)), .ref (z0 B + (pre.length + 85)), .long 0, .long 0])] ++ (rkL B (pre.length + 1) ++ (rkL B (pre.length + 15) ++ ([.inl (B.2.2.2.1 4, 2, .inr (.inr (.inr (.inr (va_up (va_up (fun _ => none) 0 (some (z0 B + (pre.length + 30)))) 1 (some (z0 B + (pre.length + 44))))))))] ++ (rkL B (pre.length + 30) ++ (rkL B (pre.length + 44) ++ ([.inl (B.2.2.2.1 2, 2, .inl (fun _ => 0))] ++ (txL B (pre.length + 59) ++ (rwL B (pre.length + 61) ++ (prL B (pre.length + 81) ++ ([.inl (B.2.2.2.1 0, 6, .inl (fun _ => 0)), .inl (B.2.2.2.1 0, 3, .inl (fun _ => 0))]))))))))))) rfl (k := 9) rfl inGX10 tyX10_ok nmX10 (by decide) rfl tw1_232 rfl (ty := .long) (by decide +kernel) rfl rfl (by show 9 < 11; decide) rfl dX10_init_111 ?_
  refine n_aload_n (pc := 114) C dX10_init_114 0 rfl ?_
  refine n_lconst (pc := 115) (v := (1 : Int64)) C dX10_init_115 (by decide) ?_
  refine n_put (pc := 116) C 0 ([.inr (10, [.ref (z0 B + (pre.length + 1)), .ref (z0 B + (pre.length + 15)), .ref (z0 B + (pre.length + 29)), .ref (z0 B + (pre.length + 58)), .ref (z0 B + (pre.length + 59)), .ref (z0 B + (pre.length + 61)), .ref (z0 B + (pre.length + 81)), .ref (z0 B + (pre.length + 84)), .ref (z0 B + (pre.length + 85)), .long 0, .long 1])] ++ (rkL B (pre.length + 1) ++ (rkL B (pre.length + 15) ++ ([.inl (B.2.2.2.1 4, 2, .inr (.inr (.inr (.inr (va_up (va_up (fun _ => none) 0 (some (z0 B + (pre.length + 30)))) 1 (some (z0 B + (pre.length + 44))))))))] ++ (rkL B (pre.length + 30) ++ (rkL B (pre.length + 44) ++ ([.inl (B.2.2.2.1 2, 2, .inl (fun _ => 0))] ++ (txL B (pre.length + 59) ++ (rwL B (pre.length + 61) ++ (prL B (pre.length + 81) ++ ([.inl (B.2.2.2.1 0, 6, .inl (fun _ => 0)), .inl (B.2.2.2.1 0, 3, .inl (fun _ => 0))]))))))))))) rfl (k := 10) rfl inGX10 tyX10_ok nmX10 (by decide) rfl tw1_233 rfl (ty := .long) (by decide +kernel) rfl rfl (by show 10 < 11; decide) rfl dX10_init_116 ?_
  exact n_ret (pc := 119) C hr hlk hQ (by decide) (by decide) dX10_init_119
theorem kq_X10_init {B : KB} {l : Launch} (hM : MNA) (pre : List va_E) (p : Nat) (hp : pre.length = p) : Kn B l 5 yX10_init cX10_init 1 85 2562 (pre ++ [.inr (10, [.null, .null, .null, .null, .null, .null, .null, .null, .null, .long 0, .long 0])]) [.ref (z0 B + p)] (pre ++ enL B p) := by
  subst hp
  exact kn_X10_init hM pre
theorem enL_len (B : KB) (p : Nat) : (enL B p).length = 86 := rfl
