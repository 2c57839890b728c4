/-! new int[8][100]: nine cells, the rows' addresses laid one by one into the first -/
def oC (cA : ClassId) (h0 i : Nat) : Cell := arrV cA 8 (fun j => if j < i then .ref (h0 + 1 + j) else .null)
def iC (cI : ClassId) : Cell := arrV cI 100 (fun _ => .int 0)
theorem oC_0 (cA : ClassId) (h0 : Nat) : arrV cA 8 (fun _ => Value.null) = oC cA h0 0 := by
  unfold oC
  exact congrArg (arrV cA 8) (funext fun j => (if_neg (Nat.not_lt_zero j)).symm)
theorem oC_s (cA : ClassId) (h0 i : Nat) : (oC cA h0 i).setSlot i (.ref (h0 + 1 + i)) = oC cA h0 (i + 1) := by
  unfold oC
  rw [arrV_store]
  refine congrArg (arrV cA 8) (funext fun j => ?_)
  show (if j = i then Value.ref (h0 + 1 + i) else if j < i then Value.ref (h0 + 1 + j) else Value.null) = if j < i + 1 then Value.ref (h0 + 1 + j) else Value.null
  by_cases h1 : j = i
  · rw [if_pos h1, if_pos (by omega), h1]
  · rw [if_neg h1]
    by_cases h2 : j < i
    · rw [if_pos h2, if_pos (by omega)]
    · rw [if_neg h2, if_neg (by omega)]
/-- .. with i rows laid -/
def gz (T : State) (cA cI : ClassId) : Nat → State
  | 0 => T.pushCell (oC cA T.heap.size 0)
  | i + 1 => ((gz T cA cI i).pushCell (iC cI)).setCell T.heap.size (oC cA T.heap.size (i + 1))
theorem gz_is (T : State) (cA cI : ClassId) : ∀ i : Nat, (gz T cA cI i).heap.size = T.heap.size + 1 + i ∧ (gz T cA cI i).heap[T.heap.size]? = some (oC cA T.heap.size i) ∧ (gz T cA cI i).vm = T.vm ∧ (∀ q : Nat, q < T.heap.size → (gz T cA cI i).heap[q]? = T.heap[q]?) ∧ ∀ j : Nat, j < i → (gz T cA cI i).heap[T.heap.size + 1 + j]? = some (iC cI) := by
  intro i
  induction i with
  | zero => exact ⟨by simp [gz], by simp [gz], rfl, fun q hq => State.heap_pushCell_of_lt _ _ hq, fun j hj => absurd hj (Nat.not_lt_zero j)⟩
  | succ i ih =>
    obtain ⟨a1, a2, a3, a4, a5⟩ := ih
    have hpush : ∀ q : Nat, q < T.heap.size + 1 + i → ((gz T cA cI i).pushCell (iC cI)).heap[q]? = (gz T cA cI i).heap[q]? := fun q hq => State.heap_pushCell_of_lt _ _ (by rw [a1]; exact hq)
    have hset : ∀ q : Nat, q ≠ T.heap.size → (gz T cA cI (i + 1)).heap[q]? = ((gz T cA cI i).pushCell (iC cI)).heap[q]? := fun q hq => State.heap_setCell_other (Ne.symm hq)
    refine ⟨?_, ?_, by simp [gz, a3], fun q hq => by rw [hset q (by omega), hpush q (by omega)]; exact a4 q hq, fun j hj => ?_⟩
    · simp [gz, State.setCell, a1]
      omega
    · exact State.heap_setCell_self ((hpush _ (by omega)).trans a2)
    · rw [hset _ (by omega)]
      by_cases h1 : j < i
      · rw [hpush _ (by omega)]
        exact a5 j h1
      · have e : T.heap.size + 1 + j = (gz T cA cI i).heap.size := by rw [a1]; omega
        rw [e]
        exact State.heap_pushCell_size _ _
theorem gz_top (T : State) (f : JFrame) (cA cI : ClassId) : ∀ i : Nat, gz (T.setTop f) cA cI i = (gz T cA cI i).setTop f := by
  intro i
  induction i with
  | zero => rfl
  | succ i ih => simp only [gz, ih, State.heap_setTop, State.pushCell_setTop, State.setCell_setTop]
section GDW
variable {p : Program} {l : Launch} {e : Env} {R : Room} {s : State} {m : MethodId} {args : Array Value} {below : List Frame} {meth : Method} {c : Code} {T : State} {locs : List Loc} {cells slots : Nat}
theorem gz_st (X : Stand p l e R s m args below meth c T locs cells slots) (cA cI : ClassId) : ∀ i : Nat, Stand p l e R s m args below meth c (gz T cA cI i) locs (cells + 1 + i) (slots + 8 + 100 * i) := by
  intro i
  induction i with
  | zero =>
    have h := X.pushed (oC cA T.heap.size 0)
    unfold oC at h
    rw [arrV_size] at h
    exact h
  | succ i ih =>
    obtain ⟨a1, a2, -⟩ := gz_is T cA cI i
    have h := ih.pushed (iC cI)
    unfold iC at h
    rw [arrV_size] at h
    have hcell : ((gz T cA cI i).pushCell (iC cI)).heap[T.heap.size]? = some (oC cA T.heap.size i) := (State.heap_pushCell_of_lt (gz T cA cI i) (iC cI) (show T.heap.size < (gz T cA cI i).heap.size by rw [a1]; omega)).trans a2
    have k := Stand.stored h hcell i (.ref (T.heap.size + 1 + i))
    rw [oC_s] at k
    have k2 := Stand.dropFresh k (fun x hx => by
      cases List.mem_singleton.mp hx
      exact X.heapGrown)
    rw [show slots + 8 + 100 * (i + 1) = slots + 8 + 100 * i + 100 by omega]
    exact k2
end GDW
section GWP
variable {E : CtlPost} {e : Env} {d : Bool} {acts : List Action} {s : State}
theorem g_new {cA comp : ClassId} {k : Class} {ty : FieldType} {N : Nat} {x : Value} {P : Addr → Pre} (hk : s.vm.classes[cA]? = some k) (hkind : k.kind = .array comp ty) (hx : fits ty x = true) (hx0 : x.isDefault = true) (hl : ¬ N > e.platform.arrayLengthLimit) (hb : ¬ N * componentBytes ty > e.platform.maxHeapBytes) (r1 : s.heap.size + 1 ≤ e.platform.maxCells) (r2 : s.slotsUsed + N ≤ e.platform.maxSlots) (go : P s.heap.size d acts (s.pushCell (arrV cA N (fun _ => x)))) : wp (Jvm.newArray cA N x) P E e d acts s := by
  have hf : ∀ (i : Nat) (v : Value), (Array.replicate N x)[i]? = some v → s.fitsSlot cA .none i v = true := fun i v hv => by
    rw [Array.getElem?_replicate] at hv
    by_cases q : i < N
    · rw [if_pos q] at hv
      cases hv
      simp [State.fitsSlot, State.slotType?, hk, hkind, hx]
    · rw [if_neg q] at hv
      cases hv
  have ha : allocActs (Array.replicate N x) s.heap.size acts = acts := by
    unfold allocActs
    refine if_pos ?_
    rw [Array.all_replicate]
    split <;> simp [hx0]
  rw [← arrV_new] at go
  simp only [Jvm.newArray, Jvm.arrayFits, wp_bind', W.ask, W.ite, hl, if_false, wp_pure', W.theClass, hk, hkind, hb, W.alloc, W.stop, Option.some.injEq, exists_eq_left', Array.size_replicate, ha]
  rw [if_neg (by omega)]
  exact ⟨by omega, r2, hf, go⟩
theorem g_row {cI comp : ClassId} {k : Class} {P : Addr → Pre} (hk : s.vm.classes[cI]? = some k) (hkind : k.kind = .array comp .int) (hl : ¬ 100 > e.platform.arrayLengthLimit) (hb : ¬ 100 * componentBytes .int > e.platform.maxHeapBytes) (r1 : s.heap.size + 1 ≤ e.platform.maxCells) (r2 : s.slotsUsed + 100 ≤ e.platform.maxSlots) (go : P s.heap.size d acts (s.pushCell (iC cI))) : wp (_root_.Jvm.Op.multianewarray.make cI [100]) P E e d acts s := by
  have h0 : ¬ (100 : Int32) < 0 := by decide
  rw [_root_.Jvm.Op.multianewarray.make]
  simp only [wp_bind', W.ite, h0, if_false, wp_pure', W.theClass, hk, hkind, Option.some.injEq, exists_eq_left']
  exact g_new hk hkind rfl rfl hl hb r1 r2 go
theorem g_all {p : Program} {l : Launch} {R : Room} {s0 : State} {m : MethodId} {args : Array Value} {below : List Frame} {meth : Method} {c : Code} {T : State} {locs : List Loc} {cells slots : Nat} {f : JFrame} (X : Stand p l e R s0 m args below meth c T locs cells slots) {cA cI comp : ClassId} {kA kI : Class} {P : Addr → Pre} (hkA : T.vm.classes[cA]? = some kA) (hkindA : kA.kind = .array cI (.array .int)) (hkI : T.vm.classes[cI]? = some kI) (hkindI : kI.kind = .array comp .int) (r1 : cells + 9 ≤ R.cells) (r2 : slots + 808 ≤ R.slots) (go : ∀ d' acts', P T.heap.size d' acts' ((gz T cA cI 8).setTop f)) : wp (_root_.Jvm.Op.multianewarray.make cA [8, 100]) P E e d acts (T.setTop f) := by
  have h0 : ¬ (8 : Int32) < 0 := by decide
  have h8 : Int32.toNatClampNeg 8 = 8 := by decide
  have hfind : (([100] : List Int32).find? (· < 0)) = none := by decide
  have hlim : e.platform.arrayLengthLimit = _ := Launch.admits_arrayLengthLimit X.admits
  have hhb : e.platform.maxHeapBytes = _ := Launch.admits_maxHeapBytes X.admits
  rw [_root_.Jvm.Op.multianewarray.make]
  simp only [wp_bind', W.ite, h0, if_false, wp_pure', W.theClass, State.vm_setTop, hkA, hkindA, Option.some.injEq, exists_eq_left', h8]
  obtain ⟨q1, q2⟩ := X.roomAbove (a := 9) (b := 808) r1 r2
  refine g_new (ty := .array .int) (comp := cI) (k := kA) hkA hkindA rfl rfl (by rw [hlim]; decide) (by rw [hhb]; decide) (by show T.heap.size + 1 ≤ _; omega) (by show T.slotsUsed + 8 ≤ _; omega) ?_
  simp only [hfind]
  rw [ite_self, wp_bind', Std.Legacy.Range.forIn_eq_forIn_range']
  show wp (forIn (List.range' 0 8 1) PUnit.unit _) _ E e d acts _
  refine wp_forIn_inv (fun rest s' => ∃ i, i + rest.length = 8 ∧ rest = List.range' i rest.length 1 ∧ s' = (gz T cA cI i).setTop f) _ _ ⟨0, by decide, by decide, ?_⟩ ?_ ?_
  · rw [oC_0 cA (T.setTop f).heap.size]
    rfl
  · rintro x rest s' d' acts' Q' ⟨i, hi, hl, rfl⟩ hnext
    have hi : i + (rest.length + 1) = 8 := hi
    have hl : x :: rest = List.range' i (rest.length + 1) 1 := hl
    rw [List.range'_succ] at hl
    obtain ⟨hx, hr⟩ := List.cons.inj hl
    subst hx
    obtain ⟨a1, a2, a3, a4, a5⟩ := gz_is T cA cI x
    have Xi := gz_st X cA cI x
    obtain ⟨w1, w2⟩ := Xi.roomAbove (a := 1) (b := 100) (by omega) (by omega)
    simp only [wp_bind']
    refine g_row (k := kI) (comp := comp) (by rw [State.vm_setTop, a3]; exact hkI) hkindI (by rw [hlim]; decide) (by rw [hhb]; decide) w1 w2 ?_
    simp only [wp_bind', W.writeLoc, wp_pure']
    have hcell : (((gz T cA cI x).setTop f).pushCell (iC cI)).heap[T.heap.size]? = some (oC cA T.heap.size x) := by
      rw [State.heap_pushCell_of_lt _ _ (by show T.heap.size < (gz T cA cI x).heap.size; rw [a1]; omega)]
      exact a2
    refine ⟨oC cA T.heap.size x, hcell, (fun q => by cases q), (by unfold oC; rw [arrV_size]; omega), ?_, hnext _ _ _ ⟨x + 1, by omega, hr, ?_⟩⟩
    · show State.fitsSlot _ cA .none x (.ref _) = true
      have ev : (((gz T cA cI x).setTop f).pushCell (iC cI)).vm = T.vm := a3
      simp [State.fitsSlot, State.slotType?, a3, hkA, hkindA, fits]
    · have eh : ((gz T cA cI x).setTop f).heap.size = T.heap.size + 1 + x := a1
      rw [eh, oC_s]
      show _ = (((gz T cA cI x).pushCell (iC cI)).setCell T.heap.size (oC cA T.heap.size (x + 1))).setTop f
      simp only [State.pushCell_setTop, State.setCell_setTop]
      rfl
  · rintro s' d' acts' ⟨i, hi, -, rfl⟩
    have hi : i + 0 = 8 := hi
    have hi : i = 8 := by omega
    subst hi
    simp only [wp_pure']
    exact go _ _
end GWP
set_option maxHeartbeats 4000000 in
theorem mna : MNA := by
  intro X cc own index H locs cells slots pc ls rest cA cI hx hb hown hcl hov har hA hI r1 r2 hdg kk
  obtain ⟨p, l, e, R, s, m, args, below, meth, c, c0, s0, Q⟩ := X
  dsimp only at *
  intro T hT X
  have hpl : e.platform.magicAccessors = ({} : Platform).magicAccessors := by rw [X.admits.platform]
  obtain ⟨comp, c1, kA, f1, -, f3, f4, f5⟩ := AOI.of hov
  obtain ⟨c2, kI, cc2, g1, g2, g3⟩ := Cond.arrayClass_spec har
  cases (show s.vm.findClass "[[I" = some c1 from f5).symm.trans hA
  cases (show s.vm.findClass "[I" = some comp from f1).symm.trans hI
  cases (show s.vm.findClass "[I" = some c2 from g1).symm.trans hI
  obtain ⟨c3, hfc, hlk⟩ := Cond.classLink_spec hown hcl e.platform hpl
  cases hfc.symm.trans hA
  obtain ⟨hgv, hwarm, hready⟩ := State.classEntry (e := e) X.warmed hlk
  generalize T.vm.noted m.cls index (.cls cA) = vm1 at hgv hwarm hready
  obtain ⟨kA1, hkA1, heA⟩ := hwarm.alike.2.2 _ _ f3
  obtain ⟨kI1, hkI1, heI⟩ := hwarm.alike.2.2 _ _ g2
  have X1 := X.noted hwarm
  have XF := gz_st X1 cA cI 8
  obtain ⟨z1, z2, z3, z4, z5⟩ := gz_is (T.setVm vm1) cA cI 8
  have eT : (T.setVm vm1).heap = H := hT
  rw [eT] at z1 z2 z4 z5
  obtain ⟨t, st, hq⟩ := kk (gz (T.setVm vm1) cA cI 8).heap (by rw [z1]) (by
    rw [z2, vp_cell_q]
    unfold oC
    refine congrArg (fun q => some (arrV cA 8 q)) (funext fun j => ?_)
    by_cases hj : j < 8
    · rw [if_pos hj, if_pos hj]; rfl
    · rw [if_neg hj, if_neg hj]; rfl) (fun j hj => by rw [z5 j hj]; rfl) z4 (gz (T.setVm vm1) cA cI 8) rfl XF
  refine ⟨t, ?_, hq⟩
  subst hb
  jvm_step X.here [hx, hdg]
  simp only [_root_.Jvm.Op.multianewarray.sem, wp_bind', W.resolveClassAt_links (t := T.setTop (F0 m pc ls (.int 100 :: .int 8 :: rest))) (State.method?_setTop (F0 m pc ls (.int 100 :: .int 8 :: rest)) X.here.top) hgv]
  rw [W.popN, if_neg (by decide)]
  refine ⟨_, State.topJava?_setTop' (s := T.setVm vm1) _ X.here.top, [.int 8, .int 100], rest, rfl, rfl, ?_⟩
  simp only [List.mapM_cons, List.mapM_nil, wp_bind', wp_pure']
  have eS : ((T.setTop (F0 m pc ls (.int 100 :: .int 8 :: rest))).setVm vm1).setTop (F0 m pc ls rest) = (T.setVm vm1).setTop (F0 m pc ls rest) := by
    show ((T.setVm vm1).setTop _).setTop _ = _
    rw [State.setTop_setTop]
  refine Eq.mpr (congrArg (fun q => wp _ _ _ _ _ _ q) eS) ?_
  refine g_all X1 (kA := kA1) (kI := kI1) (comp := cc2) hkA1 (by rw [heA]; exact f4) hkI1 (by rw [heI]; exact g3) r1 r2 (fun d' acts' => ?_)
  simp only [wp_bind', W.mark, W.pushRef, State.topJava?_setTop' _ XF.here.top, Option.some.injEq, exists_eq_left', State.setTop_setTop, State.heap_setTop]
  intro acts
  simp [jvm, XF.here.top]
  have ez : T.heap.size = H.size := by rw [hT]
  rw [ez]
  exact st
