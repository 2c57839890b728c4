/-! THE CONSTRUCTORS: the cells lie one behind another from the law's first on -/
abbrev z0 (B : KB) : Nat := B.2.2.2.2.size
def Hn (B : KB) (al : List va_E) (H : Heap) : Prop := H.size = z0 B + al.length ∧ (∀ (k : Nat) (e : va_E), al[k]? = some e → va_at (B.2.1, B.2.2.1) vwCl (z0 B + k, e) H) ∧ ∀ q : Nat, q < z0 B → H[q]? = B.2.2.2.2[q]?
def nwC : List (String × Nat × MethodName × String) := [("GriefEngine", 11, yX4_init, "GriefEngine"), ("GriefEngine$Rank", 11, yX3_init, "GriefEngine"), ("GriefEngine$Rank", 14, yX0_init, "GriefEngine"), ("GriefEngine$Keeper", 1, yX3_init, "GriefEngine"), ("GriefEngine$Rank", 17, yX6_init, "GriefEngine"), ("GriefEngine$Sham", 1, yX3_init, "GriefEngine"), ("GriefEngine$Rank", 20, yX7_init, "GriefEngine"), ("GriefEngine$Spring", 3, yX3_init, "GriefEngine"), ("GriefEngine$Rank", 23, yX8_init, "GriefEngine"), ("GriefEngine$Teller", 1, yX0_init, "GriefEngine"), ("GriefEngine$Rank", 26, yX1_init, "GriefEngine"), ("GriefEngine$Old", 1, yX7_init, "GriefEngine"), ("GriefEngine", 29, yX9_init, "GriefEngine"), ("GriefEngine$Rows", 21, yX3_init, "GriefEngine"), ("GriefEngine", 43, yX2_init, "GriefEngine")]
def ksub : List String := ["GriefEngine$Keeper", "GriefEngine$Sham", "GriefEngine$Spring", "GriefEngine$Teller", "GriefEngine$Old"]
/-- the array class over int[] -/
def AOI (U : State) : Prop := ∃ (comp c : ClassId) (k : Class), U.vm.findClass (FieldType.array .int).toString = some comp ∧ (U.vm.classes.findIdx? fun (x : Class) => match x.kind with | .array component _ => component == comp | _ => false) = some c ∧ U.vm.classes[c]? = some k ∧ k.kind = .array comp (.array .int) ∧ U.vm.findClass ("[" ++ (FieldType.array .int).toString) = some c
theorem AOI.moved {u U : State} (hvm : u.vm.Alike U.vm) (h : AOI u) : AOI U := by
  obtain ⟨comp, c, k, h1, h2, h3, h4, h5⟩ := h
  obtain ⟨k', hk', he⟩ := hvm.2.2 _ _ h3
  refine ⟨comp, c, k', by rw [hvm.findClass]; exact h1, ?_, hk', by rw [he]; exact h4, by rw [hvm.findClass]; exact h5⟩
  refine (va_idx_bare U.vm comp).symm.trans ?_
  first | rw [hvm.bare_eq] | rw [← hvm.bare_eq]
  exact (va_idx_bare u.vm comp).trans h2
theorem AOI.of {A : Array Value} {U : State} (h : (Cond.arrayOver (.array .int)).before A U = true) : AOI U := by
  simp only [Cond.before, Cond.holds, Cond.value, beq_iff_eq] at h
  cases hc : U.vm.findClass (FieldType.array .int).toString with
  | none => simp [hc] at h
  | some comp =>
    simp only [hc, Option.bind_some, Option.bind_eq_some_iff, Option.map_eq_some_iff] at h
    obtain ⟨c, hi, k, hk, hb⟩ := h
    obtain ⟨hlt, hp, -⟩ := Array.findIdx?_eq_some_iff_getElem.mp hi
    have hkk : U.vm.classes[c] = k := (Array.getElem?_eq_some_iff.mp hk).2
    rw [hkk] at hp
    cases hkind : k.kind with
    | array component ty =>
      rw [hkind] at hb hp
      simp at hb hp
      exact ⟨comp, c, k, hc, hi, hk, by rw [hkind, hp, hb.1], hb.2⟩
    | _ => rw [hkind] at hb; simp at hb
theorem AOI.use {A : Array Value} {U : State} (h : AOI U) : (Cond.arrayOver (.array .int)).before A U = true := by
  obtain ⟨comp, c, k, f1, hi, hk', hkind, f2⟩ := h
  unfold Cond.before Cond.holds
  simp only [Cond.value]
  rw [f1, Option.bind_some]
  refine (congrArg (fun o : Option Nat => (o.bind (fun c => (U.vm.classes[c]?).map fun (k : Class) => match k.kind with | .array _ ty => decide (ty = FieldType.array .int) && decide (U.vm.findClass ("[" ++ (FieldType.array .int).toString) = some c) | _ => false) == some true)) hi).trans ?_
  simp [hk', hkind, f2]
def KN (U : State) : Prop := (∀ x ∈ nwC, va_Nw (.methodLinkNest x.1 x.2.1 x.2.2.1 x.2.2.2) U) ∧ va_AO "GriefEngine$Plain" U ∧ va_AO "GriefEngine$Rank" U ∧ AOI U ∧ ∀ c ∈ ksub, va_Nw (.castable c "GriefEngine$Plain") U
theorem KN.warm {s U : State} (hW : s.WarmedH U.vm) (h : KN s) : KN U := ⟨fun x hx => va_Nw.warmM hW (h.1 x hx), va_AO.moved hW.alike h.2.1, va_AO.moved hW.alike h.2.2.1, AOI.moved hW.alike h.2.2.2.1, fun c hc => va_Nw.warmC hW (h.2.2.2.2 c hc)⟩
theorem KN.same {s U : State} (hW : s.vm = U.vm) (h : KN s) : KN U := by
  have e : s.vm.Alike U.vm := by rw [hW]; exact Vm.Alike.refl _
  exact ⟨fun x hx => va_Nw.same rfl hW (h.1 x hx), va_AO.moved e h.2.1, va_AO.moved e h.2.2.1, AOI.moved e h.2.2.2.1, fun c hc => va_Nw.same rfl hW (h.2.2.2.2 c hc)⟩
def Wn (B : KB) (X : KE) (nL c s : Nat) (pre l : List va_E) (pc : Nat) (lv : List (Nat × Value)) (st : List Value) : Prop :=
  ∀ (H : Heap) (locs : List Loc) (ls : Array Slot), Hn B (pre ++ l) H → (∀ q ∈ locs, z0 B ≤ q.base) → lv_has ls nL lv →
    W X.1 X.2.1 X.2.2.1 X.2.2.2.1 X.2.2.2.2.1 X.2.2.2.2.2.1 X.2.2.2.2.2.2.1 X.2.2.2.2.2.2.2.1 X.2.2.2.2.2.2.2.2.1 X.2.2.2.2.2.2.2.2.2.1 H locs c s X.2.2.2.2.2.2.2.2.2.2.2.2 (F0 X.2.2.2.2.2.1 pc ls st)
def Cn (B : KB) (X : KE) (own : String) (cc : ByteArray) (nL d MC MS : Nat) : Prop := Cx B X own cc nL d ∧ KN X.2.2.2.2.1 ∧ X.2.2.2.1.cells = MC ∧ X.2.2.2.1.slots = MS
abbrev Rn (d mc ms : Nat) : Room := { frames := d, cells := mc, slots := ms, locals := 64 * d }
/-- a constructor's contract: it makes mc cells of ms slots, the cells are al' then -/
def Kn (B : KB) (l : Launch) (d : Nat) (y : MethodName) (cc : ByteArray) (maxL mc ms : Nat) (al : List va_E) (as : List Value) (al' : List va_E) : Prop :=
  Met l y (Cond.code y cc maxL none :: GW) (Rn d mc ms) (va_Pc as (fun U => Hn B al U.heap ∧ KK B U ∧ KN U)) (fun _ _ oc t => oc = .returned none ∧ Hn B al' t.heap) mc ms (fun q : Nat => z0 B ≤ q)
theorem Kn.of {B : KB} {l : Launch} {d : Nat} {y : MethodName} {cc : ByteArray} {maxL mc ms : Nat} {pre l0 l1 : List va_E} {as : List Value} (hy : plainName y.cls = true) (hyn : y.name = "<init>") (ha : (lg_sl as).length ≤ maxL)
    (body : ∀ X : KE, X.2.1 = l → Cn B X y.cls cc maxL d mc ms → X.2.2.2.2.2.2.2.2.1.name = "<init>" → X.2.2.2.2.2.2.2.2.1.sig.returnType = none → X.2.2.2.2.2.2.2.2.1.locks = false → X.2.2.2.2.2.2.2.2.2.2.2.2 = MQ X.2.2.2.2.2.2.2.1 (fun _ _ oc t => oc = .returned none ∧ Hn B (pre ++ l1) t.heap) X.2.2.2.2.2.2.1 X.2.2.2.2.1 mc ms (fun q : Nat => z0 B ≤ q) → Wn B X maxL 0 0 pre l0 0 (lv_args 0 as) []) : Kn B l d y cc maxL mc ms (pre ++ l0) as (pre ++ l1) := by
  refine Met.ofW (cc := cc) (maxL := maxL) (ret := none) hy rfl ?_
  intro p e s m args below meth c s₁ Bd hml hv
  obtain ⟨rfl, hH, hK, hN⟩ := hv
  have hts := atoms_spec (ws := Cond.code y cc maxL none :: GW) Bd.pre
  have hown : s.vm.findClass y.cls = some m.cls := findClass_of_methodNamed Bd.named
  have hnm : meth.name = y.name := (name_of_methodNamed Bd.named Bd.method).1
  have hl := lv_entry as (n := maxL) ha
  rw [lg_entry_eq]
  exact body (p, l, e, _, s, m, as.toArray, below, meth, c, 0, 0, _) rfl ⟨⟨Bd.exec, Bd.bytes, hml, hown, fun w hw => hts w (List.mem_cons_of_mem _ hw), hK, Nat.le_refl _, Nat.le_refl _, Nat.zero_le _, Nat.zero_le _⟩, hN, rfl, rfl⟩ (hnm.trans hyn) Bd.returns Bd.notSynchronized rfl s.heap [] _ hH (fun q hq => by cases hq) hl
section NR
variable {B : KB} {X : KE} {own : String} {cc : ByteArray} {nL d MC MS c s : Nat} {pre l : List va_E} {pc : Nat} {lv : List (Nat × Value)} {st : List Value}
theorem n_aload_n (C : Cn B X own cc nL d MC MS) {kf : Fin 4} {x : Nat} (hd : decode cc pc = .ok (.aload_n kf, 1)) (j : Nat) (hj : lv[j]? = some ((kf : Nat), .ref x)) (k : Wn B X nL c s pre l (pc + 1) lv (.ref x :: st)) : Wn B X nL c s pre l pc lv st := fun H locs ls hH hL hl => lv_aload_n C.1.1 C.1.2.1 hd rfl (lv_at hl j hj) (k H locs ls hH hL hl)
theorem n_astore_n (C : Cn B X own cc nL d MC MS) {kf : Fin 4} {x : Nat} (lv' : List (Nat × Value)) (hd : decode cc pc = .ok (.astore_n kf, 1)) (hn : (kf : Nat) < nL) (hf : ((kf : Nat), Value.ref x) :: lv.filter (fun q => !(q.1 == (kf : Nat)) && !(q.1 + 1 == (kf : Nat) && q.2.category == 2)) = lv') (k : Wn B X nL c s pre l (pc + 1) lv' st) : Wn B X nL c s pre l pc lv (.ref x :: st) := fun H locs ls hH hL hl => lv_astore_n C.1.1 C.1.2.1 hd rfl hl hn hf (fun ls' hl' => k H locs ls' hH hL hl')
theorem n_dup (C : Cn B X own cc nL d MC MS) {va : Value} (hd : decode cc pc = .ok (.dup, 1)) (hv : va.category = 1) (k : Wn B X nL c s pre l (pc + 1) lv (va :: va :: st)) : Wn B X nL c s pre l pc lv (va :: st) := fun H locs ls hH hL hl => lv_dup C.1.1 C.1.2.1 hd hv (k H locs ls hH hL hl)
theorem n_iconst (C : Cn B X own cc nL d MC MS) {n : Int} {v : Int32} (hd : decode cc pc = .ok (.iconst n, 1)) (hv : Int32.ofInt n = v) (k : Wn B X nL c s pre l (pc + 1) lv (.int v :: st)) : Wn B X nL c s pre l pc lv st := fun H locs ls hH hL hl => lv_iconst C.1.1 C.1.2.1 hd hv (k H locs ls hH hL hl)
theorem n_bipush (C : Cn B X own cc nL d MC MS) {n : Int} {v : Int32} (hd : decode cc pc = .ok (.bipush n, 2)) (hv : (Int8.ofInt n).toInt32 = v) (k : Wn B X nL c s pre l (pc + 2) lv (.int v :: st)) : Wn B X nL c s pre l pc lv st := fun H locs ls hH hL hl => lv_bipush C.1.1 C.1.2.1 hd hv (k H locs ls hH hL hl)
theorem n_sipush (C : Cn B X own cc nL d MC MS) {n : Int} {v : Int32} (hd : decode cc pc = .ok (.sipush n, 3)) (hv : (Int16.ofInt n).toInt32 = v) (k : Wn B X nL c s pre l (pc + 3) lv (.int v :: st)) : Wn B X nL c s pre l pc lv st := fun H locs ls hH hL hl => lv_sipush C.1.1 C.1.2.1 hd hv (k H locs ls hH hL hl)
theorem n_lconst (C : Cn B X own cc nL d MC MS) {n : Fin 2} {v : Int64} (hd : decode cc pc = .ok (.lconst n, 1)) (hv : Int64.ofNat (n : Nat) = v) (k : Wn B X nL c s pre l (pc + 1) lv (.long v :: st)) : Wn B X nL c s pre l pc lv st := fun H locs ls hH hL hl => lv_lconst C.1.1 C.1.2.1 hd hv (k H locs ls hH hL hl)
theorem n_obj (C : Cn B X own cc nL d MC MS) (hdp : 1 ≤ d) {idx a : Nat} (hlink : Cond.methodLink own idx Lib.objectInit ∈ GW) (hinst : Cond.instanceMethod Lib.objectInit ∈ GW) (hcode : Cond.code Lib.objectInit ⟨#[0xb1]⟩ 1 none ∈ GW) (hst : (st.map fun v => v.category).sum ≤ 8) (hd : decode cc pc = .ok (.invokespecial idx, 3)) (k : Wn B X nL c s pre l (pc + 3) lv st) : Wn B X nL c s pre l pc lv (.ref a :: st) := fun H locs ls hH hL hl => by
  have hts := C.1.2.2.2.2.1
  refine W.objInit C.1.1 C.1.2.1 C.1.2.2.2.1 (hts _ hlink) (hts _ hinst) (hts _ hcode) rfl (hl.1.trans C.1.2.2.1.symm) rfl hd (Nat.le_trans hdp C.1.2.2.2.2.2.2.1) ?_ (k H locs ls hH hL hl)
  have e2 := C.1.2.2.2.2.2.2.2.1
  show 2 * 0 + _ + 12 ≤ _
  omega
theorem Hn.push {al : List va_E} {H H1 : Heap} {e : va_E} (hH : Hn B al H) (z1 : H1.size = H.size + 1) (o1 : ∀ q, q < H.size → H1[q]? = H[q]?) (he : va_at (B.2.1, B.2.2.1) vwCl (H.size, e) H1) : Hn B (al ++ [e]) H1 := by
  refine ⟨by rw [z1, hH.1, List.length_append]; rfl, fun k x hx => ?_, fun q hq => (o1 q (by rw [hH.1]; omega)).trans (hH.2.2 q hq)⟩
  by_cases hk : k < al.length
  · rw [List.getElem?_append_left hk] at hx
    have h1 := hH.2.1 k x hx
    exact h1.kept (o1 _ h1.lt)
  · rw [List.getElem?_append_right (by omega)] at hx
    have hz : k - al.length < 1 := (List.getElem?_eq_some_iff.mp hx).1
    rw [show k - al.length = 0 by omega] at hx
    cases hx
    rw [show z0 B + k = H.size by rw [hH.1]; omega]
    exact he
theorem Hn.set {al : List va_E} {H H1 : Heap} {e0 e : va_E} {k : Nat} (hH : Hn B al H) (hk : al[k]? = some e0) (z1 : H1.size = H.size) (o1 : ∀ q, q ≠ z0 B + k → H1[q]? = H[q]?) (he : va_at (B.2.1, B.2.2.1) vwCl (z0 B + k, e) H1) : Hn B (al.set k e) H1 := by
  have hl := (List.getElem?_eq_some_iff.mp hk).1
  refine ⟨by rw [z1, hH.1, List.length_set], fun j x hx => ?_, fun q hq => (o1 q (by omega)).trans (hH.2.2 q hq)⟩
  by_cases hj : j = k
  · subst hj
    rw [List.getElem?_set_self hl] at hx
    cases hx
    exact he
  · rw [List.getElem?_set_ne (Ne.symm hj)] at hx
    exact (hH.2.1 j x hx).kept (o1 _ (by show z0 B + j ≠ z0 B + k; omega))
theorem n_new (C : Cn B X own cc nL d MC MS) {ci N idx : Nat} {Cl : String} {Tb : u_T} {ty : Nat → FieldType} (fs : List Value) (l' : List va_E) (m : Nat) (hc : vwCl[ci]? = some (Cl, Tb, N)) (hin : ∀ w ∈ u_ws Cl Tb N, w ∈ GW) (hty : ∀ k, k < N → parseFieldDescriptor (Tb k).2.2.1 = some (ty k)) (hcl : Cond.classLink own idx Cl ∈ GW) (hinst : Cond.instantiable Cl N ∈ GW) (hini : Cond.initialized Cl ∈ GW) (hfs : ∀ j, j < N → defaultValue (ty j) = vp_V fs j) (h1 : c + 1 ≤ MC) (h2 : s + N ≤ MS) (hd : decode cc pc = .ok (.new idx, 3)) (hl' : l ++ [.inr (ci, fs)] = l') (hm : l.length = m) (kk : Wn B X nL (c + 1) (s + N) pre l' (pc + 3) lv (.ref (z0 B + (pre.length + m)) :: st)) : Wn B X nL c s pre l pc lv st := fun H locs ls hH hL hl => by
  subst hl'; subst hm
  have hts := C.1.2.2.2.2.1
  have hKn := C.1.2.2.2.2.2.1.1.1 ci _ hc
  refine W.newcK C.1.1 C.1.2.1 C.1.2.2.2.1 (hts _ hcl) (hts _ hinst) (hts _ hini) rfl hd (by rw [C.2.2.1]; exact h1) (by rw [C.2.2.2]; exact h2) hKn.2.1 rfl fun H1 kC hkC e1 z1 o1 => ?_
  have e9 : H.size = z0 B + (pre.length + l.length) := by rw [hH.1, List.length_append]
  have hH1 : Hn B (pre ++ l ++ [.inr (ci, fs)]) H1 := hH.push z1 o1 ⟨_, hc, (u_born ty hts hin hKn hkC e1 hty).to hfs⟩
  rw [List.append_assoc] at hH1
  rw [e9]
  exact kk H1 locs ls hH1 hL hl
theorem n_newa (C : Cn B X own cc nL d MC MS) {atype : ArrayType} (t N : Nat) {ty : FieldType} {n : Int32} (l' : List va_E) (m : Nat) (hty : newarray.typeOf atype = ty) (harr : Cond.arrayClass ty ∈ GW) (ht : (ktys B)[t]? = some (B.2.2.2.1 t, ty)) (hra : ∀ (U : State) (cA : ClassId), va_RA U cA ty → U.vm.findClass ("[" ++ ty.toString) = some cA) (ha : ∀ cA : ClassId, vp_cell cA (N, .inl (fun _ => 0)) = arrV cA N (fun _ => defaultValue ty)) (hn : ¬ n < 0) (hN : n.toNatClampNeg = N) (hby : N * componentBytes ty ≤ 536870912) (h1 : c + 1 ≤ MC) (h2 : s + N ≤ MS) (hd : decode cc pc = .ok (.newarray atype, 2)) (hl' : l ++ [.inl (B.2.2.2.1 t, N, .inl (fun _ => 0))] = l') (hm : l.length = m) (kk : Wn B X nL (c + 1) (s + N) pre l' (pc + 2) lv (.ref (z0 B + (pre.length + m)) :: st)) : Wn B X nL c s pre l pc lv (.int n :: st) := fun H locs ls hH hL hl => by
  subst hl'; subst hm; subst hty
  have hts := C.1.2.2.2.2.1
  refine va_newaK C.1.1 C.1.2.1 (hts _ harr) rfl hd rfl hn hN hby (by rw [C.2.2.1]; exact h1) (by rw [C.2.2.2]; exact h2) rfl fun H1 cA e1 z1 o1 _ f1 => ?_
  have ec : cA = B.2.2.2.1 t := Option.some.inj (f1.symm.trans (hra _ _ (C.1.2.2.2.2.2.1.1.2 t _ ht).2))
  subst ec
  have e9 : H.size = z0 B + (pre.length + l.length) := by rw [hH.1, List.length_append]
  have hH1 : Hn B (pre ++ l ++ [.inl (B.2.2.2.1 t, N, .inl (fun _ => 0))]) H1 := hH.push z1 o1 (by show H1[H.size]? = some (vp_cell _ _); rw [ha]; exact e1)
  rw [List.append_assoc] at hH1
  rw [e9]
  exact kk H1 locs ls hH1 hL hl
theorem n_newq (C : Cn B X own cc nL d MC MS) (t N : Nat) {Cl : String} {idx : Nat} {n : Int32} (l' : List va_E) (m : Nat) (hcl : Cond.classLink own idx Cl ∈ GW) (hov : va_AO Cl X.2.2.2.2.1) (ht : (ktys B)[t]? = some (B.2.2.2.1 t, .object Cl)) (hn : ¬ n < 0) (hN : n.toNatClampNeg = N) (hby : N * 4 ≤ 536870912) (h1 : c + 1 ≤ MC) (h2 : s + N ≤ MS) (hd : decode cc pc = .ok (.anewarray idx, 3)) (hl' : l ++ [.inl (B.2.2.2.1 t, N, .inr (.inr (.inr (.inr (fun _ => none)))))] = l') (hm : l.length = m) (kk : Wn B X nL (c + 1) (s + N) pre l' (pc + 3) lv (.ref (z0 B + (pre.length + m)) :: st)) : Wn B X nL c s pre l pc lv (.int n :: st) := fun H locs ls hH hL hl => by
  subst hl'; subst hm; subst hN
  have hts := C.1.2.2.2.2.1
  refine W.anew C.1.1 C.1.2.1 C.1.2.2.2.1 (hts _ hcl) (va_AO.use hov) rfl hd rfl hn hby (by rw [C.2.2.1]; exact h1) (by rw [C.2.2.2]; exact h2) fun cA kA comp f1 f2 f3 f4 => ?_
  generalize hH1 : H.push ({ cls := cA, slots := Array.replicate n.toNatClampNeg .null, vm := .none } : Cell) = H1
  have z1 : H1.size = H.size + 1 := by rw [← hH1, Array.size_push]
  have e1 : H1[H.size]? = some (arrV cA n.toNatClampNeg (fun _ => .null)) := by rw [← hH1, Array.getElem?_push_size, ← arrV_new]
  have o1 : ∀ q : Nat, q < H.size → H1[q]? = H[q]? := fun q hq => by rw [← hH1, Array.getElem?_push, if_neg (Nat.ne_of_lt hq)]
  obtain ⟨kA2, comp2, g1, g2, g3, g4⟩ := (C.1.2.2.2.2.2.1.1.2 t _ ht).2
  have ec : cA = B.2.2.2.1 t := Option.some.inj (f1.symm.trans g4)
  subst ec
  have e9 : H.size = z0 B + (pre.length + l.length) := by rw [hH.1, List.length_append]
  have hH1 : Hn B (pre ++ l ++ [.inl (B.2.2.2.1 t, n.toNatClampNeg, .inr (.inr (.inr (.inr (fun _ => none)))))]) H1 := hH.push z1 o1 (by show H1[H.size]? = some (vp_cell _ _); rw [vp_cell_q]; exact e1)
  rw [List.append_assoc] at hH1
  rw [e9]
  exact kk H1 locs ls hH1 hL hl
theorem gpre {j : Nat} {e : va_E} (h : l[j]? = some e) : (pre ++ l)[pre.length + j]? = some e := by
  rw [List.getElem?_append_right (by omega), Nat.add_sub_cancel_left]
  exact h
theorem spre {j : Nat} {e : va_E} : (pre ++ l).set (pre.length + j) e = pre ++ l.set j e := by
  rw [List.set_append_right _ _ (by omega), Nat.add_sub_cancel_left]
theorem n_putF (C : Cn B X own cc nL d MC MS) (hin2 : X.2.2.2.2.2.2.2.2.1.name = "<init>") {ci k idx N : Nat} {ref Cl : String} {Tb : u_T} {fs : List Value} {v : Value} {ty0 : Nat → FieldType} {ty : FieldType} (j : Nat) (l' : List va_E) (hk0 : l[j]? = some (.inr (ci, fs))) (hc : vwCl[ci]? = some (Cl, Tb, N)) (hin : ∀ w ∈ u_ws Cl Tb N, w ∈ GW) (hty : ∀ k, k < N → parseFieldDescriptor (Tb k).2.2.1 = some (ty0 k)) (hnm : ∀ a, a < N → ∀ b, b < N → a ≠ b → (Tb a).2.1 ≠ (Tb b).2.1) (hk : k < N) (href : (Tb k).1 = ref) (hdecl : (Tb k).1 = own) (hlink : Cond.fieldLink own idx ref (Tb k).2.1 (Tb k).2.2.1 ∈ GW) (hfin : (Tb k).2.2.2 = true) (hpd : parseFieldDescriptor (Tb k).2.2.1 = some ty) (hn : narrow ty v = v) (hfit : fits ty v = true) (hl9 : k < fs.length) (hl' : l.set j (.inr (ci, fs.set k v)) = l') (hd : decode cc pc = .ok (.putfield idx, 3)) (kk : Wn B X nL c s pre l' (pc + 3) lv st) : Wn B X nL c s pre l pc lv (v :: .ref (z0 B + (pre.length + j)) :: st) := fun H locs ls hH hL hl => by
  subst hl'; subst href
  have hts := C.1.2.2.2.2.1
  have hK := C.1.2.2.2.2.2.1.1
  have hown := C.1.2.2.2.1
  have hap := va_apart (own := own) hts hin ty0 hty hnm hK hc
  obtain ⟨r, h1, cell, q1, q2, q3, q4⟩ := hH.2.1 _ _ (gpre (pre := pre) hk0)
  have hr : r = (Cl, Tb, N) := Option.some.inj (h1.symm.trans hc)
  subst hr
  obtain ⟨hS, hfc, kC, hkC, hkind⟩ := hK.1 ci _ hc
  obtain ⟨cf, kf, fi, f, hi, hsl⟩ := hS k hk
  have hlay := hts _ (hin _ (u_in_lay hk))
  unfold u_lay at hlay
  rw [if_pos hfin] at hlay
  have hst := (u_facts hfc hkC (u_lays hts hin hk) hi).1
  have hcf : X.2.2.2.2.2.1.cls = cf := by
    obtain ⟨_, _, c', _, _, _, -, -, hf', -, -, -, hown2, -⟩ := Cond.laysFinal_spec hlay
    have e1 : c' = cf := by have := hi.symm.trans hf'; simp at this; exact this.1.symm
    rw [hdecl] at hown2
    rw [← e1]; exact Option.some.inj (hown.symm.trans hown2)
  have h6 := u_fits hfc hkC hkind (Or.inr hlay) hi hpd hn hfit
  refine W.putFinK C.1.1 C.1.2.1 hown (hts _ hlink) hi hst hcf hin2 (by rw [q2]; exact h6) q1 q3 (by rw [hsl]; exact k2_hasslot (q4 k hk)) rfl rfl hd fun H' e1 e2 e3 => ?_
  rw [hsl] at e1 ⊢
  have hH1 := hH.set (e := .inr (ci, fs.set k v)) (gpre (pre := pre) hk0) e2 e3 ⟨_, hc, t_OB.to (V := updV (vp_V fs) k v) ⟨_, e1, q2, q3, t_set q4 hap hk v⟩ (fun j _ => vp_updV_set hl9 v j)⟩
  rw [spre] at hH1
  exact kk H' _ ls hH1 (fun q hq => by
    rcases List.mem_append.mp hq with h | h
    · exact hL q h
    · rw [List.mem_singleton.mp h]
      show z0 B ≤ z0 B + (pre.length + j)
      omega) hl
theorem n_put (C : Cn B X own cc nL d MC MS) {ci k idx N : Nat} {ref Cl : String} {Tb : u_T} {fs : List Value} {v : Value} {ty0 : Nat → FieldType} {ty : FieldType} (j : Nat) (l' : List va_E) (hk0 : l[j]? = some (.inr (ci, fs))) (hc : vwCl[ci]? = some (Cl, Tb, N)) (hin : ∀ w ∈ u_ws Cl Tb N, w ∈ GW) (hty : ∀ k, k < N → parseFieldDescriptor (Tb k).2.2.1 = some (ty0 k)) (hnm : ∀ a, a < N → ∀ b, b < N → a ≠ b → (Tb a).2.1 ≠ (Tb b).2.1) (hk : k < N) (href : (Tb k).1 = ref) (hlink : Cond.fieldLink own idx ref (Tb k).2.1 (Tb k).2.2.1 ∈ GW) (hfin : (Tb k).2.2.2 = false) (hpd : parseFieldDescriptor (Tb k).2.2.1 = some ty) (hn : narrow ty v = v) (hfit : fits ty v = true) (hl9 : k < fs.length) (hl' : l.set j (.inr (ci, fs.set k v)) = l') (hd : decode cc pc = .ok (.putfield idx, 3)) (kk : Wn B X nL c s pre l' (pc + 3) lv st) : Wn B X nL c s pre l pc lv (v :: .ref (z0 B + (pre.length + j)) :: st) := fun H locs ls hH hL hl => by
  subst hl'; subst href
  have hts := C.1.2.2.2.2.1
  have hK := C.1.2.2.2.2.2.1.1
  have hown := C.1.2.2.2.1
  have hap := va_apart (own := own) hts hin ty0 hty hnm hK hc
  obtain ⟨r, h1, cell, q1, q2, q3, q4⟩ := hH.2.1 _ _ (gpre (pre := pre) hk0)
  have hr : r = (Cl, Tb, N) := Option.some.inj (h1.symm.trans hc)
  subst hr
  obtain ⟨hS, hfc, kC, hkC, hkind⟩ := hK.1 ci _ hc
  obtain ⟨cf, kf, fi, f, hi, hsl⟩ := hS k hk
  have hlay := hts _ (hin _ (u_in_lay hk))
  unfold u_lay at hlay
  rw [if_neg (by rw [hfin]; decide)] at hlay
  have hst := (u_facts hfc hkC (u_lays hts hin hk) hi).1
  have h6 := u_store hfc hkC hkind hlay hi hpd hn hfit
  refine W.putK C.1.1 C.1.2.1 (f := f) ⟨hown, hts _ hlink, ⟨_, _, _, hi⟩, hst⟩ (by rw [q2]; exact h6) q1 q3 (by rw [hsl]; exact k2_hasslot (q4 k hk)) rfl rfl hd fun H' e1 e2 e3 => ?_
  rw [hsl] at e1 ⊢
  have hH1 := hH.set (e := .inr (ci, fs.set k v)) (gpre (pre := pre) hk0) e2 e3 ⟨_, hc, t_OB.to (V := updV (vp_V fs) k v) ⟨_, e1, q2, q3, t_set q4 hap hk v⟩ (fun j _ => vp_updV_set hl9 v j)⟩
  rw [spre] at hH1
  exact kk H' _ ls hH1 (fun q hq => by
    rcases List.mem_append.mp hq with h | h
    · exact hL q h
    · rw [List.mem_singleton.mp h]
      show z0 B ≤ z0 B + (pre.length + j)
      omega) hl
theorem n_aast (C : Cn B X own cc nL d MC MS) (t j jv N : Nat) {Cl : String} {i : Int32} {f : Nat → Option Nat} {civ : Nat} {fsv : List Value} {r : vw_C} (l' : List va_E) (hk0 : l[j]? = some (.inl (B.2.2.2.1 t, N, .inr (.inr (.inr (.inr f)))))) (hkv : l[jv]? = some (.inr (civ, fsv))) (hcv : vwCl[civ]? = some r) (ht : (ktys B)[t]? = some (B.2.2.2.1 t, .object Cl)) (hasg : ∀ comp c0 : ClassId, X.2.2.2.2.1.vm.findClass Cl = some comp → X.2.2.2.2.1.vm.findClass r.1 = some c0 → X.2.2.2.2.1.vm.assignable c0 comp = true) (hin : inb i N) (hl' : l.set j (.inl (B.2.2.2.1 t, N, .inr (.inr (.inr (.inr (va_up f i.toNatClampNeg (some (z0 B + (pre.length + jv))))))))) = l') (hd : decode cc pc = .ok (.aastore, 1)) (kk : Wn B X nL c s pre l' (pc + 1) lv st) : Wn B X nL c s pre l pc lv (.ref (z0 B + (pre.length + jv)) :: .int i :: .ref (z0 B + (pre.length + j)) :: st) := fun H locs ls hH hL hl => by
  subst hl'
  have hK := C.1.2.2.2.2.2.1.1
  have hlt : i.toNatClampNeg < N := inb_lt hin
  have h0 : ¬ i < 0 := fun q => hin (Or.inl q)
  have ha := hH.2.1 _ _ (gpre (pre := pre) hk0)
  have hv := hH.2.1 _ _ (gpre (pre := pre) hkv)
  have hPv : va_P (B.2.1, B.2.2.1) vwCl [(z0 B + (pre.length + jv), .inr (civ, fsv))] H := fun k q hq => by
    have hz : k < 1 := (List.getElem?_eq_some_iff.mp hq).1
    rw [show k = 0 by omega] at hq
    cases hq
    exact hv
  obtain ⟨cellV, g1, g3, ⟨kC, hkC⟩, hasg2⟩ := va_rAny (q0 := 0) hK hPv rfl hcv hasg
  obtain ⟨kA, comp, k1, k2, k3, -⟩ := (hK.2 t _ ht).2
  obtain ⟨kE, hkE, -⟩ := Vm.findClass_spec k3
  refine W.aast C.1.1 C.1.2.1 ha (fun q h => by cases h) (fun h => by cases h) k1 k2 rfl hkE ⟨h0, by show _ < (arrV _ _ _).slots.size; rw [arrV_size]; exact hlt⟩ g1 (fun q h => by rw [h] at g3; cases g3) hkC (hasg2 _ k3) rfl rfl hd fun H1 e z oq => ?_
  have hH1 := hH.set (e := .inl (B.2.2.2.1 t, N, .inr (.inr (.inr (.inr (va_up f i.toNatClampNeg (some (z0 B + (pre.length + jv))))))))) (gpre (pre := pre) hk0) z oq (by
    show H1[_]? = some (vp_cell _ _)
    rw [e, vp_cell_q, vp_cell_q, arrV_store]
    refine congrArg (fun z => some (arrV (B.2.2.2.1 t) N z)) (funext fun j9 => ?_)
    unfold updV va_up
    split <;> rfl)
  rw [spre] at hH1
  exact kk H1 _ ls hH1 (fun q hq => by
    rcases List.mem_append.mp hq with h | h
    · exact hL q h
    · rw [List.mem_singleton.mp h]
      show z0 B ≤ z0 B + (pre.length + j)
      omega) hl
theorem n_ret (C : Cn B X own cc nL d MC MS) (hr : X.2.2.2.2.2.2.2.2.1.sig.returnType = none) (hlk : X.2.2.2.2.2.2.2.2.1.locks = false) (hQ : X.2.2.2.2.2.2.2.2.2.2.2.2 = MQ X.2.2.2.2.2.2.2.1 (fun _ _ oc t => oc = .returned none ∧ Hn B (pre ++ l) t.heap) X.2.2.2.2.2.2.1 X.2.2.2.2.1 MC MS (fun q : Nat => z0 B ≤ q)) (h1 : c ≤ MC) (h2 : s ≤ MS) (hd : decode cc pc = .ok (.return_, 1)) : Wn B X nL c s pre l pc lv [] := fun H locs ls hH hL hl => by
  rw [hQ]
  refine W.widen (k := MC) (n := MS) h1 h2 ?_
  exact W.vret C.1.1 C.1.2.1 hr (fun t ht _ => ⟨rfl, by rw [ht]; exact hH⟩) hL hd hlk
theorem n_blind {al : List va_E} {as : List Value} : FrameBlind (va_Pc as (fun U => Hn B al U.heap ∧ KK B U ∧ KN U)) := fun a U g mk q => by
  obtain ⟨q0, qH, qK, qN⟩ := q
  exact ⟨q0, qH, KK.same rfl qK, KN.same rfl qN⟩
theorem n_run {H : Heap} {locs : List Loc} {ls : Array Slot} {st0 rest : List Value} {mc ms : Nat} {al : List va_E} {l' : List va_E} (hal : al = pre ++ l') (hL : ∀ q ∈ locs, z0 B ≤ q.base)
    (hr : va_Run X.1 X.2.1 X.2.2.1 X.2.2.2.1 X.2.2.2.2.1 X.2.2.2.2.2.1 X.2.2.2.2.2.2.1 X.2.2.2.2.2.2.2.1 X.2.2.2.2.2.2.2.2.1 X.2.2.2.2.2.2.2.2.2.1 H locs c s mc ms (F0 X.2.2.2.2.2.1 pc ls st0) rest (fun _ oc t => oc = .returned none ∧ Hn B al t.heap) (fun q : Nat => z0 B ≤ q))
    (hl : lv_has ls nL lv) (kk : Wn B X nL (c + mc) (s + ms) pre l' (pc + 3) lv rest) :
    W X.1 X.2.1 X.2.2.1 X.2.2.2.1 X.2.2.2.2.1 X.2.2.2.2.2.1 X.2.2.2.2.2.2.1 X.2.2.2.2.2.2.2.1 X.2.2.2.2.2.2.2.2.1 X.2.2.2.2.2.2.2.2.2.1 H locs c s X.2.2.2.2.2.2.2.2.2.2.2.2 (F0 X.2.2.2.2.2.1 pc ls st0) := by
  subst hal
  intro T9 hT9 X9
  obtain ⟨v, st₀, t, T', L, h0, X', hL', e1, e2, ⟨hv, hH1⟩, stp⟩ := hr T9 hT9 X9
  cases hv
  obtain ⟨t2, a1, b1⟩ := kk T'.heap (locs ++ L) ls (by rw [e1]; exact hH1) (fun q hq => by
    rcases List.mem_append.mp hq with h | h
    · exact hL q h
    · exact hL' q h) hl T' rfl X'
  exact ⟨t2, stp t2 a1, b1⟩
theorem roomN {d d' maxL mc ms : Nat} {R : Room} (h : d' < d) (hm : maxL ≤ 45) (h1 : d ≤ R.frames) (h2 : 64 * d ≤ R.locals) : (Rn d' mc ms).frames + 1 ≤ R.frames ∧ 8 + (maxL + 11) + (Rn d' mc ms).locals ≤ R.locals := by
  constructor
  · show d' + 1 ≤ R.frames
    omega
  · show 8 + (maxL + 11) + 64 * d' ≤ R.locals
    omega
/-- a constructor of a nest mate that is private -/
theorem n_callN {idx : Nat} {y : MethodName} {c2 : ByteArray} {maxL d' mc ms : Nat} {host : String} {l0 lc l' : List va_E} {obj : va_E} {a : Nat} {rest : List Value} (C : Cn B X own cc nL d MC MS) (hnw : va_Nw (.methodLinkNest own idx y host) X.2.2.2.2.1) (hy1 : y.name = "<init>") (l2 : Cond.instanceMethod y ∈ GW) (l3 : Cond.initialized y.cls ∈ GW) (l4 : Cond.code y c2 maxL none ∈ GW) (l5 : y.cls ≠ "java/lang/invoke/MethodHandle" ∧ y.cls ≠ "java/lang/invoke/VarHandle" ∧ (parseMethodDescriptor y.desc).map (fun d => d.parameters.length) = some 0) (l6 : maxL ≤ 45) (hdd : d' < d) (hl0 : l = l0 ++ [obj]) (hk : Kn B X.2.1 d' y c2 maxL mc ms ((pre ++ l0) ++ [obj]) [.ref a] ((pre ++ l0) ++ lc)) (hd : decode cc pc = .ok (.invokespecial idx, 3)) (hW : (rest.map fun v => v.category).sum ≤ 8) (h1 : c + mc ≤ MC) (h2 : s + ms ≤ MS) (hl' : l0 ++ lc = l') (kk : Wn B X nL (c + mc) (s + ms) pre l' (pc + 3) lv rest) : Wn B X nL c s pre l pc lv (.ref a :: rest) := fun H locs ls hH hL hl => by
  subst hl'; subst hl0
  obtain ⟨⟨hx, hb, hml, ho, hts, hK, hf, hlo, hce, hsl⟩, hN, hc1, hc2⟩ := C
  rw [← List.append_assoc] at hH
  refine n_run (List.append_assoc _ _ _) hL (va_runIN (Ts := GW) (As := []) ⟨hx, hb, hml, ho, hts⟩ hk ⟨va_cnB 0 hts (gG_code (L := []) (fun w hw => by cases hw) l4) rfl rfl rfl hnw (hts _ l3) l5 (roomN hdd l6 hf hlo), hy1, hts _ l2⟩ ⟨n_blind, fun U hU hW => ⟨rfl, by rw [hU]; exact hH, KK.warm hW hK, KN.warm hW hN⟩⟩ rfl rfl hl.1 rfl ?_ hd ⟨by rw [hc1]; exact h1, by rw [hc2]; exact h2⟩) hl kk
  show 2 * 0 + _ ≤ 8
  omega
/-- one that is not -/
theorem n_callI {idx : Nat} {y : MethodName} {c2 : ByteArray} {maxL d' mc ms : Nat} {l0 lc l' : List va_E} {obj : va_E} {a : Nat} {rest : List Value} (C : Cn B X own cc nL d MC MS) (hlink : Cond.methodLink own idx y ∈ GW) (hy1 : y.name = "<init>") (l2 : Cond.instanceMethod y ∈ GW) (l3 : Cond.initialized y.cls ∈ GW) (l4 : Cond.code y c2 maxL none ∈ GW) (l5 : y.cls ≠ "java/lang/invoke/MethodHandle" ∧ y.cls ≠ "java/lang/invoke/VarHandle" ∧ (parseMethodDescriptor y.desc).map (fun d => d.parameters.length) = some 0) (l6 : maxL ≤ 45) (hdd : d' < d) (hl0 : l = l0 ++ [obj]) (hk : Kn B X.2.1 d' y c2 maxL mc ms ((pre ++ l0) ++ [obj]) [.ref a] ((pre ++ l0) ++ lc)) (hd : decode cc pc = .ok (.invokespecial idx, 3)) (hW : (rest.map fun v => v.category).sum ≤ 8) (h1 : c + mc ≤ MC) (h2 : s + ms ≤ MS) (hl' : l0 ++ lc = l') (kk : Wn B X nL (c + mc) (s + ms) pre l' (pc + 3) lv rest) : Wn B X nL c s pre l pc lv (.ref a :: rest) := fun H locs ls hH hL hl => by
  subst hl'; subst hl0
  obtain ⟨⟨hx, hb, hml, ho, hts, hK, hf, hlo, hce, hsl⟩, hN, hc1, hc2⟩ := C
  rw [← List.append_assoc] at hH
  refine n_run (List.append_assoc _ _ _) hL (va_runI (Ts := GW) (As := []) ⟨hx, hb, hml, ho, hts⟩ hk (cwI 0 hts (gG_code (L := []) (fun w hw => by cases hw) l4) rfl rfl rfl (hts _ l3) (hts _ hlink) (hts _ l2) hy1 l5 (roomN hdd l6 hf hlo)) ⟨n_blind, fun U hU hW => ⟨rfl, by rw [hU]; exact hH, KK.warm hW hK, KN.warm hW hN⟩⟩ rfl rfl hl.1 rfl ?_ hd ⟨by rw [hc1]; exact h1, by rw [hc2]; exact h2⟩) hl kk
  show 2 * 0 + _ ≤ 8
  omega
end NR
