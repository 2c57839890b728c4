/-! THE WORLD, by groups and fields: a cell is (g, f). g = 0 live, 1 draft, 2 and 3 images (ranks: f = 0 the object, 1 kinds, 2 kind, 3 grief, 4 miles, 5 notes, 6 trips, 7 past, 8 to 13 the six kinds); 4 the engine (0, 1 images, 2 kept, 3 signs, 4 refused); 5 the text (0, 1 bytes); 6 rows (0, 1 before, 2 after, 3 its own plain kind); 7 pairs (0, 1 best, 2 partner); 8, 9 the rows of before, after (f = t + 1); 10 the reference. -/
/-- where each cell lies, the classes, the fields' slots, the array classes, the heap at the law's start -/
abbrev KB : Type := (Nat → Nat → Nat) × (Nat → ClassId) × (Nat → Nat → Nat) × (Nat → ClassId) × Heap
/-- all that changes: arrays of ints, int fields by slot, long fields by slot, a field that holds a kind -/
abbrev TT : Type := (Nat → Nat → Nat → Int32) × (Nat → Nat → Int32) × (Nat → Nat → Int64) × (Nat → Nat × Nat)
abbrev inb (i : Int32) (n : Nat) : Prop := ¬ (i < 0 ∨ n ≤ i.toNatClampNeg)
def sA (T : TT) (g f j : Nat) (x : Int32) : TT := (fun a => if a = g then (fun b => if b = f then (fun i => if i = j then x else T.1 g f i) else T.1 g b) else T.1 a, T.2)
def sI (T : TT) (g k : Nat) (x : Int32) : TT := (T.1, fun a => if a = g then (fun b => if b = k then x else T.2.1 g b) else T.2.1 a, T.2.2)
def sL (T : TT) (g k : Nat) (x : Int64) : TT := (T.1, T.2.1, fun a => if a = g then (fun b => if b = k then x else T.2.2.1 g b) else T.2.2.1 a, T.2.2.2)
def sR (T : TT) (g : Nat) (x : Nat × Nat) : TT := (T.1, T.2.1, T.2.2.1, fun a => if a = g then x else T.2.2.2 a)
def cpA (T : TT) (g0 f0 sp g f dp n : Nat) : TT := (fun a => if a = g then (fun b => if b = f then va_cpy (T.1 g0 f0) (T.1 g f) sp dp n else T.1 g b) else T.1 a, T.2)
def kn (g f : Nat) : Nat := if g = 6 then 0 else f - 8
def ciK (k : Nat) : Nat := match k with
  | 0 => 3
  | 1 => 0
  | 2 => 6
  | 3 => 7
  | 4 => 8
  | _ => 1
def kok (g f : Nat) : Prop := (g = 6 ∧ f = 3) ∨ (g < 4 ∧ 8 ≤ f ∧ f < 14)
def wIA (B : KB) (n : Nat) (a : Nat → Int32) : va_E := .inl (B.2.2.2.1 0, n, .inl a)
def wBA (B : KB) (n : Nat) (a : Nat → Int32) : va_E := .inl (B.2.2.2.1 1, n, .inl a)
def wZA (B : KB) (n : Nat) (a : Nat → Int32) : va_E := .inl (B.2.2.2.1 2, n, .inl a)
def wRA (B : KB) (t n : Nat) (f : Nat → Option Nat) : va_E := .inl (B.2.2.2.1 t, n, .inr (.inr (.inr (.inr f))))
def warr (B : KB) (g f : Nat) (a : Nat → Int32) : va_E :=
  if g < 4 then (if f = 1 then wRA B 3 6 (fun k => some (B.1 g (8 + k))) else if f < 5 then wIA B 6 a else if f = 5 then wIA B 36 a else if f = 6 then wIA B 12 a else if f = 7 then wIA B 104 a else .inr (ciK (f - 8), []))
  else match g, f with
  | 4, 1 => wRA B 4 2 (fun k => some (B.1 (2 + k) 0))
  | 4, 2 => wZA B 2 a
  | 4, 3 => wIA B 6 a
  | 4, _ => wIA B 3 a
  | 5, _ => wBA B 150 a
  | 6, 1 => wRA B 5 8 (fun k => some (B.1 8 (k + 1)))
  | 6, 2 => wRA B 5 8 (fun k => some (B.1 9 (k + 1)))
  | 6, _ => .inr (3, [])
  | 7, _ => wIA B 6 a
  | 8, _ => wIA B 100 a
  | 9, _ => wIA B 100 a
  | _, 1 => wIA B 175 a
  | _, 2 => wIA B 350 a
  | _, 3 => wZA B 2 a
  | _, 4 => wIA B 3 a
  | _, 5 => wIA B 6 a
  | _, 6 => wIA B 6 a
  | _, 7 => wIA B 6 a
  | _, 8 => wIA B 150 a
  | _, 9 => wIA B 71 a
  | _, _ => wIA B 2 a
def wobj (B : KB) (g : Nat) (iv : Nat → Int32) (jv : Nat → Int64) (rv : Nat × Nat) : va_E :=
  if g < 4 then .inr (4, [.ref (B.1 g 1), .ref (B.1 g 2), .ref (B.1 g 3), .ref (B.1 g 4), .ref (B.1 g 5), .ref (B.1 g 6), .ref (B.1 g 7), .int (iv 7), .int (iv 8), .int (iv 9), .int (iv 10), .int (iv 11)])
  else match g with
  | 4 => .inr (10, [.ref (B.1 0 0), .ref (B.1 1 0), .ref (B.1 4 1), .ref (B.1 4 2), .ref (B.1 5 0), .ref (B.1 6 0), .ref (B.1 7 0), .ref (B.1 4 3), .ref (B.1 4 4), .long (jv 9), .long (jv 10)])
  | 5 => .inr (9, [.ref (B.1 5 1), .int (iv 1), .int (iv 2), .int (iv 3), .int (iv 4), .int (iv 5), .int (iv 6), .int (iv 7), .int (iv 8), .int (iv 9)])
  | 6 => .inr (5, [.ref (B.1 6 1), .ref (B.1 6 2), .ref (B.1 rv.1 rv.2), .int (iv 3), .int (iv 4), .int (iv 5)])
  | 7 => .inr (2, [.ref (B.1 7 1), .int (iv 1), .ref (B.1 7 2)])
  | _ => .inr (11, [.ref (B.1 10 1), .ref (B.1 10 2), .ref (B.1 10 3), .ref (B.1 10 4), .long (jv 4), .long (jv 5), .int (iv 6), .int (iv 7), .int (iv 8), .ref (B.1 10 5), .ref (B.1 10 6), .ref (B.1 10 7), .ref (B.1 10 8), .int (iv 13), .int (iv 14), .int (iv 15), .int (iv 16), .int (iv 17), .ref (B.1 10 9), .ref (B.1 10 10)])
def wc (B : KB) (T : TT) (g f : Nat) : va_E := if f = 0 then wobj B g (T.2.1 g) (T.2.2.1 g) (T.2.2.2 g) else warr B g f (T.1 g f)
def okx (g f : Nat) : Bool := match g with
  | 0 => decide (f < 14)
  | 1 => decide (f < 14)
  | 2 => decide (f < 14)
  | 3 => decide (f < 14)
  | 4 => decide (f < 5)
  | 5 => decide (f < 2)
  | 6 => decide (f < 4)
  | 7 => decide (f < 3)
  | 8 => decide (0 < f ∧ f < 9)
  | 9 => decide (0 < f ∧ f < 9)
  | 10 => decide (f < 11)
  | _ => false
def IX : List (Nat × Nat) := ((List.range 11).flatMap fun g => (List.range 14).map fun f => (g, f)).filter (fun x => okx x.1 x.2)
theorem ix_len : IX.length = 97 := by decide +kernel
theorem ix_u : ∀ i, i < 97 → ∀ j, j < 97 → IX[i]? = IX[j]? → i = j := by decide +kernel
theorem ix_in {g f : Nat} (hg : g < 11) (hf : f < 14) (h : okx g f = true) : (g, f) ∈ IX := by
  unfold IX
  rw [List.mem_filter]
  refine ⟨?_, h⟩
  rw [List.mem_flatMap]
  exact ⟨g, List.mem_range.mpr hg, List.mem_map.mpr ⟨f, List.mem_range.mpr hf, rfl⟩⟩
theorem okx_rank {g f : Nat} (hg : g < 4) (hf : f < 14) : okx g f = true := by
  rcases (show g = 0 ∨ g = 1 ∨ g = 2 ∨ g = 3 by omega) with rfl | rfl | rfl | rfl <;> simp [okx, hf]
theorem ix_rank {g f : Nat} (hg : g < 4) (hf : f < 14) : (g, f) ∈ IX := ix_in (by omega) hf (okx_rank hg hf)
def wl (B : KB) (T : TT) : va_W := IX.map fun x => (B.1 x.1 x.2, wc B T x.1 x.2)
theorem wl_at (B : KB) (T : TT) {g f : Nat} (h : (g, f) ∈ IX) : ∃ q0 : Nat, (wl B T)[q0]? = some (B.1 g f, wc B T g f) ∧ ∀ T' : TT, (∀ g' f' : Nat, ¬ (g' = g ∧ f' = f) → wc B T' g' f' = wc B T g' f') → (wl B T).set q0 (B.1 g f, wc B T' g f) = wl B T' := by
  obtain ⟨q0, hq⟩ := List.getElem?_of_mem h
  refine ⟨q0, by unfold wl; rw [List.getElem?_map, hq]; rfl, fun T' hT => ?_⟩
  have hlt : q0 < IX.length := (List.getElem?_eq_some_iff.mp hq).1
  apply List.ext_getElem?
  intro i
  by_cases hi : i = q0
  · subst hi
    unfold wl
    rw [List.getElem?_set_self (by rw [List.length_map]; exact hlt), List.getElem?_map, hq]
    rfl
  · unfold wl
    rw [List.getElem?_set_ne (Ne.symm hi), List.getElem?_map, List.getElem?_map]
    cases hx : IX[i]? with
    | none => rfl
    | some x =>
      have hne : ¬ (x.1 = g ∧ x.2 = f) := fun e => by
        have e2 : x = (g, f) := Prod.ext e.1 e.2
        rw [e2] at hx
        have h1 : i < IX.length := (List.getElem?_eq_some_iff.mp hx).1
        have h2 : q0 < IX.length := (List.getElem?_eq_some_iff.mp hq).1
        rw [ix_len] at h1 h2
        exact hi (ix_u i h1 q0 h2 (hx.trans hq.symm))
      show some (B.1 x.1 x.2, wc B T x.1 x.2) = some (B.1 x.1 x.2, wc B T' x.1 x.2)
      rw [hT x.1 x.2 hne]
/-- what the heap holds -/
def Hh (B : KB) (T : TT) (H : Heap) : Prop := va_P (B.2.1, B.2.2.1) vwCl (wl B T) H ∧ va_D (fun q : Nat => B.2.2.2.2.size ≤ q) (wl B T) ∧ (B.2.2.2.2.size ≤ H.size ∧ ∀ q : Nat, q < B.2.2.2.2.size → H[q]? = B.2.2.2.2[q]?) ∧ kok (T.2.2.2 6).1 (T.2.2.2 6).2
abbrev ktys (B : KB) : List (ClassId × FieldType) := [(B.2.2.2.1 0, .int), (B.2.2.2.1 1, .byte), (B.2.2.2.1 2, .boolean), (B.2.2.2.1 3, .object "GriefEngine$Plain"), (B.2.2.2.1 4, .object "GriefEngine$Rank"), (B.2.2.2.1 5, .array .int)]
abbrev nwX3 : Cond := .methodLinkNest RX3 30 yX10_seasonOf "GriefEngine"
abbrev nwX4 : Cond := .methodLinkNest RX4 90 yX10_seasonOf "GriefEngine"
abbrev nwX5 : Cond := .methodLinkNest RX5 75 yX10_seasonOf "GriefEngine"
/-- the three text constants, their bytes; (11, w) is where w lies, (12, w) where its bytes do -/
abbrev sbt : List (List Int32) := [[114, 97, 110, 107], [100, 114, 105, 118, 101, 114], [100, 97, 121, 115]]
def STR (B : KB) (U : State) : Prop := vk_S 3 [4, 6, 4] sbt (B.1 11) (B.1 12) (fun q : Nat => B.2.2.2.2.size ≤ q) U B.2.2.2.2 ∧ va_Z "java/lang/String" "COMPACT_STRINGS" "Z" (.int 1) (fun q : Nat => B.2.2.2.2.size ≤ q) U B.2.2.2.2 ∧ va_Zq "jdk/internal/util/Preconditions" "SIOOBE_FORMATTER" "Ljava/util/function/BiFunction;" (fun q : Nat => B.2.2.2.2.size ≤ q) U B.2.2.2.2 ∧ vk_R "GriefEngine$Text" 29 "rank" (B.1 11 0) U ∧ vk_R "GriefEngine$Text" 42 "driver" (B.1 11 1) U ∧ vk_R "GriefEngine$Text" 47 "days" (B.1 11 2) U
/-- what the tables hold -/
def KK (B : KB) (U : State) : Prop := va_K (B.2.1, B.2.2.1) vwCl (ktys B) U ∧ va_Nw nwX3 U ∧ va_Nw nwX4 U ∧ va_Nw nwX5 U ∧ STR B U
theorem STR.warm {B : KB} {s U : State} (hW : s.WarmedH U.vm) (h : STR B s) : STR B U := ⟨vk_S.moved hW.alike h.1, va_Z.moved hW.alike h.2.1, va_Zq.moved hW.alike h.2.2.1, vk_R.warm hW h.2.2.2.1, vk_R.warm hW h.2.2.2.2.1, vk_R.warm hW h.2.2.2.2.2⟩
theorem STR.same {B : KB} {s U : State} (hW : s.vm = U.vm) (h : STR B s) : STR B U := by
  have e : s.vm.Alike U.vm := by rw [hW]; exact Vm.Alike.refl _
  exact ⟨vk_S.moved e h.1, va_Z.moved e h.2.1, va_Zq.moved e h.2.2.1, vk_R.same hW.symm h.2.2.2.1, vk_R.same hW.symm h.2.2.2.2.1, vk_R.same hW.symm h.2.2.2.2.2⟩
theorem KK.warm {B : KB} {s U : State} (hW : s.WarmedH U.vm) (h : KK B s) : KK B U := ⟨va_K.moved hW.alike h.1, va_Nw.warmM hW h.2.1, va_Nw.warmM hW h.2.2.1, va_Nw.warmM hW h.2.2.2.1, h.2.2.2.2.warm hW⟩
theorem KK.same {B : KB} {s U : State} (hW : s.vm = U.vm) (h : KK B s) : KK B U := ⟨va_K.moved (by rw [hW]; exact Vm.Alike.refl _) h.1, va_Nw.same rfl hW h.2.1, va_Nw.same rfl hW h.2.2.1, va_Nw.same rfl hW h.2.2.2.1, h.2.2.2.2.same hW⟩
abbrev KE := Program × Launch × Env × Room × State × MethodId × Array Value × List Frame × Method × Code × Nat × Nat × (State → Prop)
/-- from here the machine comes to its end -/
def Wk (B : KB) (X : KE) (nL : Nat) (T : TT) (pc : Nat) (lv : List (Nat × Value)) (st : List Value) : Prop :=
  ∀ (H : Heap) (locs : List Loc) (ls : Array Slot), Hh B T H → (∀ q ∈ locs, B.2.2.2.2.size ≤ q.base) → lv_has ls nL lv →
    W X.1 X.2.1 X.2.2.1 X.2.2.2.1 X.2.2.2.2.1 X.2.2.2.2.2.1 X.2.2.2.2.2.2.1 X.2.2.2.2.2.2.2.1 X.2.2.2.2.2.2.2.2.1 X.2.2.2.2.2.2.2.2.2.1 H locs X.2.2.2.2.2.2.2.2.2.2.1 X.2.2.2.2.2.2.2.2.2.2.2.1 X.2.2.2.2.2.2.2.2.2.2.2.2 (F0 X.2.2.2.2.2.1 pc ls st)
/-- what holds all through a method -/
def Cx (B : KB) (X : KE) (own : String) (cc : ByteArray) (nL d : Nat) : Prop :=
  X.1.tables.exec = Jvm.exec ∧ X.2.2.2.2.2.2.2.2.2.1.code = cc ∧ X.2.2.2.2.2.2.2.2.2.1.maxLocals = nL ∧ X.2.2.2.2.1.vm.findClass own = some X.2.2.2.2.2.1.cls ∧ (∀ w ∈ GW, w.before X.2.2.2.2.2.2.1 X.2.2.2.2.1 = true) ∧ KK B X.2.2.2.2.1 ∧ (d ≤ X.2.2.2.1.frames ∧ 64 * d ≤ X.2.2.2.1.locals ∧ X.2.2.2.2.2.2.2.2.2.2.1 ≤ X.2.2.2.1.cells ∧ X.2.2.2.2.2.2.2.2.2.2.2.1 ≤ X.2.2.2.1.slots)
/-- how a method ends: it answers r, the heap holds T1 -/
def Cr (B : KB) (X : KE) (ret : Option FieldType) (r : Option Value) (T1 : TT) : Prop :=
  X.2.2.2.2.2.2.2.2.1.sig.returnType = ret ∧ X.2.2.2.2.2.2.2.2.1.locks = false ∧ X.2.2.2.2.2.2.2.2.2.2.2.2 = MQ X.2.2.2.2.2.2.2.1 (fun _ _ oc t => oc = .returned r ∧ Hh B T1 t.heap) X.2.2.2.2.2.2.1 X.2.2.2.2.1 X.2.2.2.2.2.2.2.2.2.2.1 X.2.2.2.2.2.2.2.2.2.2.2.1 (fun q : Nat => B.2.2.2.2.size ≤ q)
abbrev Rm (d : Nat) : Room := { frames := d, cells := 0, slots := 0, locals := 64 * d }
/-- a method's contract: from T, with the arguments as, it answers r and leaves T1 -/
def Kt (B : KB) (l : Launch) (d : Nat) (y : MethodName) (cc : ByteArray) (maxL : Nat) (ret : Option FieldType) (T : TT) (as : List Value) (r : Option Value) (T1 : TT) : Prop :=
  Met l y (Cond.code y cc maxL ret :: GW) (Rm d) (va_Pc as (fun U => Hh B T U.heap ∧ KK B U)) (fun _ _ oc t => oc = .returned r ∧ Hh B T1 t.heap) 0 0 (fun q : Nat => B.2.2.2.2.size ≤ q)
theorem Kt.of {B : KB} {l : Launch} {d : Nat} {y : MethodName} {cc : ByteArray} {maxL : Nat} {ret : Option FieldType} {T : TT} {as : List Value} {r : Option Value} {T1 : TT} (hy : plainName y.cls = true) (ha : (lg_sl as).length ≤ maxL)
    (body : ∀ X : KE, X.2.1 = l → Cx B X y.cls cc maxL d → Cr B X ret r T1 → Wk B X maxL T 0 (lv_args 0 as) []) : Kt B l d y cc maxL ret T as r T1 := by
  refine Met.ofW (cc := cc) (maxL := maxL) (ret := ret) hy rfl ?_
  intro p e s m args below meth c s₁ Bd hml hv
  obtain ⟨rfl, hH, hK⟩ := hv
  have hts := atoms_spec (ws := Cond.code y cc maxL ret :: GW) Bd.pre
  have hown : s.vm.findClass y.cls = some m.cls := findClass_of_methodNamed Bd.named
  have hl := lv_entry as (n := maxL) ha
  rw [lg_entry_eq]
  exact body (p, l, e, _, s, m, as.toArray, below, meth, c, 0, 0, _) rfl ⟨Bd.exec, Bd.bytes, hml, hown, fun w hw => hts w (List.mem_cons_of_mem _ hw), hK, Nat.le_refl _, Nat.le_refl _, Nat.zero_le _, Nat.zero_le _⟩ ⟨Bd.returns, Bd.notSynchronized, rfl⟩ s.heap [] _ hH (fun q hq => by cases hq) hl
