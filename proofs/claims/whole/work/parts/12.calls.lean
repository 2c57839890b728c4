/-! CALLS over Wk -/
theorem gG : GoodIn GW GW := fun w hw => ⟨hw, good_of_word (List.mem_filter.mp hw).2⟩
theorem gG_in {L : List Cond} (h : ∀ w ∈ L, w ∈ GW) : GoodIn GW L := fun w hw => gG w (h w hw)
theorem gG_code {y : MethodName} {cc : ByteArray} {maxL : Nat} {ret : Option FieldType} {L : List Cond} (hL : ∀ w ∈ L, w ∈ GW) (hc : Cond.code y cc maxL ret ∈ GW) : GoodIn GW (L ++ (Cond.code y cc maxL ret :: GW)) := gG_in (fun w hw => by
  rcases List.mem_append.mp hw with h | h
  · exact hL w h
  · rcases List.mem_cons.mp h with h | h
    · rw [h]; exact hc
    · exact h)
section KC
variable {B : KB} {X : KE} {own : String} {cc : ByteArray} {nL d : Nat} {T : TT} {pc : Nat} {lv : List (Nat × Value)} {st : List Value}
theorem k_blind {as : List Value} : FrameBlind (va_Pc as (fun U => Hh B T U.heap ∧ KK B U)) := fun a U g mk q => by
  obtain ⟨q0, qH, qK⟩ := q
  exact ⟨q0, qH, KK.same rfl qK⟩
theorem k_run {H : Heap} {locs : List Loc} {ls : Array Slot} {st0 rest : List Value} {r : Option Value} {T1 : TT} (hL : ∀ q ∈ locs, B.2.2.2.2.size ≤ q.base)
    (hr : va_Run X.1 X.2.1 X.2.2.1 X.2.2.2.1 X.2.2.2.2.1 X.2.2.2.2.2.1 X.2.2.2.2.2.2.1 X.2.2.2.2.2.2.2.1 X.2.2.2.2.2.2.2.2.1 X.2.2.2.2.2.2.2.2.2.1 H locs X.2.2.2.2.2.2.2.2.2.2.1 X.2.2.2.2.2.2.2.2.2.2.2.1 0 0 (F0 X.2.2.2.2.2.1 pc ls st0) rest (fun _ oc t => oc = .returned r ∧ Hh B T1 t.heap) (fun q : Nat => B.2.2.2.2.size ≤ q))
    (hl : lv_has ls nL lv) (kk : Wk B X nL T1 (pc + 3) lv (r.toList ++ rest)) :
    W X.1 X.2.1 X.2.2.1 X.2.2.2.1 X.2.2.2.2.1 X.2.2.2.2.2.1 X.2.2.2.2.2.2.1 X.2.2.2.2.2.2.2.1 X.2.2.2.2.2.2.2.2.1 X.2.2.2.2.2.2.2.2.2.1 H locs X.2.2.2.2.2.2.2.2.2.2.1 X.2.2.2.2.2.2.2.2.2.2.2.1 X.2.2.2.2.2.2.2.2.2.2.2.2 (F0 X.2.2.2.2.2.1 pc ls st0) := by
  intro T9 hT9 X9
  obtain ⟨v, st₀, t, T', L, h0, X', hL', e1, e2, ⟨hv, hH1⟩, stp⟩ := hr T9 hT9 X9
  cases hv
  obtain ⟨t2, a1, b1⟩ := kk T'.heap (locs ++ L) ls (by rw [e1]; exact hH1) (fun q hq => by
    rcases List.mem_append.mp hq with h | h
    · exact hL q h
    · exact hL' q h) hl T' rfl X'
  exact ⟨t2, stp t2 a1, b1⟩
/-- what the tables say of a static call's method -/
def LkS (own : String) (idx : Nat) (y : MethodName) (c2 : ByteArray) (maxL : Nat) (ret : Option FieldType) (n : Nat) : Prop :=
  (Cond.methodLink own idx y ∈ GW ∧ Cond.static y ∈ GW ∧ Cond.initialized y.cls ∈ GW ∧ Cond.code y c2 maxL ret ∈ GW) ∧ (y.cls ≠ "java/lang/invoke/MethodHandle" ∧ y.cls ≠ "java/lang/invoke/VarHandle" ∧ (parseMethodDescriptor y.desc).map (fun d => d.parameters.length) = some n) ∧ maxL ≤ 45
theorem room_of {d d' maxL : Nat} {R : Room} (h : d' < d) (hm : maxL ≤ 45) (h1 : d ≤ R.frames) (h2 : 64 * d ≤ R.locals) : (Rm d').frames + 1 ≤ R.frames ∧ 8 + (maxL + 11) + (Rm d').locals ≤ R.locals := by
  constructor
  · show d' + 1 ≤ R.frames
    omega
  · show 8 + (maxL + 11) + 64 * d' ≤ R.locals
    omega
theorem k_calls {idx : Nat} {y : MethodName} {c2 : ByteArray} {maxL n d' : Nat} {ret : Option FieldType} {as rest : List Value} {r : Option Value} {T1 : TT} (C : Cx B X own cc nL d) (lk : LkS own idx y c2 maxL ret n) (hdd : d' < d) (hk : Kt B X.2.1 d' y c2 maxL ret T as r T1) (hd : decode cc pc = .ok (.invokestatic idx, 3)) (hn : as.length = n) (hs : st = as.reverse ++ rest) (hW : (rest.map fun v => v.category).sum ≤ 8) (kk : Wk B X nL T1 (pc + 3) lv (r.toList ++ rest)) : Wk B X nL T pc lv st := fun H locs ls hH hL hl => by
  obtain ⟨hx, hb, hml, ho, hts, hK, hf, hlo, hce, hsl⟩ := C
  obtain ⟨⟨l1, l2, l3, l4⟩, l5, l6⟩ := lk
  refine k_run hL (va_runS (Ts := GW) ⟨hx, hb, hml, ho, hts⟩ hk (va_cwS n hts (gG_code (L := [.methodLink own idx y, .static y, .initialized y.cls]) ?_ l4) rfl rfl rfl l5 (room_of hdd l6 hf hlo)) ⟨k_blind, fun U hU hW => ⟨rfl, by rw [hU]; exact hH, KK.warm hW hK⟩⟩ rfl hn hl.1 hs ?_ hd ⟨hce, hsl⟩) hl kk
  · intro w hw
    simp only [List.mem_cons, List.not_mem_nil, or_false] at hw
    rcases hw with rfl | rfl | rfl
    · exact l1
    · exact l2
    · exact l3
  · show 2 * 0 + _ ≤ 8
    omega
/-- .. of an instance method's own class -/
def LkV (own : String) (idx : Nat) (y : MethodName) (c2 : ByteArray) (maxL : Nat) (ret : Option FieldType) (n : Nat) : Prop :=
  (Cond.methodLink own idx y ∈ GW ∧ Cond.instanceMethod y ∈ GW ∧ Cond.selects y.cls y y ∈ GW ∧ Cond.initialized y.cls ∈ GW ∧ Cond.code y c2 maxL ret ∈ GW) ∧ (y.cls ≠ "java/lang/invoke/MethodHandle" ∧ y.cls ≠ "java/lang/invoke/VarHandle" ∧ (parseMethodDescriptor y.desc).map (fun d => d.parameters.length) = some n) ∧ maxL ≤ 45
theorem k_callv {idx : Nat} {y : MethodName} {c2 : ByteArray} {maxL n d' g f ci : Nat} {q : vw_C} {fs : List Value} {ret : Option FieldType} {as rest : List Value} {r : Option Value} {T1 : TT} (C : Cx B X own cc nL d) (lk : LkV own idx y c2 maxL ret n) (hdd : d' < d) (hx0 : (g, f) ∈ IX) (hw0 : wc B T g f = .inr (ci, fs)) (hc0 : vwCl[ci]? = some q) (hq0 : q.1 = y.cls) (hk : Kt B X.2.1 d' y c2 maxL ret T (.ref (B.1 g f) :: as) r T1) (hd : decode cc pc = .ok (.invokevirtual idx, 3)) (hn : as.length = n) (hs : st = as.reverse ++ .ref (B.1 g f) :: rest) (hW : (rest.map fun v => v.category).sum ≤ 8) (kk : Wk B X nL T1 (pc + 3) lv (r.toList ++ rest)) : Wk B X nL T pc lv st := fun H locs ls hH hL hl => by
  obtain ⟨hx, hb, hml, ho, hts, hK, hf, hlo, hce, hsl⟩ := C
  obtain ⟨⟨l1, l2, l3, l3', l4⟩, l5, l6⟩ := lk
  obtain ⟨p0, hp0, -⟩ := wl_at B T hx0
  rw [hw0] at hp0
  have hrv := va_recv hK.1 hH.1 hc0 hp0
  rw [hq0] at hrv
  refine k_run hL (va_runV (Ts := GW) ⟨hx, hb, hml, ho, hts⟩ hk (cwV (C := y.cls) n hts (gG_code (L := [.methodLink own idx y, .instanceMethod y, .selects y.cls y y, .initialized y.cls]) ?_ l4) rfl rfl rfl ⟨rfl, l5⟩ (room_of hdd l6 hf hlo)) ⟨k_blind, hrv, fun U hU hW => ⟨rfl, by rw [hU]; exact hH, KK.warm hW hK⟩⟩ rfl hn hl.1 hs ?_ hd ⟨hce, hsl⟩) hl kk
  · intro w hw
    simp only [List.mem_cons, List.not_mem_nil, or_false] at hw
    rcases hw with rfl | rfl | rfl | rfl
    · exact l1
    · exact l2
    · exact l3
    · exact l3'
  · show 2 * 0 + _ ≤ 8
    omega
/-- a static method of a nest mate -/
theorem k_callsn {idx : Nat} {y : MethodName} {c2 : ByteArray} {maxL n d' : Nat} {ret : Option FieldType} {as rest : List Value} {r : Option Value} {T1 : TT} {host : String} (C : Cx B X own cc nL d) (hnw : va_Nw (.methodLinkNest own idx y host) X.2.2.2.2.1) (l2 : Cond.static y ∈ GW) (l3 : Cond.initialized y.cls ∈ GW) (l4 : Cond.code y c2 maxL ret ∈ GW) (l5 : y.cls ≠ "java/lang/invoke/MethodHandle" ∧ y.cls ≠ "java/lang/invoke/VarHandle" ∧ (parseMethodDescriptor y.desc).map (fun d => d.parameters.length) = some n) (l6 : maxL ≤ 45) (hdd : d' < d) (hk : Kt B X.2.1 d' y c2 maxL ret T as r T1) (hd : decode cc pc = .ok (.invokestatic idx, 3)) (hn : as.length = n) (hs : st = as.reverse ++ rest) (hW : (rest.map fun v => v.category).sum ≤ 8) (kk : Wk B X nL T1 (pc + 3) lv (r.toList ++ rest)) : Wk B X nL T pc lv st := fun H locs ls hH hL hl => by
  obtain ⟨hx, hb, hml, ho, hts, hK, hf, hlo, hce, hsl⟩ := C
  refine k_run hL (va_runSN (Ts := GW) ⟨hx, hb, hml, ho, hts⟩ hk ⟨va_cnB n hts (gG_code (L := []) (fun w hw => by cases hw) l4) rfl rfl rfl hnw (hts _ l3) l5 (room_of hdd l6 hf hlo), hts _ l2, trivial⟩ ⟨k_blind, fun U hU hW => ⟨rfl, by rw [hU]; exact hH, KK.warm hW hK⟩⟩ rfl hn hl.1 hs ?_ hd ⟨hce, hsl⟩) hl kk
  show 2 * 0 + _ ≤ 8
  omega
/-- .. of a method that a class over it, or a class under it, has -/
def LkU (own : String) (idx : Nat) (Cn : String) (x y : MethodName) (c2 : ByteArray) (maxL : Nat) (ret : Option FieldType) (n : Nat) : Prop :=
  (Cond.methodLink own idx x ∈ GW ∧ Cond.sameMethod x.cls x.cls x.name x.desc ∈ GW ∧ Cond.instanceMethod x ∈ GW ∧ Cond.selects Cn x y ∈ GW ∧ Cond.instanceMethod y ∈ GW ∧ Cond.initialized y.cls ∈ GW ∧ Cond.code y c2 maxL ret ∈ GW) ∧ (x.cls ≠ "java/lang/invoke/MethodHandle" ∧ x.cls ≠ "java/lang/invoke/VarHandle" ∧ (parseMethodDescriptor x.desc).map (fun d => d.parameters.length) = some n) ∧ maxL ≤ 45 ∧ ∃ (b0 : ByteArray) (m0 : Nat) (r0 : Option FieldType), Cond.code x b0 m0 r0 ∈ GW
theorem k_callu {idx : Nat} {Cn : String} {x y : MethodName} {c2 : ByteArray} {maxL n d' g f ci : Nat} {q : vw_C} {fs : List Value} {ret : Option FieldType} {as rest : List Value} {r : Option Value} {T1 : TT} (C : Cx B X own cc nL d) (lk : LkU own idx Cn x y c2 maxL ret n) (hdd : d' < d) (hx0 : (g, f) ∈ IX) (hw0 : wc B T g f = .inr (ci, fs)) (hc0 : vwCl[ci]? = some q) (hq0 : q.1 = Cn) (hk : Kt B X.2.1 d' y c2 maxL ret T (.ref (B.1 g f) :: as) r T1) (hd : decode cc pc = .ok (.invokevirtual idx, 3)) (hn : as.length = n) (hs : st = as.reverse ++ .ref (B.1 g f) :: rest) (hW : (rest.map fun v => v.category).sum ≤ 8) (kk : Wk B X nL T1 (pc + 3) lv (r.toList ++ rest)) : Wk B X nL T pc lv st := fun H locs ls hH hL hl => by
  obtain ⟨hx, hb, hml, ho, hts, hK, hf, hlo, hce, hsl⟩ := C
  obtain ⟨⟨l1, l2, l3, l4, l5, l6, l7⟩, l8, l9, b0, m0, r0, l10⟩ := lk
  obtain ⟨p0, hp0, -⟩ := wl_at B T hx0
  rw [hw0] at hp0
  have hrv := va_recv hK.1 hH.1 hc0 hp0
  rw [hq0] at hrv
  refine k_run hL (va_runU (Ts := GW) ⟨hx, hb, hml, ho, hts⟩ hk (va_cwO (C := Cn) (owner := x.cls) n hts (gG_code (L := [.methodLink own idx x, .sameMethod x.cls x.cls x.name x.desc, .instanceMethod ⟨x.cls, x.name, x.desc⟩, .selects Cn x y, .instanceMethod y, .initialized y.cls]) ?_ l7) rfl rfl rfl l10 l8 (room_of hdd l9 hf hlo)) ⟨k_blind, hrv, fun U hU hW => ⟨rfl, by rw [hU]; exact hH, KK.warm hW hK⟩⟩ rfl hn hl.1 hs ?_ hd ⟨hce, hsl⟩) hl kk
  · intro w hw
    simp only [List.mem_cons, List.not_mem_nil, or_false] at hw
    rcases hw with rfl | rfl | rfl | rfl | rfl | rfl
    · exact l1
    · exact l2
    · exact l3
    · exact l4
    · exact l5
    · exact l6
  · show 2 * 0 + _ ≤ 8
    omega
/-- super.y(..) -/
def LkP (own : String) (idx : Nat) (y : MethodName) (c2 : ByteArray) (maxL : Nat) (ret : Option FieldType) (n : Nat) : Prop :=
  (Cond.methodLink own idx y ∈ GW ∧ Cond.sameMethod y.cls y.cls y.name y.desc ∈ GW ∧ Cond.superclass own y.cls ∈ GW ∧ Cond.instanceMethod y ∈ GW ∧ Cond.initialized y.cls ∈ GW ∧ Cond.code y c2 maxL ret ∈ GW) ∧ (y.name ≠ "<init>" ∧ (parseMethodDescriptor y.desc).map (fun d => d.parameters.length) = some n) ∧ maxL ≤ 45
theorem k_callp {idx : Nat} {y : MethodName} {c2 : ByteArray} {maxL n d' g f ci : Nat} {q : vw_C} {fs : List Value} {ret : Option FieldType} {as rest : List Value} {r : Option Value} {T1 : TT} (C : Cx B X own cc nL d) (lk : LkP own idx y c2 maxL ret n) (hdd : d' < d) (hx0 : (g, f) ∈ IX) (hw0 : wc B T g f = .inr (ci, fs)) (hc0 : vwCl[ci]? = some q) (hk : Kt B X.2.1 d' y c2 maxL ret T (.ref (B.1 g f) :: as) r T1) (hd : decode cc pc = .ok (.invokespecial idx, 3)) (hn : as.length = n) (hs : st = as.reverse ++ .ref (B.1 g f) :: rest) (hW : (rest.map fun v => v.category).sum ≤ 8) (kk : Wk B X nL T1 (pc + 3) lv (r.toList ++ rest)) : Wk B X nL T pc lv st := fun H locs ls hH hL hl => by
  obtain ⟨hx, hb, hml, ho, hts, hK, hf, hlo, hce, hsl⟩ := C
  obtain ⟨⟨l1, l2, l3, l4, l5, l6⟩, l7, l8⟩ := lk
  obtain ⟨p0, hp0, -⟩ := wl_at B T hx0
  rw [hw0] at hp0
  have hrv := va_recv hK.1 hH.1 hc0 hp0
  refine k_run hL (va_runSU (Ts := GW) (hK.1.1 ci q hc0).2 ⟨hx, hb, hml, ho, hts⟩ hk (va_cwSU n hts (gG_code (L := [.methodLink own idx y, .sameMethod y.cls y.cls y.name y.desc, .superclass own y.cls, .instanceMethod y, .initialized y.cls]) ?_ l6) rfl rfl rfl l7 (room_of hdd l8 hf hlo)) ⟨k_blind, hrv, fun U hU hW => ⟨rfl, by rw [hU]; exact hH, KK.warm hW hK⟩⟩ rfl hn hl.1 hs ?_ hd ⟨hce, hsl⟩) hl kk
  · intro w hw
    simp only [List.mem_cons, List.not_mem_nil, or_false] at hw
    rcases hw with rfl | rfl | rfl | rfl | rfl
    · exact l1
    · exact l2
    · exact l3
    · exact l4
    · exact l5
  · show 2 * 0 + _ ≤ 8
    omega
end KC
