/-! THE CLAIM OUT OF ONE WALK OF THE LAW'S BODY. Your part is whole_start (and what it stands on); all else here is the same for every law, but numbers. -/
def R_law : String := "GriefEngineLaw"
def lw_P (b : Addr) (xs : List Int32) (args : Array Value) (s : State) : Prop := args = #[.ref b] ∧ s.IntsAt b xs ∧ xs.length ≤ 448 ∧ (Jvm.Cond.and given_1 narrow_1).before args s = true
def lw_Q (_ : Array Value) (s : State) (o : Outcome) (t : State) : Prop := o = .returned (some (.int 1)) ∧ Framed s o t [] 600000 7302250
def lw_Z (below : List Frame) (a : Array Value) (s : State) : State → Prop := fun t => ∃ o, t.status = .running ∧ Ended t below o ∧ lw_Q a s o t
/-- the law's own end, with 1 on the stack, nothing written that was there before, its room as the claim has it -/
theorem lw_ret {p : Program} {l : Launch} {e : Env} {s : State} {m : MethodId} {below : List Frame} {meth : Method} {c : Code} {b : Nat} (hx : p.tables.exec = Jvm.exec) (hb : c.code = code) (hr : meth.sig.returnType = ret) (hlocks : meth.locks = false) {pc : Nat} {H : Heap} {ls : Array Slot} (hdg : decode code pc = .ok (.ireturn, 1)) : W p l e room_1 s m #[Value.ref b] below meth c H [] 600000 7302250 (lw_Z below #[Value.ref b] s) (F0 m pc ls [.int 1]) := by
  intro T hT X
  obtain ⟨fs, hret, hrun, hended, hW, hframe⟩ := X.leave (v := some (.int 1)) (hlocks := hlocks) (fun h => by rw [hr] at h; cases h)
  have hmeth' : T.vm.method? m = some meth := X.method'
  refine ⟨T.setFrames fs, ?_, .returned (some (.int 1)), hrun, hended, rfl, ⟨_, rfl⟩, hW, hframe⟩
  jvm_step X.here [X.here.top, hx, hb, hdg, hmeth', hr, ret, narrow_b1]
  (try refine ⟨rfl, ?_⟩); (try refine ⟨rfl, ?_⟩)
  first | (intro acts; rw [hret _ acts rfl rfl rfl]) | rw [hret _ _ rfl rfl rfl]
  exact Steps.refl _
/-- what holds at the law's entry: the machine, the code, the tables' words (any of lw_tbl by 'hts w (by decide +kernel)'), the script of L ints xs at the cell b, what the Statement gives of the start (any of its parts by flat_of_before) -/
def lw_At (p : Program) (s : State) (m : MethodId) (meth : Method) (c : Code) (b L : Nat) (xs : Nat → Int32) : Prop :=
  p.tables.exec = Jvm.exec ∧ c.code = code ∧ meth.sig.returnType = ret ∧ c.maxLocals = 4 ∧ s.vm.findClass R_law = some m.cls ∧ (∀ w ∈ lw_tbl, w.before #[Value.ref b] s = true) ∧ va_X b L xs s s.heap ∧ b < s.heap.size ∧ meth.locks = false ∧ (Jvm.Cond.and given_1 narrow_1).before #[Value.ref b] s = true

theorem ciconst_7 : Int32.ofInt 7 = (7 : Int32) := by decide
def Lw (B : KB) (X : KE) (b : Nat) : Prop := X.2.2.2.1 = room_1 ∧ X.2.2.2.2.2.2.1 = #[Value.ref b] ∧ X.2.2.2.2.2.2.2.2.1.sig.returnType = ret ∧ X.2.2.2.2.2.2.2.2.1.locks = false ∧ X.2.2.2.2.2.2.2.2.2.2.2.2 = lw_Z X.2.2.2.2.2.2.2.1 #[Value.ref b] X.2.2.2.2.1 ∧ B.2.2.2.2 = X.2.2.2.2.1.heap ∧ X.2.2.2.2.2.2.2.2.2.2.1 ≤ 600000 ∧ X.2.2.2.2.2.2.2.2.2.2.2.1 ≤ 7302250
def Sx (B : KB) (X : KE) (b L : Nat) (xs : Nat → Int32) : Prop := va_X b L xs X.2.2.2.2.1 B.2.2.2.2 ∧ b < B.2.2.2.2.size
section KLW
variable {B : KB} {X : KE} {own : String} {cc : ByteArray} {nL d : Nat} {T : TT} {pc : Nat} {lv : List (Nat × Value)} {st : List Value} {R : Type} {res : R} {a : Option R} {b L : Nat} {xs : Nat → Int32}
theorem k_scrlen (C : Cx B X own cc nL d) (S : Sx B X b L xs) (hd : decode cc pc = .ok (.arraylength, 1)) (kk : Wk B X nL T (pc + 1) lv (.int (Int32.ofNat L) :: st)) : Wk B X nL T pc lv (.ref b :: st) := fun H locs ls hH hL hl => va_slen C.1 C.2.1 S.1 S.2 (Nat.not_le.mpr S.2) (hH.S hL) hd (kk H locs ls hH hL hl)
theorem k_scrld (C : Cx B X own cc nL d) (S : Sx B X b L xs) {i : Int32} (hd : decode cc pc = .ok (.iaload, 1)) (h : (if inb i L then a else none) = some res) (kk : a = some res → Wk B X nL T (pc + 1) lv (.int (xs i.toNatClampNeg) :: st)) : Wk B X nL T pc lv (.int i :: .ref b :: st) := fun H locs ls hH hL hl => by
  by_cases c : inb i L
  · rw [if_pos c] at h
    exact va_sld C.1 C.2.1 S.1 S.2 (Nat.not_le.mpr S.2) (hH.S hL) c hd (kk h H locs ls hH hL hl)
  · rw [if_neg c] at h
    cases h
theorem k_lawret (C : Cx B X own code nL d) (E : Lw B X b) (hd : decode code pc = .ok (.ireturn, 1)) : Wk B X nL T pc lv [.int 1] := fun H locs ls hH hL hl => by
  obtain ⟨p, l, e, R, s, m, args, below, meth, c, cells, slots, Q⟩ := X
  obtain ⟨e1, e2, e3, e4, e5, e6, e7, e8⟩ := E
  dsimp only at e1 e2 e3 e4 e5 e6 e7 e8 ⊢
  subst e1; subst e2; subst e5
  refine va_forget (fun q hq => by rw [← e6]; exact hL q hq) ?_
  refine W.widen (k := 600000) (n := 7302250) e7 e8 ?_
  exact lw_ret C.1 C.2.1 e3 e4 hd
end KLW
