/-! the kinds' classes; super.m(..) where the class over it has it from the one over that -/
def kcl (k : Nat) : vw_C := match k with
  | 0 => (RX3, TX3, 0)
  | 1 => (RX0, TX0, 0)
  | 2 => (RX6, TX6, 0)
  | 3 => (RX7, TX7, 0)
  | 4 => (RX8, TX8, 0)
  | _ => (RX1, TX1, 0)
theorem ci_at {g f : Nat} (h : kok g f) : vwCl[ciK (kn g f)]? = some (kcl (kn g f)) := by
  have h6 := (kok_at h).2.2
  generalize kn g f = k at h6 ⊢
  rcases (show k = 0 ∨ k = 1 ∨ k = 2 ∨ k = 3 ∨ k = 4 ∨ k = 5 by omega) with rfl | rfl | rfl | rfl | rfl | rfl <;> rfl
theorem kok_R {g : Nat} {i : Int32} (hg : g < 4) (hi : inb i 6) : kok g (8 + i.toNatClampNeg) := Or.inr ⟨hg, by omega, by have := inb_lt hi; omega⟩
theorem img_R {i : Int32} (hi : inb i 2) : 2 + i.toNatClampNeg < 4 := by have := inb_lt hi; omega
section KP2
variable {B : KB} {X : KE} {own : String} {cc : ByteArray} {nL d : Nat} {T : TT} {pc : Nat} {lv : List (Nat × Value)} {st : List Value}
def LkP2 (own : String) (idx : Nat) (x y : MethodName) (c2 : ByteArray) (maxL : Nat) (ret : Option FieldType) (n : Nat) : Prop :=
  (Cond.methodLink own idx x ∈ GW ∧ Cond.sameMethod x.cls y.cls x.name x.desc ∈ GW ∧ Cond.superclass own x.cls ∈ GW ∧ Cond.superclass x.cls y.cls ∈ GW ∧ Cond.instanceMethod y ∈ GW ∧ Cond.initialized y.cls ∈ GW ∧ Cond.code y c2 maxL ret ∈ GW) ∧ (x.name ≠ "<init>" ∧ y = ⟨y.cls, x.name, x.desc⟩ ∧ (parseMethodDescriptor y.desc).map (fun d => d.parameters.length) = some n) ∧ maxL ≤ 45
theorem k_callp2I {idx : Nat} {x y : MethodName} {c2 : ByteArray} {maxL n d' g f ci : Nat} {q : vw_C} {fs : List Value} {ret : Option FieldType} {as rest : List Value} {v : Int32} {T1 : TT} (C : Cx B X own cc nL d) (lk : LkP2 own idx x y c2 maxL ret n) (hdd : d' < d) (hx0 : (g, f) ∈ IX) (hw0 : wc B T g f = .inr (ci, fs)) (hc0 : vwCl[ci]? = some q) (hk : Kt B X.2.1 d' y c2 maxL ret T (.ref (B.1 g f) :: as) (some (.int v)) T1) (hd : decode cc pc = .ok (.invokespecial idx, 3)) (hn : as.length = n) (hs : st = as.reverse ++ .ref (B.1 g f) :: rest) (hW : (rest.map fun v => v.category).sum ≤ 8) (kk : Wk B X nL T1 (pc + 3) lv (.int v :: rest)) : Wk B X nL T pc lv st := fun H locs ls hH hL hl => by
  obtain ⟨hx, hb, hml, ho, hts, hK, hf, hlo, hce, hsl⟩ := C
  obtain ⟨⟨l1, l2, l3, l3', l4, l5, l6⟩, ⟨l7, l7', l7''⟩, l8⟩ := lk
  obtain ⟨p0, hp0, -⟩ := wl_at B T hx0
  rw [hw0] at hp0
  obtain ⟨cellB, hcB, hoB, hclB⟩ := va_recv hK.1 hH.1 hc0 hp0
  have hr := room_of hdd l8 hf hlo
  have hB : Back X.2.1 X.2.2.2.1 X.1 X.2.2.1 X.2.2.2.2.2.2.2.1 X.2.2.2.2.1 X.2.2.2.2.2.2.1 y 3 8 (PreOf X.2.2.2.1 0 0 (va_Pc (.ref (B.1 g f) :: as) (fun U => Hh B T U.heap ∧ KK B U))) (PostOf (fun _ _ oc t => oc = .returned (some (.int v)) ∧ Hh B T1 t.heap) 0 0 (fun q : Nat => B.2.2.2.2.size ≤ q)) :=
    back_of (bytes := c2) (maxL := maxL) (ret := ret) hk k_blind rfl rfl hr.1 hr.2 (fun w hw => by
      have hw2 : w ∈ GW := by
        rcases List.mem_cons.mp hw with h | h
        · rw [h]; exact l6
        · exact h
      exact fun a' U hW => word_at hW (gG w hw2).2 (hts w hw2)) List.mem_cons_self (fun a' U hW => word_at hW (gG _ l5).2 (hts _ l5))
  have hat := (hK.1.1 ci q hc0).2
  obtain ⟨hfc, kB, hkB, -⟩ := hat
  have hkB : X.2.2.2.2.1.vm.classes[cellB.cls]? = some kB := by rw [Option.some.inj (hclB.symm.trans hfc)]; exact hkB
  have hstk : 2 * (F0 X.2.2.2.2.2.1 pc ls st).monitorRoom + (rest.map fun v => v.category).sum ≤ 8 := by
    show 2 * 0 + _ ≤ 8
    omega
  intro T9 hT9 X9
  obtain ⟨mk, methM, hnamed, hmethM, hstM, habM⟩ := Cond.instanceMethod_spec (hts _ l4)
  obtain ⟨methM', cM, hmethM', -, -, -, -, -, -, hsigM⟩ := Cond.code_spec hnamed (hts _ l6)
  cases hmethM.symm.trans hmethM'
  obtain ⟨ps, dk, kp, hps, hdk, hkp, hsuper, -, -, hnid⟩ := Cond.superclass_spec ho (hts _ l3)
  obtain ⟨ps2, dk2, kp2, hps2, hdk2, hkp2, hsuper2, -, -, -⟩ := Cond.superclass_spec hps (hts _ l3')
  have hn9 : X.2.2.2.2.1.methodNamed? ⟨y.cls, x.name, x.desc⟩ = some mk := by rw [← l7']; exact hnamed
  have hpm : ps2 = mk.cls := Option.some.inj (hps2.symm.trans (findClass_of_methodNamed hnamed))
  have hlt : ps < X.2.2.2.2.1.vm.classes.size := (Array.getElem?_eq_some_iff.mp hkp).1
  have hsub : X.2.2.2.2.1.vm.isSubclass ps mk.cls = true := by
    obtain ⟨nn, hnn⟩ : ∃ nn, X.2.2.2.2.1.vm.classes.size = nn + 1 := ⟨X.2.2.2.2.1.vm.classes.size - 1, (Nat.sub_add_cancel (Nat.lt_of_le_of_lt (Nat.zero_le _) hlt)).symm⟩
    rw [← hpm]
    unfold Vm.isSubclass
    rw [hnn]
    simp [Vm.isSubclassAux, hdk2, hsuper2]
  have hlen : as.length = methM.sig.parameters.length := by
    rw [hsigM] at l7''
    exact hn.trans (Option.some.inj l7'').symm
  obtain ⟨vm₁, X₁, hstep₁⟩ := X9.invokespecialUp hx ho (hts _ l1) (hts _ l2) hn9 hmethM hstM habM l7 hdk hnid hps hsuper hsub (a := B.1 g f) (cell := cellB) (by rw [hT9]; exact hcB)
    (fun z h => by rw [h] at hoB; cases hoB) hkB (g := F0 X.2.2.2.2.2.1 pc ls st) rfl (argsL := as) (rest := rest) hlen hs (by rw [hb]; exact hd)
  obtain ⟨v9, ⟨U', l92, c92, s92⟩, X', ⟨g', mk', t, L, e1, e2, ⟨hq, hqH⟩, h1, hL9, h2, h3⟩, hsteps⟩ := hB _ _ _ ⟨T9.setVm vm₁, locs, _, _⟩ { (F0 X.2.2.2.2.2.1 pc ls st) with stack := rest } (.invokespecial idx) mk (Value.ref (B.1 g f) :: as).toArray X₁ rfl (hl.1.trans hml.symm) (by rw [hb]; exact hd) hstk (X₁.named hnamed) ⟨hce, hsl, rfl, by show Hh B T T9.heap; rw [hT9]; exact hH, KK.warm X₁.warmed hK⟩
  dsimp only [Pt.U, Pt.locs, Pt.cells, Pt.slots] at X' e1 e2 h1 h2 h3 hsteps
  subst h1; subst h2; subst h3
  cases hq
  obtain ⟨t2, a1, b1⟩ := kk U'.heap (locs ++ L) ls (by rw [e1]; exact hqH) (fun q hq => by
    rcases List.mem_append.mp hq with h | h
    · exact hL q h
    · exact hL9 q h) hl U' rfl X'
  exact ⟨t2, hstep₁ _ (by rw [doInvoke_state]; exact hsteps.trans a1), b1⟩
end KP2
theorem lk_X8_7 : LkP2 "GriefEngine$Teller" 7 ⟨"GriefEngine$Keeper", "behindTelling", "(I)I"⟩ yX3_behindTelling cX3_behindTelling 2 (some .int) 1 := ⟨⟨tw2_231, tw2_232, tw1_68, tw1_47, tw2_218, tw1_3, tw2_234⟩, ⟨by decide, rfl, by decide +kernel⟩, by decide⟩
theorem lk_X8_11 : LkP2 "GriefEngine$Teller" 11 ⟨"GriefEngine$Keeper", "behindResting", "(I)I"⟩ yX3_behindResting cX3_behindResting 2 (some .int) 1 := ⟨⟨tw3_8, tw3_9, tw1_68, tw1_47, tw2_236, tw1_3, tw3_11⟩, ⟨by decide, rfl, by decide +kernel⟩, by decide⟩
theorem some_1 {α β : Type} {a : α} {b : β} {r : α × β} (h : some (a, b) = some r) : a = r.1 := by cases h; rfl
theorem some_2 {α β : Type} {a : α} {b : β} {r : α × β} (h : some (a, b) = some r) : b = r.2 := by cases h; rfl
theorem lt4_0 : 0 < 4 := by decide
theorem lt4_1 : 1 < 4 := by decide
