/-! THE START -/
theorem inv_0 : Inv 0 T0 := by
  refine ⟨by decide, ⟨0, 0, 0, 0, 0, RK0 rfl rfl rfl rfl rfl rfl rfl rfl rfl rfl⟩, fun j hj => ⟨rfl, Or.inl rfl⟩, ⟨0, by decide, rfl, rfl, fun j hj => absurd hj (Nat.not_lt_zero j)⟩, fun j hj => rfl, rfl, rfl⟩
section NRM
variable {B : KB} {X : KE} {own : String} {cc : ByteArray} {nL d MC MS c s : Nat} {pre l : List va_E} {pc : Nat} {lv : List (Nat × Value)} {st : List Value} {T : TT}
theorem n_runM {H : Heap} {locs : List Loc} {ls : Array Slot} {st0 rest : List Value} {mc ms : Nat} (hL : ∀ q ∈ locs, z0 B ≤ q.base)
    (hr : va_Run X.1 X.2.1 X.2.2.1 X.2.2.2.1 X.2.2.2.2.1 X.2.2.2.2.2.1 X.2.2.2.2.2.2.1 X.2.2.2.2.2.2.2.1 X.2.2.2.2.2.2.2.2.1 X.2.2.2.2.2.2.2.2.2.1 H locs c s mc ms (F0 X.2.2.2.2.2.1 pc ls st0) rest (fun _ oc t => oc = .returned none ∧ Hh B T t.heap) (fun q : Nat => z0 B ≤ q))
    (hl : lv_has ls nL lv) (kk : Wk B (kX X (c + mc) (s + ms)) nL T (pc + 3) lv rest) :
    W X.1 X.2.1 X.2.2.1 X.2.2.2.1 X.2.2.2.2.1 X.2.2.2.2.2.1 X.2.2.2.2.2.2.1 X.2.2.2.2.2.2.2.1 X.2.2.2.2.2.2.2.2.1 X.2.2.2.2.2.2.2.2.2.1 H locs c s X.2.2.2.2.2.2.2.2.2.2.2.2 (F0 X.2.2.2.2.2.1 pc ls st0) := by
  intro T9 hT9 X9
  obtain ⟨v, st₀, t, T', L, h0, X', hL', e1, e2, ⟨hv, hH1⟩, stp⟩ := hr T9 hT9 X9
  cases hv
  obtain ⟨t2, a1, b1⟩ := kk T'.heap (locs ++ L) ls (by rw [e1]; exact hH1) (fun q hq => by
    rcases List.mem_append.mp hq with h | h
    · exact hL q h
    · exact hL' q h) hl T' rfl X'
  exact ⟨t2, stp t2 a1, b1⟩
theorem n_callM {idx : Nat} {y : MethodName} {c2 : ByteArray} {maxL d' mc ms : Nat} {l0 : List va_E} {obj : va_E} {a : Nat} {rest : List Value} (C : Cn B X own cc nL d MC MS) (hlink : Cond.methodLink own idx y ∈ GW) (hy1 : y.name = "<init>") (l2 : Cond.instanceMethod y ∈ GW) (l3 : Cond.initialized y.cls ∈ GW) (l4 : Cond.code y c2 maxL none ∈ GW) (l5 : y.cls ≠ "java/lang/invoke/MethodHandle" ∧ y.cls ≠ "java/lang/invoke/VarHandle" ∧ (parseMethodDescriptor y.desc).map (fun d => d.parameters.length) = some 0) (l6 : maxL ≤ 45) (hdd : d' < d) (hl0 : l = l0 ++ [obj]) (hk : Km B X.2.1 d' y c2 maxL mc ms ((pre ++ l0) ++ [obj]) [.ref a] T) (hd : decode cc pc = .ok (.invokespecial idx, 3)) (hW : (rest.map fun v => v.category).sum ≤ 8) (h1 : c + mc ≤ MC) (h2 : s + ms ≤ MS) (kk : Wk B (kX X (c + mc) (s + ms)) nL T (pc + 3) lv rest) : Wn B X nL c s pre l pc lv (.ref a :: rest) := fun H locs ls hH hL hl => by
  subst hl0
  obtain ⟨⟨hx, hb, hml, ho, hts, hK, hf, hlo, hce, hsl⟩, hN, hc1, hc2⟩ := C
  rw [← List.append_assoc] at hH
  refine n_runM hL (va_runI (Ts := GW) (As := []) ⟨hx, hb, hml, ho, hts⟩ hk (cwI 0 hts (gG_code (L := []) (fun w hw => by cases hw) l4) rfl rfl rfl (hts _ l3) (hts _ hlink) (hts _ l2) hy1 l5 (roomN hdd l6 hf hlo)) ⟨n_blind, fun U hU hW => ⟨rfl, by rw [hU]; exact hH, KK.warm hW hK, KN.warm hW hN⟩⟩ rfl rfl hl.1 rfl ?_ hd ⟨by rw [hc1]; exact h1, by rw [hc2]; exact h2⟩) hl kk
  show 2 * 0 + _ ≤ 8
  omega
end NRM
theorem arrC {A : Array Value} {U : State} {ty : FieldType} (h : (Cond.arrayClass ty).before A U = true) : ∃ cA : ClassId, ArrOfT U cA ty ∧ U.vm.findClass ("[" ++ ty.toString) = some cA := by
  obtain ⟨cA, k, comp, h1, h2, h3⟩ := Cond.arrayClass_spec h
  exact ⟨cA, fun n z => ⟨fun k h => (by cases h), k, h2, comp, h3⟩, h1⟩
theorem arrO {A : Array Value} {U : State} {C : String} (h : (Cond.arrayOver (.object C)).before A U = true) : ∃ cA : ClassId, ArrOfT U cA (.object C) ∧ va_RA U cA (.object C) := by
  obtain ⟨comp, cA, k, h1, -, h2, h3, h4⟩ := Cond.arrayOver_spec h
  exact ⟨cA, fun n z => ⟨fun k h => (by cases h), k, h2, comp, h3⟩, ⟨k, comp, h2, h3, h1, h4⟩⟩
set_option maxHeartbeats 16000000 in
set_option maxRecDepth 100000 in
theorem kn_start {b : Nat} {s : State} (hts : ∀ w ∈ lw_tbl, w.before #[Value.ref b] s = true) : KN s := by
  have hT : ∀ (w : Cond) (i : Nat), tables_1[i]? = some w → w.before #[Value.ref b] s = true := fun w i h => hts w (List.mem_append_right _ (List.mem_of_getElem? h))
  refine ⟨?_, (hT (.arrayOver (.object "GriefEngine$Plain")) 34 (by decide +kernel)), (hT (.arrayOver (.object "GriefEngine$Rank")) 130 (by decide +kernel)), AOI.of (hT (.arrayOver (.array .int)) 183 (by decide +kernel)), ?_⟩
  · exact List.forall_mem_cons.mpr ⟨(va_Nw.of rfl (hT (.methodLinkNest "GriefEngine" 11 yX4_init "GriefEngine") 29 (by decide +kernel))), List.forall_mem_cons.mpr ⟨(va_Nw.of rfl (hT (.methodLinkNest "GriefEngine$Rank" 11 yX3_init "GriefEngine") 36 (by decide +kernel))), List.forall_mem_cons.mpr ⟨(va_Nw.of rfl (hT (.methodLinkNest "GriefEngine$Rank" 14 yX0_init "GriefEngine") 43 (by decide +kernel))), List.forall_mem_cons.mpr ⟨(va_Nw.of rfl (hT (.methodLinkNest "GriefEngine$Keeper" 1 yX3_init "GriefEngine") 46 (by decide +kernel))), List.forall_mem_cons.mpr ⟨(va_Nw.of rfl (hT (.methodLinkNest "GriefEngine$Rank" 17 yX6_init "GriefEngine") 50 (by decide +kernel))), List.forall_mem_cons.mpr ⟨(va_Nw.of rfl (hT (.methodLinkNest "GriefEngine$Sham" 1 yX3_init "GriefEngine") 53 (by decide +kernel))), List.forall_mem_cons.mpr ⟨(va_Nw.of rfl (hT (.methodLinkNest "GriefEngine$Rank" 20 yX7_init "GriefEngine") 57 (by decide +kernel))), List.forall_mem_cons.mpr ⟨(va_Nw.of rfl (hT (.methodLinkNest "GriefEngine$Spring" 3 yX3_init "GriefEngine") 60 (by decide +kernel))), List.forall_mem_cons.mpr ⟨(va_Nw.of rfl (hT (.methodLinkNest "GriefEngine$Rank" 23 yX8_init "GriefEngine") 64 (by decide +kernel))), List.forall_mem_cons.mpr ⟨(va_Nw.of rfl (hT (.methodLinkNest "GriefEngine$Teller" 1 yX0_init "GriefEngine") 67 (by decide +kernel))), List.forall_mem_cons.mpr ⟨(va_Nw.of rfl (hT (.methodLinkNest "GriefEngine$Rank" 26 yX1_init "GriefEngine") 71 (by decide +kernel))), List.forall_mem_cons.mpr ⟨(va_Nw.of rfl (hT (.methodLinkNest "GriefEngine$Old" 1 yX7_init "GriefEngine") 74 (by decide +kernel))), List.forall_mem_cons.mpr ⟨(va_Nw.of rfl (hT (.methodLinkNest "GriefEngine" 29 yX9_init "GriefEngine") 133 (by decide +kernel))), List.forall_mem_cons.mpr ⟨(va_Nw.of rfl (hT (.methodLinkNest "GriefEngine$Rows" 21 yX3_init "GriefEngine") 185 (by decide +kernel))), List.forall_mem_cons.mpr ⟨(va_Nw.of rfl (hT (.methodLinkNest "GriefEngine" 43 yX2_init "GriefEngine") 207 (by decide +kernel))), fun _ q => absurd q List.not_mem_nil⟩⟩⟩⟩⟩⟩⟩⟩⟩⟩⟩⟩⟩⟩⟩
  · exact List.forall_mem_cons.mpr ⟨(va_Nw.of rfl (hT (.castable "GriefEngine$Keeper" "GriefEngine$Plain") 1147 (by decide +kernel))), List.forall_mem_cons.mpr ⟨(va_Nw.of rfl (hT (.castable "GriefEngine$Sham" "GriefEngine$Plain") 1148 (by decide +kernel))), List.forall_mem_cons.mpr ⟨(va_Nw.of rfl (hT (.castable "GriefEngine$Spring" "GriefEngine$Plain") 1149 (by decide +kernel))), List.forall_mem_cons.mpr ⟨(va_Nw.of rfl (hT (.castable "GriefEngine$Teller" "GriefEngine$Plain") 1150 (by decide +kernel))), List.forall_mem_cons.mpr ⟨(va_Nw.of rfl (hT (.castable "GriefEngine$Old" "GriefEngine$Plain") 1151 (by decide +kernel))), fun _ q => absurd q List.not_mem_nil⟩⟩⟩⟩⟩
set_option maxHeartbeats 16000000 in
set_option maxRecDepth 100000 in
theorem kk_start {b : Nat} {s : State} (hts : ∀ w ∈ lw_tbl, w.before #[Value.ref b] s = true) (hgv : (Jvm.Cond.and given_1 narrow_1).before #[Value.ref b] s = true) : ∃ (sa sv : Nat → Nat) (dC : Nat → ClassId) (dI : Nat → Nat → Nat) (cA : Nat → ClassId), KK (BB sa sv dC dI cA s.heap) s := by
  have hT : ∀ (w : Cond) (i : Nat), tables_1[i]? = some w → w.before #[Value.ref b] s = true := fun w i h => hts w (List.mem_append_right _ (List.mem_of_getElem? h))
  have hG : ∀ w ∈ GW, w.before #[Value.ref b] s = true := fun w hw => hts w (List.mem_filter.mp hw).1
  have hs := flat_of_before _ hgv
  obtain ⟨c0, i0, h0⟩ := u_known (C := RX0) (T := TX0) (N := 0) (n := 0) hG inGX0 (hG _ tw1_42)
  obtain ⟨c1, i1, h1⟩ := u_known (C := RX1) (T := TX1) (N := 0) (n := 0) hG inGX1 (hG _ tw1_70)
  obtain ⟨c2, i2, h2⟩ := u_known (C := RX2) (T := TX2) (N := 3) (n := 3) hG inGX2 (hG _ tw1_206)
  obtain ⟨c3, i3, h3⟩ := u_known (C := RX3) (T := TX3) (N := 0) (n := 0) hG inGX3 (hG _ tw1_35)
  obtain ⟨c4, i4, h4⟩ := u_known (C := RX4) (T := TX4) (N := 12) (n := 12) hG inGX4 (hG _ tw1_28)
  obtain ⟨c5, i5, h5⟩ := u_known (C := RX5) (T := TX5) (N := 6) (n := 6) hG inGX5 (hG _ tw1_177)
  obtain ⟨c6, i6, h6⟩ := u_known (C := RX6) (T := TX6) (N := 0) (n := 0) hG inGX6 (hG _ tw1_49)
  obtain ⟨c7, i7, h7⟩ := u_known (C := RX7) (T := TX7) (N := 0) (n := 0) hG inGX7 (hG _ tw1_56)
  obtain ⟨c8, i8, h8⟩ := u_known (C := RX8) (T := TX8) (N := 0) (n := 0) hG inGX8 (hG _ tw1_63)
  obtain ⟨c9, i9, h9⟩ := u_known (C := RX9) (T := TX9) (N := 10) (n := 10) hG inGX9 (hG _ tw1_132)
  obtain ⟨c10, i10, h10⟩ := u_known (C := RX10) (T := TX10) (N := 11) (n := 11) hG inGX10 (hG _ tw1_20)
  obtain ⟨c11, i11, h11⟩ := u_known (C := RX11) (T := TX11) (N := 20) (n := 20) hG inGX11 (hG _ tw4_53)
  obtain ⟨dC, dI, hKc⟩ : ∃ (dC : Nat → ClassId) (dI : Nat → Nat → Nat), ∀ (k : Nat) (q : vw_C), vwCl[k]? = some q → u_Kn s q.1 q.2.1 q.2.2 (dC k) (dI k) := by
    refine ⟨fun k => if k = 0 then c0 else if k = 1 then c1 else if k = 2 then c2 else if k = 3 then c3 else if k = 4 then c4 else if k = 5 then c5 else if k = 6 then c6 else if k = 7 then c7 else if k = 8 then c8 else if k = 9 then c9 else if k = 10 then c10 else c11, fun k => if k = 0 then i0 else if k = 1 then i1 else if k = 2 then i2 else if k = 3 then i3 else if k = 4 then i4 else if k = 5 then i5 else if k = 6 then i6 else if k = 7 then i7 else if k = 8 then i8 else if k = 9 then i9 else if k = 10 then i10 else i11, ?_⟩
    intro k q hq
    match k, hq with
    | 0, hq => cases hq; exact h0
    | 1, hq => cases hq; exact h1
    | 2, hq => cases hq; exact h2
    | 3, hq => cases hq; exact h3
    | 4, hq => cases hq; exact h4
    | 5, hq => cases hq; exact h5
    | 6, hq => cases hq; exact h6
    | 7, hq => cases hq; exact h7
    | 8, hq => cases hq; exact h8
    | 9, hq => cases hq; exact h9
    | 10, hq => cases hq; exact h10
    | 11, hq => cases hq; exact h11
    | k + 12, hq => simp at hq
  obtain ⟨a0, x0, y0⟩ := arrC (ty := .int) (hT (.arrayClass .int) 129 (by decide +kernel))
  obtain ⟨a1, x1, y1⟩ := arrC (ty := .byte) (hT (.arrayClass .byte) 175 (by decide +kernel))
  obtain ⟨a2, x2, y2⟩ := arrC (ty := .boolean) (hT (.arrayClass .boolean) 174 (by decide +kernel))
  obtain ⟨a3, x3, y3⟩ := arrO (C := "GriefEngine$Plain") (hT (.arrayOver (.object "GriefEngine$Plain")) 34 (by decide +kernel))
  obtain ⟨a4, x4, y4⟩ := arrO (C := "GriefEngine$Rank") (hT (.arrayOver (.object "GriefEngine$Rank")) 130 (by decide +kernel))
  obtain ⟨comp, a5, k5, f1, -, f3, f4, f5⟩ := AOI.of (hT (.arrayOver (.array .int)) 183 (by decide +kernel))
  have x5 : ArrOfT s a5 (.array .int) := fun n z => ⟨fun k h => (by cases h), k5, f3, comp, f4⟩
  have hA : ∀ a : Nat, a < s.heap.size → ¬ (fun q : Nat => s.heap.size ≤ q) a := fun a ha q => absurd (show s.heap.size ≤ a from q) (by omega)
  obtain ⟨sa, sv, hS, hE⟩ := vk_Sof (args := #[Value.ref b]) (s := s) (N := 3) (tm := fun i => .string "GriefEngine$Text" (if i = 0 then 29 else if i = 1 then 42 else 47)) (len := [4, 6, 4]) (byt := sbt) (A := fun q : Nat => s.heap.size ≤ q)
    (fun i hi => by rcases (show i = 0 ∨ i = 1 ∨ i = 2 by omega) with rfl | rfl | rfl <;> decide)
    (fun i hi => by rcases (show i = 0 ∨ i = 1 ∨ i = 2 by omega) with rfl | rfl | rfl <;> exact hs _ (by decide +kernel))
    (fun i hi => by rcases (show i = 0 ∨ i = 1 ∨ i = 2 by omega) with rfl | rfl | rfl <;> exact hs _ (by decide +kernel))
    (fun i hi => by rcases (show i = 0 ∨ i = 1 ∨ i = 2 by omega) with rfl | rfl | rfl <;> exact hs _ (by decide +kernel))
    (fun i hi => by rcases (show i = 0 ∨ i = 1 ∨ i = 2 by omega) with rfl | rfl | rfl <;> exact hs _ (by decide +kernel))
    (fun i hi j hj => by
      rcases (show i = 0 ∨ i = 1 ∨ i = 2 by omega) with rfl | rfl | rfl
      · have hj : j < 4 := hj
        rcases (show j = 0 ∨ j = 1 ∨ j = 2 ∨ j = 3 by omega) with rfl | rfl | rfl | rfl <;> exact hs _ (by decide +kernel)
      · have hj : j < 6 := hj
        rcases (show j = 0 ∨ j = 1 ∨ j = 2 ∨ j = 3 ∨ j = 4 ∨ j = 5 by omega) with rfl | rfl | rfl | rfl | rfl | rfl <;> exact hs _ (by decide +kernel)
      · have hj : j < 4 := hj
        rcases (show j = 0 ∨ j = 1 ∨ j = 2 ∨ j = 3 by omega) with rfl | rfl | rfl | rfl <;> exact hs _ (by decide +kernel))
    (fun i j hi hj hij => by
      rcases (show i = 0 ∨ i = 1 ∨ i = 2 by omega) with rfl | rfl | rfl <;> rcases (show j = 0 ∨ j = 1 ∨ j = 2 by omega) with rfl | rfl | rfl <;> first | exact absurd rfl hij | exact Or.inl (hs _ (by decide +kernel)) | exact Or.inr (hs _ (by decide +kernel)))
    hA
  refine ⟨sa, sv, dC, dI, fun k => if k = 0 then a0 else if k = 1 then a1 else if k = 2 then a2 else if k = 3 then a3 else if k = 4 then a4 else a5, ⟨hKc, fun k q hq => ?_⟩, (va_Nw.of rfl (hT (.methodLinkNest "GriefEngine$Plain" 30 yX10_seasonOf "GriefEngine") 697 (by decide +kernel))), (va_Nw.of rfl (hT (.methodLinkNest "GriefEngine$Rank" 90 yX10_seasonOf "GriefEngine") 408 (by decide +kernel))), (va_Nw.of rfl (hT (.methodLinkNest "GriefEngine$Rows" 75 yX10_seasonOf "GriefEngine") 568 (by decide +kernel))), hS, va_Zof (hT (.laysStatic "java/lang/String" "COMPACT_STRINGS" "Z") 338 (by decide +kernel)) (hG _ tw1_13) (va_eqt (hs _ (by decide +kernel))) hA, va_Zqof (hT (.laysStatic "jdk/internal/util/Preconditions" "SIOOBE_FORMATTER" "Ljava/util/function/BiFunction;") 354 (by decide +kernel)) (hG _ tw1_15) (hs _ (by decide +kernel)) hA, (vk_R.of (hT (.stringRef "GriefEngine$Text" 29 "rank") 324 (by decide +kernel)) (hE 0 (by decide))), (vk_R.of (hT (.stringRef "GriefEngine$Text" 42 "driver") 386 (by decide +kernel)) (hE 1 (by decide))), (vk_R.of (hT (.stringRef "GriefEngine$Text" 47 "days") 387 (by decide +kernel)) (hE 2 (by decide)))⟩
  match k, hq with
  | 0, hq => cases hq; exact ⟨x0, y0⟩
  | 1, hq => cases hq; exact ⟨x1, y1⟩
  | 2, hq => cases hq; exact ⟨x2, y2⟩
  | 3, hq => cases hq; exact ⟨x3, y3⟩
  | 4, hq => cases hq; exact ⟨x4, y4⟩
  | 5, hq => cases hq; exact ⟨x5, f5⟩
  | k + 6, hq => simp at hq
set_option maxHeartbeats 16000000 in
set_option maxRecDepth 100000 in
theorem whole_start {p : Program} {e : Env} {s : State} {m : MethodId} {below : List Frame} {meth : Method} {c : Code} (l : Launch) (hflags : l.flags = flags0) {b L : Nat} {xs : Nat → Int32} (hL : L ≤ 448) (C0 : lw_At p s m meth c b L xs) : W p l e room_1 s m #[Value.ref b] below meth c s.heap [] 0 0 (lw_Z below #[Value.ref b] s) (entryFrame m ([Value.ref b] : List Value).toArray 4) := by
  obtain ⟨hx, hb, hr, hml, hown, hts, hX, hbl, hlocks, hgv⟩ := id C0
  obtain ⟨sa, sv, dC, dI, cA, hKK⟩ := kk_start hts hgv
  have hKN := kn_start hts
  have hhT : ∀ H, Hn (BB sa sv dC dI cA s.heap) (enL (BB sa sv dC dI cA s.heap) 0 ++ moL (BB sa sv dC dI cA s.heap) 86) H → Hh (BB sa sv dC dI cA s.heap) T0 H := fun H h => hh_T0 h
  have hB0 : (BB sa sv dC dI cA s.heap).2.2.2.2 = s.heap := rfl
  have hB4 : (BB sa sv dC dI cA s.heap).1 4 0 = z0 (BB sa sv dC dI cA s.heap) + (0 + 0) := rfl
  have hB10 : z0 (BB sa sv dC dI cA s.heap) + (86 + 0) = (BB sa sv dC dI cA s.heap).1 10 0 := rfl
  generalize BB sa sv dC dI cA s.heap = B at hKK hhT hB0 hB4 hB10
  have hG : ∀ w ∈ GW, w.before #[Value.ref b] s = true := fun w hw => hts w (List.mem_filter.mp hw).1
  have hl := lv_entry ([.ref b]) (n := 4) (Nat.le_of_ble_eq_true rfl)
  rw [lg_entry_eq]
  generalize (lg_sl ([.ref b]) ++ List.replicate (4 - (lg_sl ([.ref b])).length) Slot.unset).toArray = ls at hl ⊢
  have hl : lv_has ls 4 [(0, .ref b)] := hl
  generalize hXX : ((p, l, e, room_1, s, m, #[Value.ref b], below, meth, c, 0, 0, lw_Z below #[Value.ref b] s) : KE) = X
  have C : Cn B X "GriefEngineLaw" cL_law 4 20 600000 7302250 := by
    rw [← hXX]
    exact ⟨⟨hx, hb, hml, hown, hG, hKK, Nat.le_of_ble_eq_true rfl, Nat.le_of_ble_eq_true rfl, Nat.zero_le _, Nat.zero_le _⟩, hKN, rfl, rfl⟩
  have key : Wn B X 4 0 0 [] [] 0 [(0, .ref b)] [] := by
    refine n_new (pc := 0) C [.null, .null, .null, .null, .null, .null, .null, .null, .null, .long 0, .long 0] [.inr (10, [.null, .null, .null, .null, .null, .null, .null, .null, .null, .long 0, .long 0])] 0 (ci := 10) rfl inGX10 tyX10_ok tw1_19 tw1_20 tw1_1 (fun j hj => by
      match j, hj with
      | 0, _ => rfl
      | 1, _ => rfl
      | 2, _ => rfl
      | 3, _ => rfl
      | 4, _ => rfl
      | 5, _ => rfl
      | 6, _ => rfl
      | 7, _ => rfl
      | 8, _ => rfl
      | 9, _ => rfl
      | 10, _ => rfl
      | j + 11, hj => exact absurd hj (by omega)) (Nat.le_of_ble_eq_true rfl) (Nat.le_of_ble_eq_true rfl) dL_law_0 rfl rfl ?_
    refine n_dup (pc := 3) C dL_law_3 rfl ?_
    refine n_callI (pc := 4) (d' := 5) (mc := 85) (ms := 2562) (l0 := []) (lc := enL B 0) C tw1_21 rfl tw1_22 tw1_1 tw1_23 ⟨by decide, by decide, by decide +kernel⟩ (by decide) (by decide) rfl (kq_X10_init mna ([] ++ []) 0 rfl) dL_law_4 (Nat.le_of_ble_eq_true rfl) (Nat.le_of_ble_eq_true rfl) (Nat.le_of_ble_eq_true rfl) rfl ?_
    refine n_astore_n (pc := 7) C [(1, .ref (z0 B + (0 + 0))), (0, .ref b)] dL_law_7 (by decide) rfl ?_
    refine n_new (pc := 8) C [.null, .null, .null, .null, .long 0, .long 0, .int 0, .int 0, .int 0, .null, .null, .null, .null, .int 0, .int 0, .int 0, .int 0, .int 0, .null, .null] (enL B 0 ++ [.inr (11, [.null, .null, .null, .null, .long 0, .long 0, .int 0, .int 0, .int 0, .null, .null, .null, .null, .int 0, .int 0, .int 0, .int 0, .int 0, .null, .null])]) 86 (ci := 11) rfl inGX11 tyX11_ok tw4_52 tw4_53 tw1_12 (fun j hj => by
      match j, hj with
      | 0, _ => rfl
      | 1, _ => rfl
      | 2, _ => rfl
      | 3, _ => rfl
      | 4, _ => rfl
      | 5, _ => rfl
      | 6, _ => rfl
      | 7, _ => rfl
      | 8, _ => rfl
      | 9, _ => rfl
      | 10, _ => rfl
      | 11, _ => rfl
      | 12, _ => rfl
      | 13, _ => rfl
      | 14, _ => rfl
      | 15, _ => rfl
      | 16, _ => rfl
      | 17, _ => rfl
      | 18, _ => rfl
      | 19, _ => rfl
      | j + 20, hj => exact absurd hj (by omega)) (Nat.le_of_ble_eq_true rfl) (Nat.le_of_ble_eq_true rfl) dL_law_8 rfl rfl ?_
    refine n_dup (pc := 11) C dL_law_11 rfl ?_
    refine n_callM (pc := 12) (d' := 2) (mc := 10) (ms := 771) (l0 := enL B 0) (T := T0) C tw4_54 rfl tw4_55 tw1_12 tw4_56 ⟨by decide, by decide, by decide +kernel⟩ (by decide) (by decide) rfl (km_X11_init (enL B 0) hB10 hhT) dL_law_12 (Nat.le_of_ble_eq_true rfl) (Nat.le_of_ble_eq_true rfl) (Nat.le_of_ble_eq_true rfl) ?_
    have C2 := C.toK (c := 0 + 1 + 85 + 1 + 10) (s := 0 + 11 + 2562 + 20 + 771) (Nat.le_of_ble_eq_true rfl) (Nat.le_of_ble_eq_true rfl)
    refine k_astore_n (pc := 15) C2 [(2, .ref (z0 B + (86 + 0))), (1, .ref (z0 B + (0 + 0))), (0, .ref b)] dL_law_15 (by decide) rfl ?_
    refine k_iconst (pc := 16) (v := (0 : Int32)) C2 dL_law_16 ciconst_0 ?_
    refine k_istore_n (pc := 17) C2 [(3, .int 0), (2, .ref (z0 B + (86 + 0))), (1, .ref (z0 B + (0 + 0))), (0, .ref b)] dL_law_17 (by decide) rfl ?_
    refine k_sub [3, 2, 1, 0] rfl ?_
    rw [hB10, ← hB4]
    refine k_L_law_l18 (b := b) (L := L) (xs := xs) C2 ?_ ?_ 100 T0 0 (law_all hL 64 0 100 T0 (by decide) (by decide) inv_0)
    · rw [← hXX]
      exact ⟨rfl, rfl, hr, hlocks, rfl, hB0, Nat.le_of_ble_eq_true rfl, Nat.le_of_ble_eq_true rfl⟩
    · rw [← hXX]
      exact ⟨by rw [hB0]; exact hX, by rw [hB0]; exact hbl⟩
  have hk := key s.heap [] ls ⟨by show s.heap.size = z0 B + 0; show s.heap.size = B.2.2.2.2.size + 0; rw [hB0]; rfl, (fun k e h => by cases h), (fun q _ => by rw [hB0])⟩ (fun q hq => by cases hq) hl
  rw [← hXX] at hk
  exact hk
