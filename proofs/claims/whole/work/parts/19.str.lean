theorem dJ0_length_8abf5_0 : decode cJ0_length_8abf5 0 = .ok (.aload_n 0, 1) := by decide +kernel
theorem dJ0_length_8abf5_1 : decode cJ0_length_8abf5 1 = .ok (.getfield 9, 3) := by decide +kernel
theorem dJ0_length_8abf5_4 : decode cJ0_length_8abf5 4 = .ok (.arraylength, 1) := by decide +kernel
theorem dJ0_length_8abf5_5 : decode cJ0_length_8abf5 5 = .ok (.aload_n 0, 1) := by decide +kernel
theorem dJ0_length_8abf5_6 : decode cJ0_length_8abf5 6 = .ok (.invokevirtual 335, 3) := by decide +kernel
theorem dJ0_length_8abf5_9 : decode cJ0_length_8abf5 9 = .ok (.ishr, 1) := by decide +kernel
theorem dJ0_length_8abf5_10 : decode cJ0_length_8abf5 10 = .ok (.ireturn, 1) := by decide +kernel
theorem dJ0_charAt_5068e_0 : decode cJ0_charAt_5068e 0 = .ok (.aload_n 0, 1) := by decide +kernel
theorem dJ0_charAt_5068e_1 : decode cJ0_charAt_5068e 1 = .ok (.invokevirtual 492, 3) := by decide +kernel
theorem dJ0_charAt_5068e_4 : decode cJ0_charAt_5068e 4 = .ok (.ifCond .eq 12, 3) := by decide +kernel
theorem dJ0_charAt_5068e_7 : decode cJ0_charAt_5068e 7 = .ok (.aload_n 0, 1) := by decide +kernel
theorem dJ0_charAt_5068e_8 : decode cJ0_charAt_5068e 8 = .ok (.getfield 9, 3) := by decide +kernel
theorem dJ0_charAt_5068e_11 : decode cJ0_charAt_5068e 11 = .ok (.iload_n 1, 1) := by decide +kernel
theorem dJ0_charAt_5068e_12 : decode cJ0_charAt_5068e 12 = .ok (.invokestatic 495, 3) := by decide +kernel
theorem dJ0_charAt_5068e_15 : decode cJ0_charAt_5068e 15 = .ok (.ireturn, 1) := by decide +kernel
theorem dJ0_coder_7d493_0 : decode cJ0_coder_7d493 0 = .ok (.getstatic 38, 3) := by decide +kernel
theorem dJ0_coder_7d493_3 : decode cJ0_coder_7d493 3 = .ok (.ifCond .eq 10, 3) := by decide +kernel
theorem dJ0_coder_7d493_6 : decode cJ0_coder_7d493 6 = .ok (.aload_n 0, 1) := by decide +kernel
theorem dJ0_coder_7d493_7 : decode cJ0_coder_7d493 7 = .ok (.getfield 15, 3) := by decide +kernel
theorem dJ0_coder_7d493_10 : decode cJ0_coder_7d493 10 = .ok (.goto 4, 3) := by decide +kernel
theorem dJ0_coder_7d493_14 : decode cJ0_coder_7d493 14 = .ok (.ireturn, 1) := by decide +kernel
theorem dJ0_isLatin1_aae02_0 : decode cJ0_isLatin1_aae02 0 = .ok (.getstatic 38, 3) := by decide +kernel
theorem dJ0_isLatin1_aae02_3 : decode cJ0_isLatin1_aae02 3 = .ok (.ifCond .eq 14, 3) := by decide +kernel
theorem dJ0_isLatin1_aae02_6 : decode cJ0_isLatin1_aae02 6 = .ok (.aload_n 0, 1) := by decide +kernel
theorem dJ0_isLatin1_aae02_7 : decode cJ0_isLatin1_aae02 7 = .ok (.getfield 15, 3) := by decide +kernel
theorem dJ0_isLatin1_aae02_10 : decode cJ0_isLatin1_aae02 10 = .ok (.ifCond .ne 7, 3) := by decide +kernel
theorem dJ0_isLatin1_aae02_13 : decode cJ0_isLatin1_aae02 13 = .ok (.iconst 1, 1) := by decide +kernel
theorem dJ0_isLatin1_aae02_14 : decode cJ0_isLatin1_aae02 14 = .ok (.goto 4, 3) := by decide +kernel
theorem dJ0_isLatin1_aae02_18 : decode cJ0_isLatin1_aae02 18 = .ok (.ireturn, 1) := by decide +kernel
theorem dJ0_checkIndex_df160_0 : decode cJ0_checkIndex_df160 0 = .ok (.iload_n 0, 1) := by decide +kernel
theorem dJ0_checkIndex_df160_1 : decode cJ0_checkIndex_df160 1 = .ok (.iload_n 1, 1) := by decide +kernel
theorem dJ0_checkIndex_df160_2 : decode cJ0_checkIndex_df160 2 = .ok (.getstatic 1053, 3) := by decide +kernel
theorem dJ0_checkIndex_df160_5 : decode cJ0_checkIndex_df160 5 = .ok (.invokestatic 1059, 3) := by decide +kernel
theorem dJ0_checkIndex_df160_8 : decode cJ0_checkIndex_df160 8 = .ok (.pop, 1) := by decide +kernel
theorem dJ0_checkIndex_df160_9 : decode cJ0_checkIndex_df160 9 = .ok (.return_, 1) := by decide +kernel
theorem dJ1_charAt_3b067_0 : decode cJ1_charAt_3b067 0 = .ok (.iload_n 1, 1) := by decide +kernel
theorem dJ1_charAt_3b067_1 : decode cJ1_charAt_3b067 1 = .ok (.aload_n 0, 1) := by decide +kernel
theorem dJ1_charAt_3b067_2 : decode cJ1_charAt_3b067 2 = .ok (.arraylength, 1) := by decide +kernel
theorem dJ1_charAt_3b067_3 : decode cJ1_charAt_3b067 3 = .ok (.invokestatic 9, 3) := by decide +kernel
theorem dJ1_charAt_3b067_6 : decode cJ1_charAt_3b067 6 = .ok (.aload_n 0, 1) := by decide +kernel
theorem dJ1_charAt_3b067_7 : decode cJ1_charAt_3b067 7 = .ok (.iload_n 1, 1) := by decide +kernel
theorem dJ1_charAt_3b067_8 : decode cJ1_charAt_3b067 8 = .ok (.baload, 1) := by decide +kernel
theorem dJ1_charAt_3b067_9 : decode cJ1_charAt_3b067 9 = .ok (.sipush 255, 3) := by decide +kernel
theorem dJ1_charAt_3b067_12 : decode cJ1_charAt_3b067 12 = .ok (.iand, 1) := by decide +kernel
theorem dJ1_charAt_3b067_13 : decode cJ1_charAt_3b067 13 = .ok (.i2c, 1) := by decide +kernel
theorem dJ1_charAt_3b067_14 : decode cJ1_charAt_3b067 14 = .ok (.ireturn, 1) := by decide +kernel
theorem dJ3_checkIndex_8e157_0 : decode cJ3_checkIndex_8e157 0 = .ok (.iload_n 0, 1) := by decide +kernel
theorem dJ3_checkIndex_8e157_1 : decode cJ3_checkIndex_8e157 1 = .ok (.ifCond .lt 8, 3) := by decide +kernel
theorem dJ3_checkIndex_8e157_4 : decode cJ3_checkIndex_8e157 4 = .ok (.iload_n 0, 1) := by decide +kernel
theorem dJ3_checkIndex_8e157_5 : decode cJ3_checkIndex_8e157 5 = .ok (.iload_n 1, 1) := by decide +kernel
theorem dJ3_checkIndex_8e157_6 : decode cJ3_checkIndex_8e157 6 = .ok (.if_icmp .lt 10, 3) := by decide +kernel
theorem dJ3_checkIndex_8e157_16 : decode cJ3_checkIndex_8e157 16 = .ok (.iload_n 0, 1) := by decide +kernel
theorem dJ3_checkIndex_8e157_17 : decode cJ3_checkIndex_8e157 17 = .ok (.ireturn, 1) := by decide +kernel
/-! the texts: String.length, charAt of the three constants; what of the JDK they reach -/
def slenN (w : Nat) : Nat := ([4, 6, 4] : List Nat).getD w 0
def slen (w : Nat) : Int32 := Int32.ofNat (slenN w)
def sch (w : Nat) (i : Int32) : Int32 := (sbt.getD w []).getD i.toNatClampNeg 0
section KSTR
variable {B : KB} {X : KE} {own : String} {cc : ByteArray} {nL d : Nat} {T : TT} {pc : Nat} {lv : List (Nat × Value)} {st : List Value} {w : Nat}
theorem Hh.old {H : Heap} (hH : Hh B T H) : ∀ a : Nat, a < B.2.2.2.2.size → ¬ B.2.2.2.2.size ≤ a → H[a]? = B.2.2.2.2[a]? := fun a h _ => hH.2.2.1.2 a h
theorem k_sldc {idx : Nat} {tx : String} (C : Cx B X own cc nL d) (hZ : vk_R own idx tx (B.1 11 w) X.2.2.2.2.1) (hd : decode cc pc = .ok (.ldc idx, 2)) (kk : Wk B X nL T (pc + 2) lv (.ref (B.1 11 w) :: st)) : Wk B X nL T pc lv st := fun H locs ls hH hL hl => va_ldcS C.1 C.2.1 C.2.2.2.1 hZ hd (kk H locs ls hH hL hl)
theorem k_sgetf {o n ds ref : String} {idx q : Nat} {v : Value} (C : Cx B X own cc nL d) (hE : va_OF o n ds v q (fun q : Nat => B.2.2.2.2.size ≤ q) X.2.2.2.2.1 B.2.2.2.2) (ho : o = ref) (hlink : Cond.fieldLink own idx ref n ds ∈ GW) (hd : decode cc pc = .ok (.getfield idx, 3)) (kk : Wk B X nL T (pc + 3) lv (v :: st)) : Wk B X nL T pc lv (.ref q :: st) := fun H locs ls hH hL hl => by
  subst ho
  obtain ⟨cf, k, fi, f, cell, h1, h2, h3, h4, h5, h6⟩ := hE.kept hH.old
  exact W.getf C.1 C.2.1 C.2.2.2.1 (C.2.2.2.2.1 _ hlink) h1 h2 h3 h4 (v := v) h5 rfl rfl hd (kk H locs ls hH hL hl)
theorem k_sgets {o n ds ref : String} {idx : Nat} {v : Value} (C : Cx B X own cc nL d) (hZ : va_Z o n ds v (fun q : Nat => B.2.2.2.2.size ≤ q) X.2.2.2.2.1 B.2.2.2.2) (ho : o = ref) (hlink : Cond.fieldLink own idx ref n ds ∈ GW) (hd : decode cc pc = .ok (.getstatic idx, 3)) (kk : Wk B X nL T (pc + 3) lv (v :: st)) : Wk B X nL T pc lv st := fun H locs ls hH hL hl => by
  subst ho
  obtain ⟨cf, kf, fi, f, a, cell, h1, h2, h3, h4, h5, h6, h7, h8⟩ := hZ.kept hH.old
  exact W.gets C.1 C.2.1 C.2.2.2.1 (C.2.2.2.2.1 _ hlink) h1 h2 h3 h4 h5 (fun e => by rw [e] at h6; cases h6) h7 rfl hd (kk H locs ls hH hL hl)
theorem k_tlen {t N : Nat} {f : Nat → Value} {v : Int32} (C : Cx B X own cc nL d) (hT : va_T .byte t N f (fun q : Nat => B.2.2.2.2.size ≤ q) X.2.2.2.2.1 B.2.2.2.2) (hv : Int32.ofNat N = v) (hd : decode cc pc = .ok (.arraylength, 1)) (kk : Wk B X nL T (pc + 1) lv (.int v :: st)) : Wk B X nL T pc lv (.ref t :: st) := fun H locs ls hH hL hl => by
  obtain ⟨cell, h1, h2, h3, h4, h5, h6, h7⟩ := hT.kept hH.old
  exact W.alen C.1 C.2.1 h1 h2 (h5.trans hv) rfl rfl hd (kk H locs ls hH hL hl)
theorem k_tbald {t N : Nat} {f : Nat → Value} {i : Int32} {v : Value} (C : Cx B X own cc nL d) (hT : va_T .byte t N f (fun q : Nat => B.2.2.2.2.size ≤ q) X.2.2.2.2.1 B.2.2.2.2) (hin : inb i N) (hv : f i.toNatClampNeg = v) (hd : decode cc pc = .ok (.baload, 1)) (kk : Wk B X nL T (pc + 1) lv (v :: st)) : Wk B X nL T pc lv (.int i :: .ref t :: st) := fun H locs ls hH hL hl => by
  obtain ⟨cell, h1, h2, h3, h4, h5, h6, h7⟩ := hT.kept hH.old
  have hlt := inb_lt hin
  exact W.bald C.1 C.2.1 h1 h2 h3 (fun q => q.elim (fun h => hin (Or.inl h)) (fun h => by omega)) ((h6 _ hlt).trans (by rw [hv])) rfl rfl hd (kk H locs ls hH hL hl)
/-- a call on a text -/
theorem k_callvS {idx : Nat} {y : MethodName} {c2 : ByteArray} {maxL n d' : Nat} {ret : Option FieldType} {as rest : List Value} {v : Int32} {T1 : TT} (C : Cx B X own cc nL d) (lk : LkV own idx y c2 maxL ret n) (hy : y.cls = "java/lang/String") (hdd : d' < d) (hw : w < 3) (hk : Kt B X.2.1 d' y c2 maxL ret T (.ref (B.1 11 w) :: as) (some (.int v)) T1) (hd : decode cc pc = .ok (.invokevirtual idx, 3)) (hn : as.length = n) (hs : st = as.reverse ++ .ref (B.1 11 w) :: rest) (hW : (rest.map fun v => v.category).sum ≤ 8) (kk : Wk B X nL T1 (pc + 3) lv (.int v :: rest)) : Wk B X nL T pc lv st := fun H locs ls hH hL hl => by
  obtain ⟨hx, hb, hml, ho, hts, hK, hf, hlo, hce, hsl⟩ := C
  obtain ⟨⟨l1, l2, l3, l3', l4⟩, l5, l6⟩ := lk
  obtain ⟨cell, hr1, hr2, hr3, hr4⟩ := ((hK.2.2.2.2.1.1 w hw).1).kept hH.old
  refine k_run hL (va_runV (Ts := GW) ⟨hx, hb, hml, ho, hts⟩ hk (cwV (C := y.cls) n hts (gG_code (L := [.methodLink own idx y, .instanceMethod y, .selects y.cls y y, .initialized y.cls]) ?_ l4) rfl rfl rfl ⟨rfl, l5⟩ (room_of hdd l6 hf hlo)) ⟨k_blind, ⟨cell, hr1, hr2, by rw [hy]; exact hr3⟩, fun U hU hW => ⟨rfl, by rw [hU]; exact hH, KK.warm hW hK⟩⟩ rfl hn hl.1 hs ?_ hd ⟨hce, hsl⟩) hl kk
  · intro w hw
    simp only [List.mem_cons, List.not_mem_nil, or_false] at hw
    rcases hw with rfl | rfl | rfl | rfl
    · exact l1
    · exact l2
    · exact l3
    · exact l3'
  · show 2 * 0 + _ ≤ 8
    omega
theorem sch_ok : ∀ w, w < 3 → ∀ j, j < slenN w → (((sbt.getD w []).getD j 0 &&& 255).toUInt32 % 65536).toInt32 = (sbt.getD w []).getD j 0 ∧ narrow .char (.int ((sbt.getD w []).getD j 0)) = .int ((sbt.getD w []).getD j 0) := by decide +kernel
theorem slen_ok : ∀ w, w < 3 → slen w >>> ((0 : Int32) &&& 31) = slen w := by decide +kernel
theorem sbt_len : ∀ w, w < 3 → slenN w < 2 ^ 31 := by decide +kernel
set_option maxHeartbeats 4000000 in
set_option maxRecDepth 100000 in
theorem kc_J0_coder_7d493 {B : KB} {l : Launch} {T : TT} {w : Nat} (hw : w < 3) : Kt B l 1 yJ0_coder_7d493 cJ0_coder_7d493 1 (some .byte) T [.ref (B.1 11 w)] (some (.int 0)) T := by
  refine Kt.of (by decide) (Nat.le_of_ble_eq_true rfl) (fun X hX C E => ?_)
  subst hX
  have C : Cx B X "java/lang/String" cJ0_coder_7d493 1 1 := C
  show Wk B X 1 T 0 [(0, .ref (B.1 11 w))] []
  refine k_sgets (pc := 0) C C.2.2.2.2.2.1.2.2.2.2.2.1 rfl tw2_97 dJ0_coder_7d493_0 ?_
  refine k_if_eq (pc := 3) (a := none) (b := some ()) (res := ()) C 13 dJ0_coder_7d493_3 (by decide) rfl (fun c _ => absurd c (by decide)) (fun _ _ => ?_)
  refine k_aload_n (pc := 6) C dJ0_coder_7d493_6 0 rfl ?_
  refine k_sgetf (pc := 7) C (C.2.2.2.2.2.1.2.2.2.2.1.1 w hw).2.1 rfl tw5_193 dJ0_coder_7d493_7 ?_
  refine k_goto (pc := 10) C 14 dJ0_coder_7d493_10 (by decide) ?_
  exact k_zret (pc := 14) C E rfl rfl rfl dJ0_coder_7d493_14
set_option maxHeartbeats 4000000 in
set_option maxRecDepth 100000 in
theorem kc_J0_isLatin1_aae02 {B : KB} {l : Launch} {T : TT} {w : Nat} (hw : w < 3) : Kt B l 1 yJ0_isLatin1_aae02 cJ0_isLatin1_aae02 1 (some .boolean) T [.ref (B.1 11 w)] (some (.int 1)) T := by
  refine Kt.of (by decide) (Nat.le_of_ble_eq_true rfl) (fun X hX C E => ?_)
  subst hX
  have C : Cx B X "java/lang/String" cJ0_isLatin1_aae02 1 1 := C
  show Wk B X 1 T 0 [(0, .ref (B.1 11 w))] []
  refine k_sgets (pc := 0) C C.2.2.2.2.2.1.2.2.2.2.2.1 rfl tw2_97 dJ0_isLatin1_aae02_0 ?_
  refine k_if_eq (pc := 3) (a := none) (b := some ()) (res := ()) C 17 dJ0_isLatin1_aae02_3 (by decide) rfl (fun c _ => absurd c (by decide)) (fun _ _ => ?_)
  refine k_aload_n (pc := 6) C dJ0_isLatin1_aae02_6 0 rfl ?_
  refine k_sgetf (pc := 7) C (C.2.2.2.2.2.1.2.2.2.2.1.1 w hw).2.1 rfl tw5_193 dJ0_isLatin1_aae02_7 ?_
  refine k_if_ne (pc := 10) (a := none) (b := some ()) (res := ()) C 17 dJ0_isLatin1_aae02_10 (by decide) rfl (fun c _ => absurd rfl c) (fun _ _ => ?_)
  refine k_iconst (pc := 13) (v := (1 : Int32)) C dJ0_isLatin1_aae02_13 (by decide) ?_
  refine k_goto (pc := 14) C 18 dJ0_isLatin1_aae02_14 (by decide) ?_
  exact k_zret (pc := 18) C E rfl rfl rfl dJ0_isLatin1_aae02_18
set_option maxHeartbeats 4000000 in
set_option maxRecDepth 100000 in
theorem kc_J0_length_8abf5 {B : KB} {l : Launch} {T : TT} {w : Nat} (hw : w < 3) : Kt B l 2 yJ0_length_8abf5 cJ0_length_8abf5 1 (some .int) T [.ref (B.1 11 w)] (some (.int (slen w))) T := by
  refine Kt.of (by decide) (Nat.le_of_ble_eq_true rfl) (fun X hX C E => ?_)
  subst hX
  have C : Cx B X "java/lang/String" cJ0_length_8abf5 1 2 := C
  show Wk B X 1 T 0 [(0, .ref (B.1 11 w))] []
  refine k_aload_n (pc := 0) C dJ0_length_8abf5_0 0 rfl ?_
  refine k_sgetf (pc := 1) C (C.2.2.2.2.2.1.2.2.2.2.1.1 w hw).2.2.1 rfl tw5_192 dJ0_length_8abf5_1 ?_
  refine k_tlen (pc := 4) (v := slen w) C (C.2.2.2.2.2.1.2.2.2.2.1.1 w hw).2.2.2 rfl dJ0_length_8abf5_4 ?_
  refine k_aload_n (pc := 5) C dJ0_length_8abf5_5 0 rfl ?_
  refine k_callvS (pc := 6) C ⟨⟨tw2_93, tw2_94, tw2_95, tw1_13, tw2_96⟩, ⟨by decide, by decide, by decide +kernel⟩, by decide⟩ rfl (by decide) hw (kc_J0_coder_7d493 hw) dJ0_length_8abf5_6 rfl rfl (Nat.le_of_ble_eq_true rfl) ?_
  refine k_ishr (pc := 9) C dJ0_length_8abf5_9 ?_
  exact k_iret (pc := 10) C E (slen_ok w hw) rfl dJ0_length_8abf5_10
set_option maxHeartbeats 4000000 in
set_option maxRecDepth 100000 in
theorem kc_J3_checkIndex_8e157 {B : KB} {l : Launch} {T : TT} {i n : Int32} {v : Value} (hv : v = .null ∨ ∃ a, v = .ref a) (h0 : ¬ i < 0) (h1 : i < n) : Kt B l 1 yJ3_checkIndex_8e157 cJ3_checkIndex_8e157 3 (some .int) T [.int i, .int n, v] (some (.int i)) T := by
  refine Kt.of (by decide) (by rcases hv with rfl | ⟨a, rfl⟩ <;> exact Nat.le_of_ble_eq_true rfl) (fun X hX C E => ?_)
  subst hX
  have C : Cx B X "jdk/internal/util/Preconditions" cJ3_checkIndex_8e157 3 1 := C
  have hcat : v.category = 1 := by rcases hv with rfl | ⟨a, rfl⟩ <;> rfl
  have hlv : lv_args 0 [.int i, .int n, v] = [(0, .int i), (1, .int n), (2, v)] := rfl
  rw [hlv]
  refine k_sub (lv' := [(0, .int i), (1, .int n)]) [0, 1] rfl ?_
  refine k_iload_n (pc := 0) C dJ3_checkIndex_8e157_0 0 rfl ?_
  refine k_if_lt (pc := 1) (a := none) (b := some ()) (res := ()) C 9 dJ3_checkIndex_8e157_1 (by decide) (by rw [if_neg h0]) (fun c _ => absurd c h0) (fun _ _ => ?_)
  refine k_iload_n (pc := 4) C dJ3_checkIndex_8e157_4 0 rfl ?_
  refine k_iload_n (pc := 5) C dJ3_checkIndex_8e157_5 1 rfl ?_
  refine k_icmp_lt (pc := 6) (b := none) (a := some ()) (res := ()) C 16 dJ3_checkIndex_8e157_6 (by decide) (by rw [if_pos h1]) (fun _ _ => ?_) (fun c _ => absurd h1 c)
  refine k_iload_n (pc := 16) C dJ3_checkIndex_8e157_16 0 rfl ?_
  exact k_iret (pc := 17) C E rfl rfl dJ3_checkIndex_8e157_17
set_option maxHeartbeats 4000000 in
set_option maxRecDepth 100000 in
theorem kc_J0_checkIndex_df160 {B : KB} {l : Launch} {T : TT} {i n : Int32} (h0 : ¬ i < 0) (h1 : i < n) : Kt B l 2 yJ0_checkIndex_df160 cJ0_checkIndex_df160 2 none T [.int i, .int n] none T := by
  refine Kt.of (by decide) (Nat.le_of_ble_eq_true rfl) (fun X hX C E => ?_)
  subst hX
  have C : Cx B X "java/lang/String" cJ0_checkIndex_df160 2 2 := C
  show Wk B X 2 T 0 [(0, .int i), (1, .int n)] []
  refine k_iload_n (pc := 0) C dJ0_checkIndex_df160_0 0 rfl ?_
  refine k_iload_n (pc := 1) C dJ0_checkIndex_df160_1 1 rfl ?_
  rcases C.2.2.2.2.2.1.2.2.2.2.2.2.1 with hz | ⟨t, hz⟩
  · refine k_sgets (pc := 2) C hz rfl tw2_113 dJ0_checkIndex_df160_2 ?_
    refine k_callsI (pc := 5) (n := 3) C ⟨⟨tw2_115, tw2_116, tw1_15, tw2_117⟩, ⟨by decide, by decide, by decide +kernel⟩, by decide⟩ (by decide) (kc_J3_checkIndex_8e157 (Or.inl rfl) h0 h1) dJ0_checkIndex_df160_5 rfl rfl (Nat.le_of_ble_eq_true rfl) ?_
    refine k_pop (pc := 8) C dJ0_checkIndex_df160_8 rfl ?_
    exact k_vret (pc := 9) C E rfl dJ0_checkIndex_df160_9
  · refine k_sgets (pc := 2) C hz rfl tw2_113 dJ0_checkIndex_df160_2 ?_
    refine k_callsI (pc := 5) (n := 3) C ⟨⟨tw2_115, tw2_116, tw1_15, tw2_117⟩, ⟨by decide, by decide, by decide +kernel⟩, by decide⟩ (by decide) (kc_J3_checkIndex_8e157 (Or.inr ⟨t, rfl⟩) h0 h1) dJ0_checkIndex_df160_5 rfl rfl (Nat.le_of_ble_eq_true rfl) ?_
    refine k_pop (pc := 8) C dJ0_checkIndex_df160_8 rfl ?_
    exact k_vret (pc := 9) C E rfl dJ0_checkIndex_df160_9
theorem inb_sl {w : Nat} {i : Int32} (hw : w < 3) (hi : inb i (slenN w)) : ¬ i < 0 ∧ i < slen w := by
  obtain ⟨j, hj, rfl⟩ := vp_in_of (show vp_in i (slenN w) from hi) (sbt_len w hw)
  exact ⟨fun h => hi (Or.inl h), nI_lt hj (sbt_len w hw)⟩
set_option maxHeartbeats 4000000 in
set_option maxRecDepth 100000 in
theorem kc_J1_charAt_3b067 {B : KB} {l : Launch} {T : TT} {w : Nat} {i : Int32} (hw : w < 3) (hi : inb i (slenN w)) : Kt B l 3 yJ1_charAt_3b067 cJ1_charAt_3b067 2 (some .char) T [.ref (B.1 12 w), .int i] (some (.int (sch w i))) T := by
  refine Kt.of (by decide) (Nat.le_of_ble_eq_true rfl) (fun X hX C E => ?_)
  subst hX
  have C : Cx B X "java/lang/StringLatin1" cJ1_charAt_3b067 2 3 := C
  show Wk B X 2 T 0 [(0, .ref (B.1 12 w)), (1, .int i)] []
  refine k_iload_n (pc := 0) C dJ1_charAt_3b067_0 1 rfl ?_
  refine k_aload_n (pc := 1) C dJ1_charAt_3b067_1 0 rfl ?_
  refine k_tlen (pc := 2) (v := slen w) C (C.2.2.2.2.2.1.2.2.2.2.1.1 w hw).2.2.2 rfl dJ1_charAt_3b067_2 ?_
  refine k_callsV (pc := 3) (n := 2) C ⟨⟨tw2_110, tw2_111, tw1_13, tw2_112⟩, ⟨by decide, by decide, by decide +kernel⟩, by decide⟩ (by decide) (kc_J0_checkIndex_df160 (inb_sl hw hi).1 (inb_sl hw hi).2) dJ1_charAt_3b067_3 rfl rfl (Nat.le_of_ble_eq_true rfl) ?_
  refine k_aload_n (pc := 6) C dJ1_charAt_3b067_6 0 rfl ?_
  refine k_iload_n (pc := 7) C dJ1_charAt_3b067_7 1 rfl ?_
  refine k_tbald (pc := 8) (v := .int (sch w i)) C (C.2.2.2.2.2.1.2.2.2.2.1.1 w hw).2.2.2 hi rfl dJ1_charAt_3b067_8 ?_
  refine k_sipush (pc := 9) (v := (255 : Int32)) C dJ1_charAt_3b067_9 (by decide) ?_
  refine k_iand (pc := 12) C dJ1_charAt_3b067_12 ?_
  refine k_i2c (pc := 13) C dJ1_charAt_3b067_13 ?_
  have hs := sch_ok w hw _ (inb_lt hi)
  have e1 : ((sch w i &&& 255).toUInt32 % 65536).toInt32 = sch w i := hs.1
  rw [e1]
  exact k_zret (pc := 14) C E hs.2 rfl rfl dJ1_charAt_3b067_14
set_option maxHeartbeats 4000000 in
set_option maxRecDepth 100000 in
theorem kc_J0_charAt_5068e {B : KB} {l : Launch} {T : TT} {w : Nat} {i : Int32} (hw : w < 3) (hi : inb i (slenN w)) : Kt B l 4 yJ0_charAt_5068e cJ0_charAt_5068e 2 (some .char) T [.ref (B.1 11 w), .int i] (some (.int (sch w i))) T := by
  refine Kt.of (by decide) (Nat.le_of_ble_eq_true rfl) (fun X hX C E => ?_)
  subst hX
  have C : Cx B X "java/lang/String" cJ0_charAt_5068e 2 4 := C
  show Wk B X 2 T 0 [(0, .ref (B.1 11 w)), (1, .int i)] []
  refine k_aload_n (pc := 0) C dJ0_charAt_5068e_0 0 rfl ?_
  refine k_callvS (pc := 1) C ⟨⟨tw2_103, tw2_104, tw2_105, tw1_13, tw2_106⟩, ⟨by decide, by decide, by decide +kernel⟩, by decide⟩ rfl (by decide) hw (kc_J0_isLatin1_aae02 hw) dJ0_charAt_5068e_1 rfl rfl (Nat.le_of_ble_eq_true rfl) ?_
  refine k_if_eq (pc := 4) (a := none) (b := some ()) (res := ()) C 16 dJ0_charAt_5068e_4 (by decide) rfl (fun c _ => absurd c (by decide)) (fun _ _ => ?_)
  refine k_aload_n (pc := 7) C dJ0_charAt_5068e_7 0 rfl ?_
  refine k_sgetf (pc := 8) C (C.2.2.2.2.2.1.2.2.2.2.1.1 w hw).2.2.1 rfl tw5_192 dJ0_charAt_5068e_8 ?_
  refine k_iload_n (pc := 11) C dJ0_charAt_5068e_11 1 rfl ?_
  refine k_callsI (pc := 12) (n := 2) C ⟨⟨tw2_107, tw2_108, tw1_14, tw2_109⟩, ⟨by decide, by decide, by decide +kernel⟩, by decide⟩ (by decide) (kc_J1_charAt_3b067 hw hi) dJ0_charAt_5068e_12 rfl rfl (Nat.le_of_ble_eq_true rfl) ?_
  exact k_zret (pc := 15) C E (sch_ok w hw _ (inb_lt hi)).2 rfl rfl dJ0_charAt_5068e_15
theorem lk_X9_77 : LkV "GriefEngine$Text" 77 yJ0_length_8abf5 cJ0_length_8abf5 1 (some .int) 0 := ⟨⟨tw2_89, tw2_90, tw2_91, tw1_13, tw2_92⟩, ⟨by decide, by decide, by decide +kernel⟩, by decide⟩
theorem lk_X9_81 : LkV "GriefEngine$Text" 81 yJ0_charAt_5068e cJ0_charAt_5068e 2 (some .char) 1 := ⟨⟨tw2_99, tw2_100, tw2_101, tw1_13, tw2_102⟩, ⟨by decide, by decide, by decide +kernel⟩, by decide⟩
end KSTR
