def m_X11_lookAt_b295 (T : TT) : Option (TT) := bT (sI T 10 16 (T.2.1 10 16)) (fun T34 => some T34)
def m_X11_lookAt_b274 (T : TT) : Option (TT) := if (T.2.1 10 16) = (2 : Int32) then (if (T.2.1 10 15) ≤ (2 : Int32) then (m_X11_lookAt_b295 T) else (bT (sI T 10 16 (4 : Int32)) (fun T31 => some T31))) else (m_X11_lookAt_b295 T)
def m_X11_lookAt_h218 (rec218 : TT → Int32 → Option (TT)) (T : TT) (x4 : Int32) : Option (TT) := if (T.2.1 10 15) ≤ x4 then (m_X11_lookAt_b274 T) else (if (2 : Int32) ≤ x4 then (m_X11_lookAt_b274 T) else (if (T.2.1 10 16) = (2 : Int32) then (if inb ((T.2.1 10 14) + x4) 150 then (bT (sI T 10 17 ((((10 : Int32) * (T.2.1 10 17)) + (T.1 10 8 (Int32.toNatClampNeg ((T.2.1 10 14) + x4)))) - (48 : Int32))) (fun T26 => bT (x4 + (1 : Int32)) (fun y27 => rec218 T26 y27))) else none) else (m_X11_lookAt_b274 T)))
def m_X11_lookAt_l218 : Nat → TT → Int32 → Option (TT)
  | 0 => fun _ _ => none
  | n + 1 => fun T x4 => m_X11_lookAt_h218 (m_X11_lookAt_l218 n) T x4
def m_X11_lookAt_b215 (T : TT) : Option (TT) := m_X11_lookAt_l218 FU T (0 : Int32)
def m_X11_lookAt_b208 (rec136 : TT → Int32 → Option (TT)) (T : TT) (x3 : Int32) (s1 : Int32) (s2 : Int32) : Option (TT) := bT (sI T 10 15 (s1 + s2)) (fun T25 => rec136 T25 x3)
def m_X11_lookAt_b193 (rec136 : TT → Int32 → Option (TT)) (T : TT) (s0 : Int32) : Option (TT) := if s0 = 0 then (m_X11_lookAt_b208 rec136 T s0 (T.2.1 10 15) (0 : Int32)) else (m_X11_lookAt_b208 rec136 T s0 (T.2.1 10 15) (1 : Int32))
def m_X11_lookAt_h136 (rec136 : TT → Int32 → Option (TT)) (T : TT) (x3 : Int32) : Option (TT) := if x3 = 0 then (m_X11_lookAt_b215 T) else (if (T.2.1 10 13) ≤ ((T.2.1 10 14) + (T.2.1 10 15)) then (m_X11_lookAt_b215 T) else (if inb ((T.2.1 10 14) + (T.2.1 10 15)) 150 then (bT (T.1 10 8 (Int32.toNatClampNeg ((T.2.1 10 14) + (T.2.1 10 15)))) (fun y18 => if (T.2.1 10 16) = (1 : Int32) then ((m_X11_isSmall y18).bind (fun z20 => m_X11_lookAt_b193 rec136 T z20)) else ((m_X11_isFigure y18).bind (fun z19 => m_X11_lookAt_b193 rec136 T z19)))) else none))
def m_X11_lookAt_l136 : Nat → TT → Int32 → Option (TT)
  | 0 => fun _ _ => none
  | n + 1 => fun T x3 => m_X11_lookAt_h136 (m_X11_lookAt_l136 n) T x3
def m_X11_lookAt_b135 (T : TT) (s0 : Int32) : Option (TT) := m_X11_lookAt_l136 FU T s0
def m_X11_lookAt_b114 (T : TT) (s1 : Int32) : Option (TT) := bT (sI T 10 16 s1) (fun T15 => bT (sI T15 10 15 (1 : Int32)) (fun T16 => if (3 : Int32) ≤ (T16.2.1 10 16) then (m_X11_lookAt_b135 T16 (0 : Int32)) else (m_X11_lookAt_b135 T16 (1 : Int32))))
def m_X11_lookAt_b43 (T : TT) : Option (TT) := bT (sI T 10 15 (0 : Int32)) (fun T5 => bT (sI T5 10 16 (0 : Int32)) (fun T6 => bT (sI T6 10 17 (0 : Int32)) (fun T7 => if (T7.2.1 10 14) = (T7.2.1 10 13) then (some T7) else (if inb (T7.2.1 10 14) 150 then (bT (T7.1 10 8 (Int32.toNatClampNeg (T7.2.1 10 14))) (fun y8 => (m_X11_isSmall y8).bind (fun z9 => if z9 = 0 then ((m_X11_isFigure y8).bind (fun z10 => if z10 = 0 then (if y8 = (59 : Int32) then (m_X11_lookAt_b114 T7 (3 : Int32)) else (m_X11_lookAt_b114 T7 (4 : Int32))) else (m_X11_lookAt_b114 T7 (2 : Int32)))) else (m_X11_lookAt_b114 T7 (1 : Int32))))) else none))))
def m_X11_lookAt_h5 (rec5 : TT → Option (TT)) (T : TT) : Option (TT) := if (T.2.1 10 13) ≤ (T.2.1 10 14) then (m_X11_lookAt_b43 T) else (if inb (T.2.1 10 14) 150 then (if (T.1 10 8 (Int32.toNatClampNeg (T.2.1 10 14))) = (32 : Int32) then (bT (sI T 10 14 ((T.2.1 10 14) + (1 : Int32))) (fun T2 => rec5 T2)) else (m_X11_lookAt_b43 T)) else none)
def m_X11_lookAt_l5 : Nat → TT → Option (TT)
  | 0 => fun _ => none
  | n + 1 => fun T => m_X11_lookAt_h5 (m_X11_lookAt_l5 n) T
def m_X11_lookAt (T : TT) (x1 : Int32) : Option (TT) := bT (sI T 10 14 x1) (fun T1 => m_X11_lookAt_l5 FU T1)
set_option maxHeartbeats 4000000 in
set_option maxRecDepth 100000 in
theorem k_X11_lookAt_b295 {B : KB} {X : KE} {res : TT} (C : Cx B X "GriefEngineModel" cX11_lookAt 5 3) (E : Cr B X none none res) (T : TT) (h : m_X11_lookAt_b295 T = some res) : Wk B X 5 T 295 [(0, .ref (B.1 10 0))] [.ref (B.1 10 0)] := by
  unfold m_X11_lookAt_b295 at h
  refine k_aload_n (pc := 295) C dX11_lookAt_295 0 rfl ?_
  refine gf_X11_223 (pc := 296) C dX11_lookAt_296 ?_
  refine pf_X11_223 (pc := 299) C dX11_lookAt_299 ?_
  refine k_nT h (fun T34 h => ?_)
  exact k_vret (pc := 302) C E (some_i h) dX11_lookAt_302
set_option maxHeartbeats 4000000 in
set_option maxRecDepth 100000 in
theorem k_X11_lookAt_b274 {B : KB} {X : KE} {res : TT} (C : Cx B X "GriefEngineModel" cX11_lookAt 5 3) (E : Cr B X none none res) (T : TT) (h : m_X11_lookAt_b274 T = some res) : Wk B X 5 T 274 [(0, .ref (B.1 10 0))] [] := by
  unfold m_X11_lookAt_b274 at h
  refine k_aload_n (pc := 274) C dX11_lookAt_274 0 rfl ?_
  refine k_aload_n (pc := 275) C dX11_lookAt_275 0 rfl ?_
  refine gf_X11_223 (pc := 276) C dX11_lookAt_276 ?_
  refine k_iconst (pc := 279) (v := (2 : Int32)) C dX11_lookAt_279 ciconst_2 ?_
  refine k_icmp_ne (pc := 280) C 295 dX11_lookAt_280 (by decide) h (fun c33 h => ?_) (fun c33 h => ?_)
  · refine k_sub [0] rfl ?_
    exact k_X11_lookAt_b295 C E T h
  · refine k_aload_n (pc := 283) C dX11_lookAt_283 0 rfl ?_
    refine gf_X11_220 (pc := 284) C dX11_lookAt_284 ?_
    refine k_iconst (pc := 287) (v := (2 : Int32)) C dX11_lookAt_287 ciconst_2 ?_
    refine k_icmp_le (pc := 288) C 295 dX11_lookAt_288 (by decide) h (fun c32 h => ?_) (fun c32 h => ?_)
    · refine k_sub [0] rfl ?_
      exact k_X11_lookAt_b295 C E T h
    · refine k_iconst (pc := 291) (v := (4 : Int32)) C dX11_lookAt_291 ciconst_4 ?_
      refine k_goto (pc := 292) C 299 dX11_lookAt_292 (by decide) ?_
      refine pf_X11_223 (pc := 299) C dX11_lookAt_299 ?_
      refine k_nT h (fun T31 h => ?_)
      exact k_vret (pc := 302) C E (some_i h) dX11_lookAt_302
set_option maxHeartbeats 4000000 in
set_option maxRecDepth 100000 in
theorem k_X11_lookAt_h218 {B : KB} {X : KE} {rec218 : TT → Int32 → Option (TT)} {res : TT} (C : Cx B X "GriefEngineModel" cX11_lookAt 5 3) (E : Cr B X none none res) (hrec218 : ∀ (T : TT) (x4 : Int32), rec218 T x4 = some res → Wk B X 5 T 218 [(0, .ref (B.1 10 0)), (4, .int x4)] []) (T : TT) (x4 : Int32) (h : m_X11_lookAt_h218 rec218 T x4 = some res) : Wk B X 5 T 218 [(0, .ref (B.1 10 0)), (4, .int x4)] [] := by
  unfold m_X11_lookAt_h218 at h
  refine k_iload (pc := 218) C dX11_lookAt_218 1 rfl ?_
  refine k_aload_n (pc := 220) C dX11_lookAt_220 0 rfl ?_
  refine gf_X11_220 (pc := 221) C dX11_lookAt_221 ?_
  refine k_icmp_ge (pc := 224) C 274 dX11_lookAt_224 (by decide) h (fun c30 h => ?_) (fun c30 h => ?_)
  · refine k_sub [0] rfl ?_
    exact k_X11_lookAt_b274 C E T h
  · refine k_iload (pc := 227) C dX11_lookAt_227 1 rfl ?_
    refine k_iconst (pc := 229) (v := (2 : Int32)) C dX11_lookAt_229 ciconst_2 ?_
    refine k_icmp_ge (pc := 230) C 274 dX11_lookAt_230 (by decide) h (fun c29 h => ?_) (fun c29 h => ?_)
    · refine k_sub [0] rfl ?_
      exact k_X11_lookAt_b274 C E T h
    · refine k_aload_n (pc := 233) C dX11_lookAt_233 0 rfl ?_
      refine gf_X11_223 (pc := 234) C dX11_lookAt_234 ?_
      refine k_iconst (pc := 237) (v := (2 : Int32)) C dX11_lookAt_237 ciconst_2 ?_
      refine k_icmp_ne (pc := 238) C 274 dX11_lookAt_238 (by decide) h (fun c28 h => ?_) (fun c28 h => ?_)
      · refine k_sub [0] rfl ?_
        exact k_X11_lookAt_b274 C E T h
      · refine k_aload_n (pc := 241) C dX11_lookAt_241 0 rfl ?_
        refine k_bipush (pc := 242) (v := (10 : Int32)) C dX11_lookAt_242 cbipush_10 ?_
        refine k_aload_n (pc := 244) C dX11_lookAt_244 0 rfl ?_
        refine gf_X11_226 (pc := 245) C dX11_lookAt_245 ?_
        refine k_imul (pc := 248) C dX11_lookAt_248 ?_
        refine k_aload_n (pc := 249) C dX11_lookAt_249 0 rfl ?_
        refine gf_X11_36 (pc := 250) C dX11_lookAt_250 ?_
        refine k_aload_n (pc := 253) C dX11_lookAt_253 0 rfl ?_
        refine gf_X11_217 (pc := 254) C dX11_lookAt_254 ?_
        refine k_iload (pc := 257) C dX11_lookAt_257 1 rfl ?_
        refine k_iadd (pc := 259) C dX11_lookAt_259 ?_
        refine k_iald (pc := 260) C ia_10_8 dX11_lookAt_260 h (fun h => ?_)
        refine k_iadd (pc := 261) C dX11_lookAt_261 ?_
        refine k_bipush (pc := 262) (v := (48 : Int32)) C dX11_lookAt_262 cbipush_48 ?_
        refine k_isub (pc := 264) C dX11_lookAt_264 ?_
        refine pf_X11_226 (pc := 265) C dX11_lookAt_265 ?_
        refine k_nT h (fun T26 h => ?_)
        refine k_iincN (pc := 268) (x := x4) (c := (1 : Int32)) C (fun y27 => [(4, .int y27), (0, .ref (B.1 10 0))]) dX11_lookAt_268 1 rfl ciconst_1 (by decide) (fun _ => rfl) h (fun y27 h => ?_)
        refine k_goto (pc := 271) C 218 dX11_lookAt_271 (by decide) ?_
        refine k_sub [1, 0] rfl ?_
        exact hrec218 T26 y27 h
set_option maxHeartbeats 4000000 in
set_option maxRecDepth 100000 in
theorem k_X11_lookAt_l218 {B : KB} {X : KE} {res : TT} (C : Cx B X "GriefEngineModel" cX11_lookAt 5 3) (E : Cr B X none none res) : ∀ (n : Nat) (T : TT) (x4 : Int32) (h : m_X11_lookAt_l218 n T x4 = some res), Wk B X 5 T 218 [(0, .ref (B.1 10 0)), (4, .int x4)] [] := by
  intro n
  induction n with
  | zero =>
    intro T x4 h
    exact no_some h
  | succ n ih =>
    intro T x4 h
    exact k_X11_lookAt_h218 C E (fun T x4 h => ih T x4 h) T x4 h
set_option maxHeartbeats 4000000 in
set_option maxRecDepth 100000 in
theorem k_X11_lookAt_b215 {B : KB} {X : KE} {res : TT} (C : Cx B X "GriefEngineModel" cX11_lookAt 5 3) (E : Cr B X none none res) (T : TT) (h : m_X11_lookAt_b215 T = some res) : Wk B X 5 T 215 [(0, .ref (B.1 10 0))] [] := by
  unfold m_X11_lookAt_b215 at h
  refine k_iconst (pc := 215) (v := (0 : Int32)) C dX11_lookAt_215 ciconst_0 ?_
  refine k_istore (pc := 216) C [(4, .int (0 : Int32)), (0, .ref (B.1 10 0))] dX11_lookAt_216 (by decide) rfl ?_
  refine k_sub [1, 0] rfl ?_
  exact k_X11_lookAt_l218 C E FU T (0 : Int32) h
set_option maxHeartbeats 4000000 in
set_option maxRecDepth 100000 in
theorem k_X11_lookAt_b208 {B : KB} {X : KE} {rec136 : TT → Int32 → Option (TT)} {res : TT} (C : Cx B X "GriefEngineModel" cX11_lookAt 5 3) (E : Cr B X none none res) (hrec136 : ∀ (T : TT) (x3 : Int32), rec136 T x3 = some res → Wk B X 5 T 136 [(0, .ref (B.1 10 0)), (3, .int x3)] []) (T : TT) (x3 : Int32) (s1 : Int32) (s2 : Int32) (h : m_X11_lookAt_b208 rec136 T x3 s1 s2 = some res) : Wk B X 5 T 208 [(0, .ref (B.1 10 0)), (3, .int x3)] [.int s2, .int s1, .ref (B.1 10 0)] := by
  unfold m_X11_lookAt_b208 at h
  refine k_iadd (pc := 208) C dX11_lookAt_208 ?_
  refine pf_X11_220 (pc := 209) C dX11_lookAt_209 ?_
  refine k_nT h (fun T25 h => ?_)
  refine k_goto (pc := 212) C 136 dX11_lookAt_212 (by decide) ?_
  refine k_sub [0, 1] rfl ?_
  exact hrec136 T25 x3 h
set_option maxHeartbeats 4000000 in
set_option maxRecDepth 100000 in
theorem k_X11_lookAt_b193 {B : KB} {X : KE} {rec136 : TT → Int32 → Option (TT)} {res : TT} (C : Cx B X "GriefEngineModel" cX11_lookAt 5 3) (E : Cr B X none none res) (hrec136 : ∀ (T : TT) (x3 : Int32), rec136 T x3 = some res → Wk B X 5 T 136 [(0, .ref (B.1 10 0)), (3, .int x3)] []) (T : TT) (s0 : Int32) (h : m_X11_lookAt_b193 rec136 T s0 = some res) : Wk B X 5 T 193 [(0, .ref (B.1 10 0))] [.int s0] := by
  unfold m_X11_lookAt_b193 at h
  refine k_istore_n (pc := 193) C [(3, .int s0), (0, .ref (B.1 10 0))] dX11_lookAt_193 (by decide) rfl ?_
  refine k_aload_n (pc := 194) C dX11_lookAt_194 1 rfl ?_
  refine k_dup (pc := 195) C dX11_lookAt_195 rfl ?_
  refine gf_X11_220 (pc := 196) C dX11_lookAt_196 ?_
  refine k_iload_n (pc := 199) C dX11_lookAt_199 0 rfl ?_
  refine k_if_eq (pc := 200) C 207 dX11_lookAt_200 (by decide) h (fun c24 h => ?_) (fun c24 h => ?_)
  · refine k_iconst (pc := 207) (v := (0 : Int32)) C dX11_lookAt_207 ciconst_0 ?_
    refine k_sub [1, 0] rfl ?_
    exact k_X11_lookAt_b208 C E hrec136 T s0 (T.2.1 10 15) (0 : Int32) h
  · refine k_iconst (pc := 203) (v := (1 : Int32)) C dX11_lookAt_203 ciconst_1 ?_
    refine k_goto (pc := 204) C 208 dX11_lookAt_204 (by decide) ?_
    refine k_sub [1, 0] rfl ?_
    exact k_X11_lookAt_b208 C E hrec136 T s0 (T.2.1 10 15) (1 : Int32) h
set_option maxHeartbeats 4000000 in
set_option maxRecDepth 100000 in
theorem k_X11_lookAt_h136 {B : KB} {X : KE} {rec136 : TT → Int32 → Option (TT)} {res : TT} (C : Cx B X "GriefEngineModel" cX11_lookAt 5 3) (E : Cr B X none none res) (hrec136 : ∀ (T : TT) (x3 : Int32), rec136 T x3 = some res → Wk B X 5 T 136 [(0, .ref (B.1 10 0)), (3, .int x3)] []) (T : TT) (x3 : Int32) (h : m_X11_lookAt_h136 rec136 T x3 = some res) : Wk B X 5 T 136 [(0, .ref (B.1 10 0)), (3, .int x3)] [] := by
  unfold m_X11_lookAt_h136 at h
  refine k_iload_n (pc := 136) C dX11_lookAt_136 1 rfl ?_
  refine k_if_eq (pc := 137) C 215 dX11_lookAt_137 (by decide) h (fun c23 h => ?_) (fun c23 h => ?_)
  · refine k_sub [0] rfl ?_
    exact k_X11_lookAt_b215 C E T h
  · refine k_aload_n (pc := 140) C dX11_lookAt_140 0 rfl ?_
    refine gf_X11_217 (pc := 141) C dX11_lookAt_141 ?_
    refine k_aload_n (pc := 144) C dX11_lookAt_144 0 rfl ?_
    refine gf_X11_220 (pc := 145) C dX11_lookAt_145 ?_
    refine k_iadd (pc := 148) C dX11_lookAt_148 ?_
    refine k_aload_n (pc := 149) C dX11_lookAt_149 0 rfl ?_
    refine gf_X11_206 (pc := 150) C dX11_lookAt_150 ?_
    refine k_icmp_ge (pc := 153) C 215 dX11_lookAt_153 (by decide) h (fun c22 h => ?_) (fun c22 h => ?_)
    · refine k_sub [0] rfl ?_
      exact k_X11_lookAt_b215 C E T h
    · refine k_aload_n (pc := 156) C dX11_lookAt_156 0 rfl ?_
      refine gf_X11_36 (pc := 157) C dX11_lookAt_157 ?_
      refine k_aload_n (pc := 160) C dX11_lookAt_160 0 rfl ?_
      refine gf_X11_217 (pc := 161) C dX11_lookAt_161 ?_
      refine k_aload_n (pc := 164) C dX11_lookAt_164 0 rfl ?_
      refine gf_X11_220 (pc := 165) C dX11_lookAt_165 ?_
      refine k_iadd (pc := 168) C dX11_lookAt_168 ?_
      refine k_iald (pc := 169) C ia_10_8 dX11_lookAt_169 h (fun h => ?_)
      refine k_nI h (fun y18 h => ?_)
      refine k_istore (pc := 170) C [(4, .int y18), (0, .ref (B.1 10 0)), (3, .int x3)] dX11_lookAt_170 (by decide) rfl ?_
      refine k_aload_n (pc := 172) C dX11_lookAt_172 1 rfl ?_
      refine gf_X11_223 (pc := 173) C dX11_lookAt_173 ?_
      refine k_iconst (pc := 176) (v := (1 : Int32)) C dX11_lookAt_176 ciconst_1 ?_
      refine k_icmp_ne (pc := 177) C 188 dX11_lookAt_177 (by decide) h (fun c21 h => ?_) (fun c21 h => ?_)
      · refine k_iload (pc := 188) C dX11_lookAt_188 0 rfl ?_
        obtain ⟨z19, e19, h⟩ := bnd h
        refine k_callsI (pc := 190) C lk_X11_232 (by decide) (kc_X11_isFigure e19) dX11_lookAt_190 rfl rfl (Nat.le_of_ble_eq_true rfl) ?_
        refine k_sub [1] rfl ?_
        exact k_X11_lookAt_b193 C E hrec136 T z19 h
      · refine k_iload (pc := 180) C dX11_lookAt_180 0 rfl ?_
        obtain ⟨z20, e20, h⟩ := bnd h
        refine k_callsI (pc := 182) C lk_X11_229 (by decide) (kc_X11_isSmall e20) dX11_lookAt_182 rfl rfl (Nat.le_of_ble_eq_true rfl) ?_
        refine k_goto (pc := 185) C 193 dX11_lookAt_185 (by decide) ?_
        refine k_sub [1] rfl ?_
        exact k_X11_lookAt_b193 C E hrec136 T z20 h
set_option maxHeartbeats 4000000 in
set_option maxRecDepth 100000 in
theorem k_X11_lookAt_l136 {B : KB} {X : KE} {res : TT} (C : Cx B X "GriefEngineModel" cX11_lookAt 5 3) (E : Cr B X none none res) : ∀ (n : Nat) (T : TT) (x3 : Int32) (h : m_X11_lookAt_l136 n T x3 = some res), Wk B X 5 T 136 [(0, .ref (B.1 10 0)), (3, .int x3)] [] := by
  intro n
  induction n with
  | zero =>
    intro T x3 h
    exact no_some h
  | succ n ih =>
    intro T x3 h
    exact k_X11_lookAt_h136 C E (fun T x3 h => ih T x3 h) T x3 h
set_option maxHeartbeats 4000000 in
set_option maxRecDepth 100000 in
theorem k_X11_lookAt_b135 {B : KB} {X : KE} {res : TT} (C : Cx B X "GriefEngineModel" cX11_lookAt 5 3) (E : Cr B X none none res) (T : TT) (s0 : Int32) (h : m_X11_lookAt_b135 T s0 = some res) : Wk B X 5 T 135 [(0, .ref (B.1 10 0))] [.int s0] := by
  unfold m_X11_lookAt_b135 at h
  refine k_istore_n (pc := 135) C [(3, .int s0), (0, .ref (B.1 10 0))] dX11_lookAt_135 (by decide) rfl ?_
  refine k_sub [1, 0] rfl ?_
  exact k_X11_lookAt_l136 C E FU T s0 h
set_option maxHeartbeats 4000000 in
set_option maxRecDepth 100000 in
theorem k_X11_lookAt_b114 {B : KB} {X : KE} {res : TT} (C : Cx B X "GriefEngineModel" cX11_lookAt 5 3) (E : Cr B X none none res) (T : TT) (s1 : Int32) (h : m_X11_lookAt_b114 T s1 = some res) : Wk B X 5 T 114 [(0, .ref (B.1 10 0))] [.int s1, .ref (B.1 10 0)] := by
  unfold m_X11_lookAt_b114 at h
  refine pf_X11_223 (pc := 114) C dX11_lookAt_114 ?_
  refine k_nT h (fun T15 h => ?_)
  refine k_aload_n (pc := 117) C dX11_lookAt_117 0 rfl ?_
  refine k_iconst (pc := 118) (v := (1 : Int32)) C dX11_lookAt_118 ciconst_1 ?_
  refine pf_X11_220 (pc := 119) C dX11_lookAt_119 ?_
  refine k_nT h (fun T16 h => ?_)
  refine k_aload_n (pc := 122) C dX11_lookAt_122 0 rfl ?_
  refine gf_X11_223 (pc := 123) C dX11_lookAt_123 ?_
  refine k_iconst (pc := 126) (v := (3 : Int32)) C dX11_lookAt_126 ciconst_3 ?_
  refine k_icmp_ge (pc := 127) C 134 dX11_lookAt_127 (by decide) h (fun c17 h => ?_) (fun c17 h => ?_)
  · refine k_iconst (pc := 134) (v := (0 : Int32)) C dX11_lookAt_134 ciconst_0 ?_
    refine k_sub [0] rfl ?_
    exact k_X11_lookAt_b135 C E T16 (0 : Int32) h
  · refine k_iconst (pc := 130) (v := (1 : Int32)) C dX11_lookAt_130 ciconst_1 ?_
    refine k_goto (pc := 131) C 135 dX11_lookAt_131 (by decide) ?_
    refine k_sub [0] rfl ?_
    exact k_X11_lookAt_b135 C E T16 (1 : Int32) h
set_option maxHeartbeats 4000000 in
set_option maxRecDepth 100000 in
theorem k_X11_lookAt_b43 {B : KB} {X : KE} {res : TT} (C : Cx B X "GriefEngineModel" cX11_lookAt 5 3) (E : Cr B X none none res) (T : TT) (h : m_X11_lookAt_b43 T = some res) : Wk B X 5 T 43 [(0, .ref (B.1 10 0))] [] := by
  unfold m_X11_lookAt_b43 at h
  refine k_aload_n (pc := 43) C dX11_lookAt_43 0 rfl ?_
  refine k_iconst (pc := 44) (v := (0 : Int32)) C dX11_lookAt_44 ciconst_0 ?_
  refine pf_X11_220 (pc := 45) C dX11_lookAt_45 ?_
  refine k_nT h (fun T5 h => ?_)
  refine k_aload_n (pc := 48) C dX11_lookAt_48 0 rfl ?_
  refine k_iconst (pc := 49) (v := (0 : Int32)) C dX11_lookAt_49 ciconst_0 ?_
  refine pf_X11_223 (pc := 50) C dX11_lookAt_50 ?_
  refine k_nT h (fun T6 h => ?_)
  refine k_aload_n (pc := 53) C dX11_lookAt_53 0 rfl ?_
  refine k_iconst (pc := 54) (v := (0 : Int32)) C dX11_lookAt_54 ciconst_0 ?_
  refine pf_X11_226 (pc := 55) C dX11_lookAt_55 ?_
  refine k_nT h (fun T7 h => ?_)
  refine k_aload_n (pc := 58) C dX11_lookAt_58 0 rfl ?_
  refine gf_X11_217 (pc := 59) C dX11_lookAt_59 ?_
  refine k_aload_n (pc := 62) C dX11_lookAt_62 0 rfl ?_
  refine gf_X11_206 (pc := 63) C dX11_lookAt_63 ?_
  refine k_icmp_ne (pc := 66) C 70 dX11_lookAt_66 (by decide) h (fun c14 h => ?_) (fun c14 h => ?_)
  · refine k_aload_n (pc := 70) C dX11_lookAt_70 0 rfl ?_
    refine gf_X11_36 (pc := 71) C dX11_lookAt_71 ?_
    refine k_aload_n (pc := 74) C dX11_lookAt_74 0 rfl ?_
    refine gf_X11_217 (pc := 75) C dX11_lookAt_75 ?_
    refine k_iald (pc := 78) C ia_10_8 dX11_lookAt_78 h (fun h => ?_)
    refine k_nI h (fun y8 h => ?_)
    refine k_istore_n (pc := 79) C [(2, .int y8), (0, .ref (B.1 10 0))] dX11_lookAt_79 (by decide) rfl ?_
    refine k_aload_n (pc := 80) C dX11_lookAt_80 1 rfl ?_
    refine k_iload_n (pc := 81) C dX11_lookAt_81 0 rfl ?_
    obtain ⟨z9, e9, h⟩ := bnd h
    refine k_callsI (pc := 82) C lk_X11_229 (by decide) (kc_X11_isSmall e9) dX11_lookAt_82 rfl rfl (Nat.le_of_ble_eq_true rfl) ?_
    refine k_if_eq (pc := 85) C 92 dX11_lookAt_85 (by decide) h (fun c13 h => ?_) (fun c13 h => ?_)
    · refine k_iload_n (pc := 92) C dX11_lookAt_92 0 rfl ?_
      obtain ⟨z10, e10, h⟩ := bnd h
      refine k_callsI (pc := 93) C lk_X11_232 (by decide) (kc_X11_isFigure e10) dX11_lookAt_93 rfl rfl (Nat.le_of_ble_eq_true rfl) ?_
      refine k_if_eq (pc := 96) C 103 dX11_lookAt_96 (by decide) h (fun c12 h => ?_) (fun c12 h => ?_)
      · refine k_iload_n (pc := 103) C dX11_lookAt_103 0 rfl ?_
        refine k_bipush (pc := 104) (v := (59 : Int32)) C dX11_lookAt_104 cbipush_59 ?_
        refine k_icmp_ne (pc := 106) C 113 dX11_lookAt_106 (by decide) h (fun c11 h => ?_) (fun c11 h => ?_)
        · refine k_iconst (pc := 113) (v := (4 : Int32)) C dX11_lookAt_113 ciconst_4 ?_
          refine k_sub [1] rfl ?_
          exact k_X11_lookAt_b114 C E T7 (4 : Int32) h
        · refine k_iconst (pc := 109) (v := (3 : Int32)) C dX11_lookAt_109 ciconst_3 ?_
          refine k_goto (pc := 110) C 114 dX11_lookAt_110 (by decide) ?_
          refine k_sub [1] rfl ?_
          exact k_X11_lookAt_b114 C E T7 (3 : Int32) h
      · refine k_iconst (pc := 99) (v := (2 : Int32)) C dX11_lookAt_99 ciconst_2 ?_
        refine k_goto (pc := 100) C 114 dX11_lookAt_100 (by decide) ?_
        refine k_sub [1] rfl ?_
        exact k_X11_lookAt_b114 C E T7 (2 : Int32) h
    · refine k_iconst (pc := 88) (v := (1 : Int32)) C dX11_lookAt_88 ciconst_1 ?_
      refine k_goto (pc := 89) C 114 dX11_lookAt_89 (by decide) ?_
      refine k_sub [1] rfl ?_
      exact k_X11_lookAt_b114 C E T7 (1 : Int32) h
  · exact k_vret (pc := 69) C E (some_i h) dX11_lookAt_69
set_option maxHeartbeats 4000000 in
set_option maxRecDepth 100000 in
theorem k_X11_lookAt_h5 {B : KB} {X : KE} {rec5 : TT → Option (TT)} {res : TT} (C : Cx B X "GriefEngineModel" cX11_lookAt 5 3) (E : Cr B X none none res) (hrec5 : ∀ (T : TT), rec5 T = some res → Wk B X 5 T 5 [(0, .ref (B.1 10 0))] []) (T : TT) (h : m_X11_lookAt_h5 rec5 T = some res) : Wk B X 5 T 5 [(0, .ref (B.1 10 0))] [] := by
  unfold m_X11_lookAt_h5 at h
  refine k_aload_n (pc := 5) C dX11_lookAt_5 0 rfl ?_
  refine gf_X11_217 (pc := 6) C dX11_lookAt_6 ?_
  refine k_aload_n (pc := 9) C dX11_lookAt_9 0 rfl ?_
  refine gf_X11_206 (pc := 10) C dX11_lookAt_10 ?_
  refine k_icmp_ge (pc := 13) C 43 dX11_lookAt_13 (by decide) h (fun c4 h => ?_) (fun c4 h => ?_)
  · refine k_sub [0] rfl ?_
    exact k_X11_lookAt_b43 C E T h
  · refine k_aload_n (pc := 16) C dX11_lookAt_16 0 rfl ?_
    refine gf_X11_36 (pc := 17) C dX11_lookAt_17 ?_
    refine k_aload_n (pc := 20) C dX11_lookAt_20 0 rfl ?_
    refine gf_X11_217 (pc := 21) C dX11_lookAt_21 ?_
    refine k_iald (pc := 24) C ia_10_8 dX11_lookAt_24 h (fun h => ?_)
    refine k_bipush (pc := 25) (v := (32 : Int32)) C dX11_lookAt_25 cbipush_32 ?_
    refine k_icmp_ne (pc := 27) C 43 dX11_lookAt_27 (by decide) h (fun c3 h => ?_) (fun c3 h => ?_)
    · refine k_sub [0] rfl ?_
      exact k_X11_lookAt_b43 C E T h
    · refine k_aload_n (pc := 30) C dX11_lookAt_30 0 rfl ?_
      refine k_dup (pc := 31) C dX11_lookAt_31 rfl ?_
      refine gf_X11_217 (pc := 32) C dX11_lookAt_32 ?_
      refine k_iconst (pc := 35) (v := (1 : Int32)) C dX11_lookAt_35 ciconst_1 ?_
      refine k_iadd (pc := 36) C dX11_lookAt_36 ?_
      refine pf_X11_217 (pc := 37) C dX11_lookAt_37 ?_
      refine k_nT h (fun T2 h => ?_)
      refine k_goto (pc := 40) C 5 dX11_lookAt_40 (by decide) ?_
      refine k_sub [0] rfl ?_
      exact hrec5 T2 h
set_option maxHeartbeats 4000000 in
set_option maxRecDepth 100000 in
theorem k_X11_lookAt_l5 {B : KB} {X : KE} {res : TT} (C : Cx B X "GriefEngineModel" cX11_lookAt 5 3) (E : Cr B X none none res) : ∀ (n : Nat) (T : TT) (h : m_X11_lookAt_l5 n T = some res), Wk B X 5 T 5 [(0, .ref (B.1 10 0))] [] := by
  intro n
  induction n with
  | zero =>
    intro T h
    exact no_some h
  | succ n ih =>
    intro T h
    exact k_X11_lookAt_h5 C E (fun T h => ih T h) T h
set_option maxHeartbeats 4000000 in
set_option maxRecDepth 100000 in
theorem kc_X11_lookAt {B : KB} {l : Launch} {T : TT} {x1 : Int32} {res : TT} (h : m_X11_lookAt T x1 = some res) : Kt B l 3 yX11_lookAt cX11_lookAt 5 none T [.ref (B.1 10 0), .int x1] none res := by
  refine Kt.of (by decide) (Nat.le_of_ble_eq_true rfl) (fun X hX C E => ?_)
  subst hX
  have C : Cx B X "GriefEngineModel" cX11_lookAt 5 3 := C
  show Wk B X 5 T 0 [(0, .ref (B.1 10 0)), (1, .int x1)] []
  unfold m_X11_lookAt at h
  refine k_aload_n (pc := 0) C dX11_lookAt_0 0 rfl ?_
  refine k_iload_n (pc := 1) C dX11_lookAt_1 1 rfl ?_
  refine pf_X11_217 (pc := 2) C dX11_lookAt_2 ?_
  refine k_nT h (fun T1 h => ?_)
  refine k_sub [0] rfl ?_
  exact k_X11_lookAt_l5 C E FU T1 h
def m_X11_goBehind (T : TT) : Option (TT) := (m_X11_lookAt T ((T.2.1 10 14) + (T.2.1 10 15))).bind (fun z1 => some z1)
set_option maxHeartbeats 4000000 in
set_option maxRecDepth 100000 in
theorem kc_X11_goBehind {B : KB} {l : Launch} {T : TT} {res : TT} (h : m_X11_goBehind T = some res) : Kt B l 4 yX11_goBehind cX11_goBehind 1 none T [.ref (B.1 10 0)] none res := by
  refine Kt.of (by decide) (Nat.le_of_ble_eq_true rfl) (fun X hX C E => ?_)
  subst hX
  have C : Cx B X "GriefEngineModel" cX11_goBehind 1 4 := C
  show Wk B X 1 T 0 [(0, .ref (B.1 10 0))] []
  unfold m_X11_goBehind at h
  refine k_aload_n (pc := 0) C dX11_goBehind_0 0 rfl ?_
  refine k_aload_n (pc := 1) C dX11_goBehind_1 0 rfl ?_
  refine gf_X11_217 (pc := 2) C dX11_goBehind_2 ?_
  refine k_aload_n (pc := 5) C dX11_goBehind_5 0 rfl ?_
  refine gf_X11_220 (pc := 6) C dX11_goBehind_6 ?_
  refine k_iadd (pc := 9) C dX11_goBehind_9 ?_
  obtain ⟨z1, e1, h⟩ := bnd h
  refine k_callvV (pc := 10) C lk_X11_235 (by decide) ix_X11 wo_X11 rfl rfl (kc_X11_lookAt e1) dX11_goBehind_10 rfl rfl (Nat.le_of_ble_eq_true rfl) ?_
  exact k_vret (pc := 13) C E (some_i h) dX11_goBehind_13
def m_X11_spells_b111 (T : TT) (rec26 : Int32 → Int32 → Int32 → Int32 → Int32 → Int32 → Int32 → Int32 → Int32 → Option (Int32)) (x1 : Int32) (x2 : Int32) (x3 : Int32) (x4 : Int32) (x5 : Int32) (x6 : Int32) (x7 : Int32) (x9 : Int32) (s0 : Int32) : Option (Int32) := bT (x9 + (1 : Int32)) (fun y11 => rec26 x1 x2 x3 x4 x5 x6 x7 s0 y11)
def m_X11_spells_b103 (T : TT) (rec26 : Int32 → Int32 → Int32 → Int32 → Int32 → Int32 → Int32 → Int32 → Int32 → Option (Int32)) (x1 : Int32) (x2 : Int32) (x3 : Int32) (x4 : Int32) (x5 : Int32) (x6 : Int32) (x7 : Int32) (x9 : Int32) (s0 : Int32) (s1 : Int32) : Option (Int32) := if s0 = s1 then (m_X11_spells_b111 T rec26 x1 x2 x3 x4 x5 x6 x7 x9 (1 : Int32)) else (m_X11_spells_b111 T rec26 x1 x2 x3 x4 x5 x6 x7 x9 (0 : Int32))
def m_X11_spells_h26 (T : TT) (rec26 : Int32 → Int32 → Int32 → Int32 → Int32 → Int32 → Int32 → Int32 → Int32 → Option (Int32)) (x1 : Int32) (x2 : Int32) (x3 : Int32) (x4 : Int32) (x5 : Int32) (x6 : Int32) (x7 : Int32) (x8 : Int32) (x9 : Int32) : Option (Int32) := if x1 ≤ x9 then (if x8 = 0 ∨ x8 = 1 then some x8 else none) else (if x8 = 0 then (if x8 = 0 ∨ x8 = 1 then some x8 else none) else (if inb ((T.2.1 10 14) + x9) 150 then (if x9 = 0 then (m_X11_spells_b103 T rec26 x1 x2 x3 x4 x5 x6 x7 x9 (T.1 10 8 (Int32.toNatClampNeg ((T.2.1 10 14) + x9))) x2) else (if x9 = (1 : Int32) then (m_X11_spells_b103 T rec26 x1 x2 x3 x4 x5 x6 x7 x9 (T.1 10 8 (Int32.toNatClampNeg ((T.2.1 10 14) + x9))) x3) else (if x9 = (2 : Int32) then (m_X11_spells_b103 T rec26 x1 x2 x3 x4 x5 x6 x7 x9 (T.1 10 8 (Int32.toNatClampNeg ((T.2.1 10 14) + x9))) x4) else (if x9 = (3 : Int32) then (m_X11_spells_b103 T rec26 x1 x2 x3 x4 x5 x6 x7 x9 (T.1 10 8 (Int32.toNatClampNeg ((T.2.1 10 14) + x9))) x5) else (if x9 = (4 : Int32) then (m_X11_spells_b103 T rec26 x1 x2 x3 x4 x5 x6 x7 x9 (T.1 10 8 (Int32.toNatClampNeg ((T.2.1 10 14) + x9))) x6) else (m_X11_spells_b103 T rec26 x1 x2 x3 x4 x5 x6 x7 x9 (T.1 10 8 (Int32.toNatClampNeg ((T.2.1 10 14) + x9))) x7)))))) else none))
def m_X11_spells_l26 (T : TT) : Nat → Int32 → Int32 → Int32 → Int32 → Int32 → Int32 → Int32 → Int32 → Int32 → Option (Int32)
  | 0 => fun _ _ _ _ _ _ _ _ _ => none
  | n + 1 => fun x1 x2 x3 x4 x5 x6 x7 x8 x9 => m_X11_spells_h26 T (m_X11_spells_l26 T n) x1 x2 x3 x4 x5 x6 x7 x8 x9
def m_X11_spells_b21 (T : TT) (x1 : Int32) (x2 : Int32) (x3 : Int32) (x4 : Int32) (x5 : Int32) (x6 : Int32) (x7 : Int32) (s0 : Int32) : Option (Int32) := m_X11_spells_l26 T FU x1 x2 x3 x4 x5 x6 x7 s0 (0 : Int32)
def m_X11_spells_b20 (T : TT) (x1 : Int32) (x2 : Int32) (x3 : Int32) (x4 : Int32) (x5 : Int32) (x6 : Int32) (x7 : Int32) : Option (Int32) := m_X11_spells_b21 T x1 x2 x3 x4 x5 x6 x7 (0 : Int32)
def m_X11_spells (T : TT) (x1 : Int32) (x2 : Int32) (x3 : Int32) (x4 : Int32) (x5 : Int32) (x6 : Int32) (x7 : Int32) : Option (Int32) := if (T.2.1 10 16) = (1 : Int32) then (if (T.2.1 10 15) = x1 then (m_X11_spells_b21 T x1 x2 x3 x4 x5 x6 x7 (1 : Int32)) else (m_X11_spells_b20 T x1 x2 x3 x4 x5 x6 x7)) else (m_X11_spells_b20 T x1 x2 x3 x4 x5 x6 x7)
set_option maxHeartbeats 4000000 in
set_option maxRecDepth 100000 in
theorem k_X11_spells_b111 {B : KB} {X : KE} {T : TT} {rec26 : Int32 → Int32 → Int32 → Int32 → Int32 → Int32 → Int32 → Int32 → Int32 → Option (Int32)} {res : Int32} (C : Cx B X "GriefEngineModel" cX11_spells 10 1) (E : Cr B X (some .boolean) (some (.int res)) T) (hrec26 : ∀ (x1 : Int32) (x2 : Int32) (x3 : Int32) (x4 : Int32) (x5 : Int32) (x6 : Int32) (x7 : Int32) (x8 : Int32) (x9 : Int32), rec26 x1 x2 x3 x4 x5 x6 x7 x8 x9 = some res → Wk B X 10 T 26 [(0, .ref (B.1 10 0)), (1, .int x1), (2, .int x2), (3, .int x3), (4, .int x4), (5, .int x5), (6, .int x6), (7, .int x7), (8, .int x8), (9, .int x9)] []) (x1 : Int32) (x2 : Int32) (x3 : Int32) (x4 : Int32) (x5 : Int32) (x6 : Int32) (x7 : Int32) (x9 : Int32) (s0 : Int32) (h : m_X11_spells_b111 T rec26 x1 x2 x3 x4 x5 x6 x7 x9 s0 = some res) : Wk B X 10 T 111 [(0, .ref (B.1 10 0)), (1, .int x1), (2, .int x2), (3, .int x3), (4, .int x4), (5, .int x5), (6, .int x6), (7, .int x7), (9, .int x9)] [.int s0] := by
  unfold m_X11_spells_b111 at h
  refine k_istore (pc := 111) C [(8, .int s0), (0, .ref (B.1 10 0)), (1, .int x1), (2, .int x2), (3, .int x3), (4, .int x4), (5, .int x5), (6, .int x6), (7, .int x7), (9, .int x9)] dX11_spells_111 (by decide) rfl ?_
  refine k_iincN (pc := 113) (x := x9) (c := (1 : Int32)) C (fun y11 => [(9, .int y11), (8, .int s0), (0, .ref (B.1 10 0)), (1, .int x1), (2, .int x2), (3, .int x3), (4, .int x4), (5, .int x5), (6, .int x6), (7, .int x7)]) dX11_spells_113 9 rfl ciconst_1 (by decide) (fun _ => rfl) h (fun y11 h => ?_)
  refine k_goto (pc := 116) C 26 dX11_spells_116 (by decide) ?_
  refine k_sub [2, 3, 4, 5, 6, 7, 8, 9, 1, 0] rfl ?_
  exact hrec26 x1 x2 x3 x4 x5 x6 x7 s0 y11 h
set_option maxHeartbeats 4000000 in
set_option maxRecDepth 100000 in
theorem k_X11_spells_b103 {B : KB} {X : KE} {T : TT} {rec26 : Int32 → Int32 → Int32 → Int32 → Int32 → Int32 → Int32 → Int32 → Int32 → Option (Int32)} {res : Int32} (C : Cx B X "GriefEngineModel" cX11_spells 10 1) (E : Cr B X (some .boolean) (some (.int res)) T) (hrec26 : ∀ (x1 : Int32) (x2 : Int32) (x3 : Int32) (x4 : Int32) (x5 : Int32) (x6 : Int32) (x7 : Int32) (x8 : Int32) (x9 : Int32), rec26 x1 x2 x3 x4 x5 x6 x7 x8 x9 = some res → Wk B X 10 T 26 [(0, .ref (B.1 10 0)), (1, .int x1), (2, .int x2), (3, .int x3), (4, .int x4), (5, .int x5), (6, .int x6), (7, .int x7), (8, .int x8), (9, .int x9)] []) (x1 : Int32) (x2 : Int32) (x3 : Int32) (x4 : Int32) (x5 : Int32) (x6 : Int32) (x7 : Int32) (x9 : Int32) (s0 : Int32) (s1 : Int32) (h : m_X11_spells_b103 T rec26 x1 x2 x3 x4 x5 x6 x7 x9 s0 s1 = some res) : Wk B X 10 T 103 [(0, .ref (B.1 10 0)), (1, .int x1), (2, .int x2), (3, .int x3), (4, .int x4), (5, .int x5), (6, .int x6), (7, .int x7), (9, .int x9)] [.int s1, .int s0] := by
  unfold m_X11_spells_b103 at h
  refine k_icmp_ne (pc := 103) C 110 dX11_spells_103 (by decide) h (fun c10 h => ?_) (fun c10 h => ?_)
  · refine k_iconst (pc := 110) (v := (0 : Int32)) C dX11_spells_110 ciconst_0 ?_
    refine k_sub [0, 1, 2, 3, 4, 5, 6, 7, 8] rfl ?_
    exact k_X11_spells_b111 C E hrec26 x1 x2 x3 x4 x5 x6 x7 x9 (0 : Int32) h
  · refine k_iconst (pc := 106) (v := (1 : Int32)) C dX11_spells_106 ciconst_1 ?_
    refine k_goto (pc := 107) C 111 dX11_spells_107 (by decide) ?_
    refine k_sub [0, 1, 2, 3, 4, 5, 6, 7, 8] rfl ?_
    exact k_X11_spells_b111 C E hrec26 x1 x2 x3 x4 x5 x6 x7 x9 (1 : Int32) h
set_option maxHeartbeats 4000000 in
set_option maxRecDepth 100000 in
theorem k_X11_spells_h26 {B : KB} {X : KE} {T : TT} {rec26 : Int32 → Int32 → Int32 → Int32 → Int32 → Int32 → Int32 → Int32 → Int32 → Option (Int32)} {res : Int32} (C : Cx B X "GriefEngineModel" cX11_spells 10 1) (E : Cr B X (some .boolean) (some (.int res)) T) (hrec26 : ∀ (x1 : Int32) (x2 : Int32) (x3 : Int32) (x4 : Int32) (x5 : Int32) (x6 : Int32) (x7 : Int32) (x8 : Int32) (x9 : Int32), rec26 x1 x2 x3 x4 x5 x6 x7 x8 x9 = some res → Wk B X 10 T 26 [(0, .ref (B.1 10 0)), (1, .int x1), (2, .int x2), (3, .int x3), (4, .int x4), (5, .int x5), (6, .int x6), (7, .int x7), (8, .int x8), (9, .int x9)] []) (x1 : Int32) (x2 : Int32) (x3 : Int32) (x4 : Int32) (x5 : Int32) (x6 : Int32) (x7 : Int32) (x8 : Int32) (x9 : Int32) (h : m_X11_spells_h26 T rec26 x1 x2 x3 x4 x5 x6 x7 x8 x9 = some res) : Wk B X 10 T 26 [(0, .ref (B.1 10 0)), (1, .int x1), (2, .int x2), (3, .int x3), (4, .int x4), (5, .int x5), (6, .int x6), (7, .int x7), (8, .int x8), (9, .int x9)] [] := by
  unfold m_X11_spells_h26 at h
  refine k_iload (pc := 26) C dX11_spells_26 9 rfl ?_
  refine k_iload_n (pc := 28) C dX11_spells_28 1 rfl ?_
  refine k_icmp_ge (pc := 29) C 119 dX11_spells_29 (by decide) h (fun c9 h => ?_) (fun c9 h => ?_)
  · refine k_iload (pc := 119) C dX11_spells_119 8 rfl ?_
    by_cases cz : x8 = 0 ∨ x8 = 1
    · rw [if_pos cz] at h
      exact k_zret (pc := 121) C E (bool01 cz) (some_i h) rfl dX11_spells_121
    · rw [if_neg cz] at h
      exact no_some h
  · refine k_iload (pc := 32) C dX11_spells_32 8 rfl ?_
    refine k_if_eq (pc := 34) C 119 dX11_spells_34 (by decide) h (fun c8 h => ?_) (fun c8 h => ?_)
    · refine k_iload (pc := 119) C dX11_spells_119 8 rfl ?_
      by_cases cz : x8 = 0 ∨ x8 = 1
      · rw [if_pos cz] at h
        exact k_zret (pc := 121) C E (bool01 cz) (some_i h) rfl dX11_spells_121
      · rw [if_neg cz] at h
        exact no_some h
    · refine k_aload_n (pc := 37) C dX11_spells_37 0 rfl ?_
      refine gf_X11_36 (pc := 38) C dX11_spells_38 ?_
      refine k_aload_n (pc := 41) C dX11_spells_41 0 rfl ?_
      refine gf_X11_217 (pc := 42) C dX11_spells_42 ?_
      refine k_iload (pc := 45) C dX11_spells_45 9 rfl ?_
      refine k_iadd (pc := 47) C dX11_spells_47 ?_
      refine k_iald (pc := 48) C ia_10_8 dX11_spells_48 h (fun h => ?_)
      refine k_iload (pc := 49) C dX11_spells_49 9 rfl ?_
      refine k_if_ne (pc := 51) C 58 dX11_spells_51 (by decide) h (fun c7 h => ?_) (fun c7 h => ?_)
      · refine k_iload (pc := 58) C dX11_spells_58 9 rfl ?_
        refine k_iconst (pc := 60) (v := (1 : Int32)) C dX11_spells_60 ciconst_1 ?_
        refine k_icmp_ne (pc := 61) C 68 dX11_spells_61 (by decide) h (fun c6 h => ?_) (fun c6 h => ?_)
        · refine k_iload (pc := 68) C dX11_spells_68 9 rfl ?_
          refine k_iconst (pc := 70) (v := (2 : Int32)) C dX11_spells_70 ciconst_2 ?_
          refine k_icmp_ne (pc := 71) C 79 dX11_spells_71 (by decide) h (fun c5 h => ?_) (fun c5 h => ?_)
          · refine k_iload (pc := 79) C dX11_spells_79 9 rfl ?_
            refine k_iconst (pc := 81) (v := (3 : Int32)) C dX11_spells_81 ciconst_3 ?_
            refine k_icmp_ne (pc := 82) C 90 dX11_spells_82 (by decide) h (fun c4 h => ?_) (fun c4 h => ?_)
            · refine k_iload (pc := 90) C dX11_spells_90 9 rfl ?_
              refine k_iconst (pc := 92) (v := (4 : Int32)) C dX11_spells_92 ciconst_4 ?_
              refine k_icmp_ne (pc := 93) C 101 dX11_spells_93 (by decide) h (fun c3 h => ?_) (fun c3 h => ?_)
              · refine k_iload (pc := 101) C dX11_spells_101 7 rfl ?_
                refine k_sub [0, 1, 2, 3, 4, 5, 6, 7, 9] rfl ?_
                exact k_X11_spells_b103 C E hrec26 x1 x2 x3 x4 x5 x6 x7 x9 (T.1 10 8 (Int32.toNatClampNeg ((T.2.1 10 14) + x9))) x7 h
              · refine k_iload (pc := 96) C dX11_spells_96 6 rfl ?_
                refine k_goto (pc := 98) C 103 dX11_spells_98 (by decide) ?_
                refine k_sub [0, 1, 2, 3, 4, 5, 6, 7, 9] rfl ?_
                exact k_X11_spells_b103 C E hrec26 x1 x2 x3 x4 x5 x6 x7 x9 (T.1 10 8 (Int32.toNatClampNeg ((T.2.1 10 14) + x9))) x6 h
            · refine k_iload (pc := 85) C dX11_spells_85 5 rfl ?_
              refine k_goto (pc := 87) C 103 dX11_spells_87 (by decide) ?_
              refine k_sub [0, 1, 2, 3, 4, 5, 6, 7, 9] rfl ?_
              exact k_X11_spells_b103 C E hrec26 x1 x2 x3 x4 x5 x6 x7 x9 (T.1 10 8 (Int32.toNatClampNeg ((T.2.1 10 14) + x9))) x5 h
          · refine k_iload (pc := 74) C dX11_spells_74 4 rfl ?_
            refine k_goto (pc := 76) C 103 dX11_spells_76 (by decide) ?_
            refine k_sub [0, 1, 2, 3, 4, 5, 6, 7, 9] rfl ?_
            exact k_X11_spells_b103 C E hrec26 x1 x2 x3 x4 x5 x6 x7 x9 (T.1 10 8 (Int32.toNatClampNeg ((T.2.1 10 14) + x9))) x4 h
        · refine k_iload_n (pc := 64) C dX11_spells_64 3 rfl ?_
          refine k_goto (pc := 65) C 103 dX11_spells_65 (by decide) ?_
          refine k_sub [0, 1, 2, 3, 4, 5, 6, 7, 9] rfl ?_
          exact k_X11_spells_b103 C E hrec26 x1 x2 x3 x4 x5 x6 x7 x9 (T.1 10 8 (Int32.toNatClampNeg ((T.2.1 10 14) + x9))) x3 h
      · refine k_iload_n (pc := 54) C dX11_spells_54 2 rfl ?_
        refine k_goto (pc := 55) C 103 dX11_spells_55 (by decide) ?_
        refine k_sub [0, 1, 2, 3, 4, 5, 6, 7, 9] rfl ?_
        exact k_X11_spells_b103 C E hrec26 x1 x2 x3 x4 x5 x6 x7 x9 (T.1 10 8 (Int32.toNatClampNeg ((T.2.1 10 14) + x9))) x2 h
set_option maxHeartbeats 4000000 in
set_option maxRecDepth 100000 in
theorem k_X11_spells_l26 {B : KB} {X : KE} {T : TT} {res : Int32} (C : Cx B X "GriefEngineModel" cX11_spells 10 1) (E : Cr B X (some .boolean) (some (.int res)) T) : ∀ (n : Nat) (x1 : Int32) (x2 : Int32) (x3 : Int32) (x4 : Int32) (x5 : Int32) (x6 : Int32) (x7 : Int32) (x8 : Int32) (x9 : Int32) (h : m_X11_spells_l26 T n x1 x2 x3 x4 x5 x6 x7 x8 x9 = some res), Wk B X 10 T 26 [(0, .ref (B.1 10 0)), (1, .int x1), (2, .int x2), (3, .int x3), (4, .int x4), (5, .int x5), (6, .int x6), (7, .int x7), (8, .int x8), (9, .int x9)] [] := by
  intro n
  induction n with
  | zero =>
    intro x1 x2 x3 x4 x5 x6 x7 x8 x9 h
    exact no_some h
  | succ n ih =>
    intro x1 x2 x3 x4 x5 x6 x7 x8 x9 h
    exact k_X11_spells_h26 C E (fun x1 x2 x3 x4 x5 x6 x7 x8 x9 h => ih x1 x2 x3 x4 x5 x6 x7 x8 x9 h) x1 x2 x3 x4 x5 x6 x7 x8 x9 h
set_option maxHeartbeats 4000000 in
set_option maxRecDepth 100000 in
theorem k_X11_spells_b21 {B : KB} {X : KE} {T : TT} {res : Int32} (C : Cx B X "GriefEngineModel" cX11_spells 10 1) (E : Cr B X (some .boolean) (some (.int res)) T) (x1 : Int32) (x2 : Int32) (x3 : Int32) (x4 : Int32) (x5 : Int32) (x6 : Int32) (x7 : Int32) (s0 : Int32) (h : m_X11_spells_b21 T x1 x2 x3 x4 x5 x6 x7 s0 = some res) : Wk B X 10 T 21 [(0, .ref (B.1 10 0)), (1, .int x1), (2, .int x2), (3, .int x3), (4, .int x4), (5, .int x5), (6, .int x6), (7, .int x7)] [.int s0] := by
  unfold m_X11_spells_b21 at h
  refine k_istore (pc := 21) C [(8, .int s0), (0, .ref (B.1 10 0)), (1, .int x1), (2, .int x2), (3, .int x3), (4, .int x4), (5, .int x5), (6, .int x6), (7, .int x7)] dX11_spells_21 (by decide) rfl ?_
  refine k_iconst (pc := 23) (v := (0 : Int32)) C dX11_spells_23 ciconst_0 ?_
  refine k_istore (pc := 24) C [(9, .int (0 : Int32)), (8, .int s0), (0, .ref (B.1 10 0)), (1, .int x1), (2, .int x2), (3, .int x3), (4, .int x4), (5, .int x5), (6, .int x6), (7, .int x7)] dX11_spells_24 (by decide) rfl ?_
  refine k_sub [2, 3, 4, 5, 6, 7, 8, 9, 1, 0] rfl ?_
  exact k_X11_spells_l26 C E FU x1 x2 x3 x4 x5 x6 x7 s0 (0 : Int32) h
set_option maxHeartbeats 4000000 in
set_option maxRecDepth 100000 in
theorem k_X11_spells_b20 {B : KB} {X : KE} {T : TT} {res : Int32} (C : Cx B X "GriefEngineModel" cX11_spells 10 1) (E : Cr B X (some .boolean) (some (.int res)) T) (x1 : Int32) (x2 : Int32) (x3 : Int32) (x4 : Int32) (x5 : Int32) (x6 : Int32) (x7 : Int32) (h : m_X11_spells_b20 T x1 x2 x3 x4 x5 x6 x7 = some res) : Wk B X 10 T 20 [(0, .ref (B.1 10 0)), (1, .int x1), (2, .int x2), (3, .int x3), (4, .int x4), (5, .int x5), (6, .int x6), (7, .int x7)] [] := by
  unfold m_X11_spells_b20 at h
  refine k_iconst (pc := 20) (v := (0 : Int32)) C dX11_spells_20 ciconst_0 ?_
  refine k_sub [0, 1, 2, 3, 4, 5, 6, 7] rfl ?_
  exact k_X11_spells_b21 C E x1 x2 x3 x4 x5 x6 x7 (0 : Int32) h
set_option maxHeartbeats 4000000 in
set_option maxRecDepth 100000 in
theorem kc_X11_spells {B : KB} {l : Launch} {T : TT} {x1 : Int32} {x2 : Int32} {x3 : Int32} {x4 : Int32} {x5 : Int32} {x6 : Int32} {x7 : Int32} {res : Int32} (h : m_X11_spells T x1 x2 x3 x4 x5 x6 x7 = some res) : Kt B l 1 yX11_spells cX11_spells 10 (some .boolean) T [.ref (B.1 10 0), .int x1, .int x2, .int x3, .int x4, .int x5, .int x6, .int x7] (some (.int res)) T := by
  refine Kt.of (by decide) (Nat.le_of_ble_eq_true rfl) (fun X hX C E => ?_)
  subst hX
  have C : Cx B X "GriefEngineModel" cX11_spells 10 1 := C
  show Wk B X 10 T 0 [(0, .ref (B.1 10 0)), (1, .int x1), (2, .int x2), (3, .int x3), (4, .int x4), (5, .int x5), (6, .int x6), (7, .int x7)] []
  unfold m_X11_spells at h
  refine k_aload_n (pc := 0) C dX11_spells_0 0 rfl ?_
  refine gf_X11_223 (pc := 1) C dX11_spells_1 ?_
  refine k_iconst (pc := 4) (v := (1 : Int32)) C dX11_spells_4 ciconst_1 ?_
  refine k_icmp_ne (pc := 5) C 20 dX11_spells_5 (by decide) h (fun c2 h => ?_) (fun c2 h => ?_)
  · refine k_sub [0, 1, 2, 3, 4, 5, 6, 7] rfl ?_
    exact k_X11_spells_b20 C E x1 x2 x3 x4 x5 x6 x7 h
  · refine k_aload_n (pc := 8) C dX11_spells_8 0 rfl ?_
    refine gf_X11_220 (pc := 9) C dX11_spells_9 ?_
    refine k_iload_n (pc := 12) C dX11_spells_12 1 rfl ?_
    refine k_icmp_ne (pc := 13) C 20 dX11_spells_13 (by decide) h (fun c1 h => ?_) (fun c1 h => ?_)
    · refine k_sub [0, 1, 2, 3, 4, 5, 6, 7] rfl ?_
      exact k_X11_spells_b20 C E x1 x2 x3 x4 x5 x6 x7 h
    · refine k_iconst (pc := 16) (v := (1 : Int32)) C dX11_spells_16 ciconst_1 ?_
      refine k_goto (pc := 17) C 21 dX11_spells_17 (by decide) ?_
      refine k_sub [0, 1, 2, 3, 4, 5, 6, 7] rfl ?_
      exact k_X11_spells_b21 C E x1 x2 x3 x4 x5 x6 x7 (1 : Int32) h
def m_X11_takes (T : TT) (x1 : Int32) (x2 : Int32) (x3 : Int32) : Option (Int32 × TT) := if (T.2.1 10 16) = (2 : Int32) then ((m_X11_in ((T.2.1 10 17).toInt64) (x2.toInt64) (x3.toInt64)).bind (fun z1 => if z1 = 0 then (some ((0 : Int32), T)) else (if inb x1 2 then bT (sA T 10 10 (Int32.toNatClampNeg x1) (T.2.1 10 17)) (fun T2 => (m_X11_goBehind T2).bind (fun z3 => some ((1 : Int32), z3))) else none))) else (some ((0 : Int32), T))
set_option maxHeartbeats 4000000 in
set_option maxRecDepth 100000 in
theorem kc_X11_takes {B : KB} {l : Launch} {T : TT} {x1 : Int32} {x2 : Int32} {x3 : Int32} {res : Int32 × TT} (h : m_X11_takes T x1 x2 x3 = some res) : Kt B l 5 yX11_takes cX11_takes 4 (some .boolean) T [.ref (B.1 10 0), .int x1, .int x2, .int x3] (some (.int res.1)) res.2 := by
  refine Kt.of (by decide) (Nat.le_of_ble_eq_true rfl) (fun X hX C E => ?_)
  subst hX
  have C : Cx B X "GriefEngineModel" cX11_takes 4 5 := C
  show Wk B X 4 T 0 [(0, .ref (B.1 10 0)), (1, .int x1), (2, .int x2), (3, .int x3)] []
  unfold m_X11_takes at h
  refine k_aload_n (pc := 0) C dX11_takes_0 0 rfl ?_
  refine gf_X11_223 (pc := 1) C dX11_takes_1 ?_
  refine k_iconst (pc := 4) (v := (2 : Int32)) C dX11_takes_4 ciconst_2 ?_
  refine k_icmp_ne (pc := 5) C 23 dX11_takes_5 (by decide) h (fun c5 h => ?_) (fun c5 h => ?_)
  · refine k_iconst (pc := 23) (v := (0 : Int32)) C dX11_takes_23 ciconst_0 ?_
    exact k_zret (pc := 24) C E rfl (some_1 h) (some_2 h) dX11_takes_24
  · refine k_aload_n (pc := 8) C dX11_takes_8 0 rfl ?_
    refine gf_X11_226 (pc := 9) C dX11_takes_9 ?_
    refine k_i2l (pc := 12) C dX11_takes_12 ?_
    refine k_iload_n (pc := 13) C dX11_takes_13 2 rfl ?_
    refine k_i2l (pc := 14) C dX11_takes_14 ?_
    refine k_iload_n (pc := 15) C dX11_takes_15 3 rfl ?_
    refine k_i2l (pc := 16) C dX11_takes_16 ?_
    obtain ⟨z1, e1, h⟩ := bnd h
    refine k_callsI (pc := 17) C lk_X11_53 (by decide) (kc_X11_in e1) dX11_takes_17 rfl rfl (Nat.le_of_ble_eq_true rfl) ?_
    refine k_if_ne (pc := 20) C 25 dX11_takes_20 (by decide) h (fun c4 h => ?_) (fun c4 h => ?_)
    · refine k_aload_n (pc := 25) C dX11_takes_25 0 rfl ?_
      refine gf_X11_42 (pc := 26) C dX11_takes_26 ?_
      refine k_iload_n (pc := 29) C dX11_takes_29 1 rfl ?_
      refine k_aload_n (pc := 30) C dX11_takes_30 0 rfl ?_
      refine gf_X11_226 (pc := 31) C dX11_takes_31 ?_
      refine k_iast (pc := 34) C ia_10_10 dX11_takes_34 h (fun h => ?_)
      refine k_nT h (fun T2 h => ?_)
      refine k_aload_n (pc := 35) C dX11_takes_35 0 rfl ?_
      obtain ⟨z3, e3, h⟩ := bnd h
      refine k_callvV (pc := 36) C lk_X11_238 (by decide) ix_X11 wo_X11 rfl rfl (kc_X11_goBehind e3) dX11_takes_36 rfl rfl (Nat.le_of_ble_eq_true rfl) ?_
      refine k_iconst (pc := 39) (v := (1 : Int32)) C dX11_takes_39 ciconst_1 ?_
      exact k_zret (pc := 40) C E rfl (some_1 h) (some_2 h) dX11_takes_40
    · refine k_iconst (pc := 23) (v := (0 : Int32)) C dX11_takes_23 ciconst_0 ?_
      exact k_zret (pc := 24) C E rfl (some_1 h) (some_2 h) dX11_takes_24
def m_X11_takesDriver (T : TT) : Option (Int32 × TT) := if (T.1 10 9 0) = (6 : Int32) then (some ((0 : Int32), T)) else ((m_X11_goBehind T).bind (fun z1 => (m_X11_takes z1 (0 : Int32) (0 : Int32) (5 : Int32)).bind (fun z2 => if z2.1 = 0 then (some ((0 : Int32), z2.2)) else ((m_X11_takes z2.2 (1 : Int32) (0 : Int32) (99 : Int32)).bind (fun z3 => if z3.1 = 0 then (some ((0 : Int32), z3.2)) else ((m_X11_layDriver z3.2 10 9 71 (z3.2.1 10 10 0) (z3.2.1 10 10 1)).bind (fun z4 => some ((1 : Int32), z4))))))))
set_option maxHeartbeats 4000000 in
set_option maxRecDepth 100000 in
theorem kc_X11_takesDriver {B : KB} {l : Launch} {T : TT} {res : Int32 × TT} (h : m_X11_takesDriver T = some res) : Kt B l 6 yX11_takesDriver cX11_takesDriver 1 (some .boolean) T [.ref (B.1 10 0)] (some (.int res.1)) res.2 := by
  refine Kt.of (by decide) (Nat.le_of_ble_eq_true rfl) (fun X hX C E => ?_)
  subst hX
  have C : Cx B X "GriefEngineModel" cX11_takesDriver 1 6 := C
  show Wk B X 1 T 0 [(0, .ref (B.1 10 0))] []
  unfold m_X11_takesDriver at h
  refine k_aload_n (pc := 0) C dX11_takesDriver_0 0 rfl ?_
  refine gf_X11_39 (pc := 1) C dX11_takesDriver_1 ?_
  refine k_iconst (pc := 4) (v := (0 : Int32)) C dX11_takesDriver_4 ciconst_0 ?_
  refine k_ialdc (pc := 5) C ia_10_9 0 dX11_takesDriver_5 (by decide) (by decide) ?_
  refine k_bipush (pc := 6) (v := (6 : Int32)) C dX11_takesDriver_6 cbipush_6 ?_
  refine k_icmp_ne (pc := 8) C 13 dX11_takesDriver_8 (by decide) h (fun c7 h => ?_) (fun c7 h => ?_)
  · refine k_aload_n (pc := 13) C dX11_takesDriver_13 0 rfl ?_
    obtain ⟨z1, e1, h⟩ := bnd h
    refine k_callvV (pc := 14) C lk_X11_238 (by decide) ix_X11 wo_X11 rfl rfl (kc_X11_goBehind e1) dX11_takesDriver_14 rfl rfl (Nat.le_of_ble_eq_true rfl) ?_
    refine k_aload_n (pc := 17) C dX11_takesDriver_17 0 rfl ?_
    refine k_iconst (pc := 18) (v := (0 : Int32)) C dX11_takesDriver_18 ciconst_0 ?_
    refine k_iconst (pc := 19) (v := (0 : Int32)) C dX11_takesDriver_19 ciconst_0 ?_
    refine k_iconst (pc := 20) (v := (5 : Int32)) C dX11_takesDriver_20 ciconst_5 ?_
    obtain ⟨z2, e2, h⟩ := bnd h
    refine k_callvI (pc := 21) C lk_X11_241 (by decide) ix_X11 wo_X11 rfl rfl (kc_X11_takes e2) dX11_takesDriver_21 rfl rfl (Nat.le_of_ble_eq_true rfl) ?_
    refine k_if_eq (pc := 24) C 38 dX11_takesDriver_24 (by decide) h (fun c6 h => ?_) (fun c6 h => ?_)
    · refine k_iconst (pc := 38) (v := (0 : Int32)) C dX11_takesDriver_38 ciconst_0 ?_
      exact k_zret (pc := 39) C E rfl (some_1 h) (some_2 h) dX11_takesDriver_39
    · refine k_aload_n (pc := 27) C dX11_takesDriver_27 0 rfl ?_
      refine k_iconst (pc := 28) (v := (1 : Int32)) C dX11_takesDriver_28 ciconst_1 ?_
      refine k_iconst (pc := 29) (v := (0 : Int32)) C dX11_takesDriver_29 ciconst_0 ?_
      refine k_bipush (pc := 30) (v := (99 : Int32)) C dX11_takesDriver_30 cbipush_99 ?_
      obtain ⟨z3, e3, h⟩ := bnd h
      refine k_callvI (pc := 32) C lk_X11_241 (by decide) ix_X11 wo_X11 rfl rfl (kc_X11_takes e3) dX11_takesDriver_32 rfl rfl (Nat.le_of_ble_eq_true rfl) ?_
      refine k_if_ne (pc := 35) C 40 dX11_takesDriver_35 (by decide) h (fun c5 h => ?_) (fun c5 h => ?_)
      · refine k_aload_n (pc := 40) C dX11_takesDriver_40 0 rfl ?_
        refine gf_X11_39 (pc := 41) C dX11_takesDriver_41 ?_
        refine k_aload_n (pc := 44) C dX11_takesDriver_44 0 rfl ?_
        refine gf_X11_42 (pc := 45) C dX11_takesDriver_45 ?_
        refine k_iconst (pc := 48) (v := (0 : Int32)) C dX11_takesDriver_48 ciconst_0 ?_
        refine k_ialdc (pc := 49) C ia_10_10 0 dX11_takesDriver_49 (by decide) (by decide) ?_
        refine k_aload_n (pc := 50) C dX11_takesDriver_50 0 rfl ?_
        refine gf_X11_42 (pc := 51) C dX11_takesDriver_51 ?_
        refine k_iconst (pc := 54) (v := (1 : Int32)) C dX11_takesDriver_54 ciconst_1 ?_
        refine k_ialdc (pc := 55) C ia_10_10 1 dX11_takesDriver_55 (by decide) (by decide) ?_
        obtain ⟨z4, e4, h⟩ := bnd h
        refine k_callsV (pc := 56) C lk_X11_70 (by decide) (kc_X11_layDriver ia_10_9 e4) dX11_takesDriver_56 rfl rfl (Nat.le_of_ble_eq_true rfl) ?_
        refine k_iconst (pc := 59) (v := (1 : Int32)) C dX11_takesDriver_59 ciconst_1 ?_
        exact k_zret (pc := 60) C E rfl (some_1 h) (some_2 h) dX11_takesDriver_60
      · refine k_iconst (pc := 38) (v := (0 : Int32)) C dX11_takesDriver_38 ciconst_0 ?_
        exact k_zret (pc := 39) C E rfl (some_1 h) (some_2 h) dX11_takesDriver_39
  · refine k_iconst (pc := 11) (v := (0 : Int32)) C dX11_takesDriver_11 ciconst_0 ?_
    exact k_zret (pc := 12) C E rfl (some_1 h) (some_2 h) dX11_takesDriver_12
def m_X11_takesDays_h29 (rec29 : TT → Int32 → Option (Int32 × TT)) (T : TT) (x1 : Int32) : Option (Int32 × TT) := if (T.1 10 10 0) ≤ x1 then (some ((1 : Int32), T)) else (if (9999 : Int32) ≤ (T.1 10 9 16) then (some ((1 : Int32), T)) else ((m_X11_passDay T 10 9 71 (-1 : Int32) (T.1 10 10 1)).bind (fun z6 => bT (x1 + (1 : Int32)) (fun y7 => rec29 z6.2 y7))))
def m_X11_takesDays_l29 : Nat → TT → Int32 → Option (Int32 × TT)
  | 0 => fun _ _ => none
  | n + 1 => fun T x1 => m_X11_takesDays_h29 (m_X11_takesDays_l29 n) T x1
def m_X11_takesDays (T : TT) : Option (Int32 × TT) := (m_X11_goBehind T).bind (fun z1 => (m_X11_takes z1 (0 : Int32) (1 : Int32) (99 : Int32)).bind (fun z2 => if z2.1 = 0 then (some ((0 : Int32), z2.2)) else ((m_X11_takes z2.2 (1 : Int32) (0 : Int32) (2 : Int32)).bind (fun z3 => if z3.1 = 0 then (some ((0 : Int32), z3.2)) else (m_X11_takesDays_l29 FU z3.2 (0 : Int32))))))
set_option maxHeartbeats 4000000 in
set_option maxRecDepth 100000 in
theorem k_X11_takesDays_h29 {B : KB} {X : KE} {rec29 : TT → Int32 → Option (Int32 × TT)} {res : Int32 × TT} (C : Cx B X "GriefEngineModel" cX11_takesDays 3 6) (E : Cr B X (some .boolean) (some (.int res.1)) res.2) (hrec29 : ∀ (T : TT) (x1 : Int32), rec29 T x1 = some res → Wk B X 3 T 29 [(0, .ref (B.1 10 0)), (1, .int x1)] []) (T : TT) (x1 : Int32) (h : m_X11_takesDays_h29 rec29 T x1 = some res) : Wk B X 3 T 29 [(0, .ref (B.1 10 0)), (1, .int x1)] [] := by
  unfold m_X11_takesDays_h29 at h
  refine k_iload_n (pc := 29) C dX11_takesDays_29 1 rfl ?_
  refine k_aload_n (pc := 30) C dX11_takesDays_30 0 rfl ?_
  refine gf_X11_42 (pc := 31) C dX11_takesDays_31 ?_
  refine k_iconst (pc := 34) (v := (0 : Int32)) C dX11_takesDays_34 ciconst_0 ?_
  refine k_ialdc (pc := 35) C ia_10_10 0 dX11_takesDays_35 (by decide) (by decide) ?_
  refine k_icmp_ge (pc := 36) C 74 dX11_takesDays_36 (by decide) h (fun c9 h => ?_) (fun c9 h => ?_)
  · refine k_iconst (pc := 74) (v := (1 : Int32)) C dX11_takesDays_74 ciconst_1 ?_
    exact k_zret (pc := 75) C E rfl (some_1 h) (some_2 h) dX11_takesDays_75
  · refine k_aload_n (pc := 39) C dX11_takesDays_39 0 rfl ?_
    refine gf_X11_39 (pc := 40) C dX11_takesDays_40 ?_
    refine k_bipush (pc := 43) (v := (16 : Int32)) C dX11_takesDays_43 cbipush_16 ?_
    refine k_ialdc (pc := 45) C ia_10_9 16 dX11_takesDays_45 (by decide) (by decide) ?_
    refine k_sipush (pc := 46) (v := (9999 : Int32)) C dX11_takesDays_46 csipush_9999 ?_
    refine k_icmp_ge (pc := 49) C 74 dX11_takesDays_49 (by decide) h (fun c8 h => ?_) (fun c8 h => ?_)
    · refine k_iconst (pc := 74) (v := (1 : Int32)) C dX11_takesDays_74 ciconst_1 ?_
      exact k_zret (pc := 75) C E rfl (some_1 h) (some_2 h) dX11_takesDays_75
    · refine k_aload_n (pc := 52) C dX11_takesDays_52 0 rfl ?_
      refine k_aload_n (pc := 53) C dX11_takesDays_53 0 rfl ?_
      refine gf_X11_39 (pc := 54) C dX11_takesDays_54 ?_
      refine k_iconst (pc := 57) (v := (-1 : Int32)) C dX11_takesDays_57 ciconst_m1 ?_
      refine k_aload_n (pc := 58) C dX11_takesDays_58 0 rfl ?_
      refine gf_X11_42 (pc := 59) C dX11_takesDays_59 ?_
      refine k_iconst (pc := 62) (v := (1 : Int32)) C dX11_takesDays_62 ciconst_1 ?_
      refine k_ialdc (pc := 63) C ia_10_10 1 dX11_takesDays_63 (by decide) (by decide) ?_
      obtain ⟨z6, e6, h⟩ := bnd h
      refine k_callvI (pc := 64) C lk_X11_112 (by decide) ix_X11 wo_X11 rfl rfl (kc_X11_passDay ia_10_9 e6) dX11_takesDays_64 rfl rfl (Nat.le_of_ble_eq_true rfl) ?_
      refine k_istore_n (pc := 67) C [(2, .int z6.1), (0, .ref (B.1 10 0)), (1, .int x1)] dX11_takesDays_67 (by decide) rfl ?_
      refine k_iincN (pc := 68) (x := x1) (c := (1 : Int32)) C (fun y7 => [(1, .int y7), (2, .int z6.1), (0, .ref (B.1 10 0))]) dX11_takesDays_68 2 rfl ciconst_1 (by decide) (fun _ => rfl) h (fun y7 h => ?_)
      refine k_goto (pc := 71) C 29 dX11_takesDays_71 (by decide) ?_
      refine k_sub [2, 0] rfl ?_
      exact hrec29 z6.2 y7 h
set_option maxHeartbeats 4000000 in
set_option maxRecDepth 100000 in
theorem k_X11_takesDays_l29 {B : KB} {X : KE} {res : Int32 × TT} (C : Cx B X "GriefEngineModel" cX11_takesDays 3 6) (E : Cr B X (some .boolean) (some (.int res.1)) res.2) : ∀ (n : Nat) (T : TT) (x1 : Int32) (h : m_X11_takesDays_l29 n T x1 = some res), Wk B X 3 T 29 [(0, .ref (B.1 10 0)), (1, .int x1)] [] := by
  intro n
  induction n with
  | zero =>
    intro T x1 h
    exact no_some h
  | succ n ih =>
    intro T x1 h
    exact k_X11_takesDays_h29 C E (fun T x1 h => ih T x1 h) T x1 h
set_option maxHeartbeats 4000000 in
set_option maxRecDepth 100000 in
theorem kc_X11_takesDays {B : KB} {l : Launch} {T : TT} {res : Int32 × TT} (h : m_X11_takesDays T = some res) : Kt B l 6 yX11_takesDays cX11_takesDays 3 (some .boolean) T [.ref (B.1 10 0)] (some (.int res.1)) res.2 := by
  refine Kt.of (by decide) (Nat.le_of_ble_eq_true rfl) (fun X hX C E => ?_)
  subst hX
  have C : Cx B X "GriefEngineModel" cX11_takesDays 3 6 := C
  show Wk B X 3 T 0 [(0, .ref (B.1 10 0))] []
  unfold m_X11_takesDays at h
  refine k_aload_n (pc := 0) C dX11_takesDays_0 0 rfl ?_
  obtain ⟨z1, e1, h⟩ := bnd h
  refine k_callvV (pc := 1) C lk_X11_238 (by decide) ix_X11 wo_X11 rfl rfl (kc_X11_goBehind e1) dX11_takesDays_1 rfl rfl (Nat.le_of_ble_eq_true rfl) ?_
  refine k_aload_n (pc := 4) C dX11_takesDays_4 0 rfl ?_
  refine k_iconst (pc := 5) (v := (0 : Int32)) C dX11_takesDays_5 ciconst_0 ?_
  refine k_iconst (pc := 6) (v := (1 : Int32)) C dX11_takesDays_6 ciconst_1 ?_
  refine k_bipush (pc := 7) (v := (99 : Int32)) C dX11_takesDays_7 cbipush_99 ?_
  obtain ⟨z2, e2, h⟩ := bnd h
  refine k_callvI (pc := 9) C lk_X11_241 (by decide) ix_X11 wo_X11 rfl rfl (kc_X11_takes e2) dX11_takesDays_9 rfl rfl (Nat.le_of_ble_eq_true rfl) ?_
  refine k_if_eq (pc := 12) C 25 dX11_takesDays_12 (by decide) h (fun c5 h => ?_) (fun c5 h => ?_)
  · refine k_iconst (pc := 25) (v := (0 : Int32)) C dX11_takesDays_25 ciconst_0 ?_
    exact k_zret (pc := 26) C E rfl (some_1 h) (some_2 h) dX11_takesDays_26
  · refine k_aload_n (pc := 15) C dX11_takesDays_15 0 rfl ?_
    refine k_iconst (pc := 16) (v := (1 : Int32)) C dX11_takesDays_16 ciconst_1 ?_
    refine k_iconst (pc := 17) (v := (0 : Int32)) C dX11_takesDays_17 ciconst_0 ?_
    refine k_iconst (pc := 18) (v := (2 : Int32)) C dX11_takesDays_18 ciconst_2 ?_
    obtain ⟨z3, e3, h⟩ := bnd h
    refine k_callvI (pc := 19) C lk_X11_241 (by decide) ix_X11 wo_X11 rfl rfl (kc_X11_takes e3) dX11_takesDays_19 rfl rfl (Nat.le_of_ble_eq_true rfl) ?_
    refine k_if_ne (pc := 22) C 27 dX11_takesDays_22 (by decide) h (fun c4 h => ?_) (fun c4 h => ?_)
    · refine k_iconst (pc := 27) (v := (0 : Int32)) C dX11_takesDays_27 ciconst_0 ?_
      refine k_istore_n (pc := 28) C [(1, .int (0 : Int32)), (0, .ref (B.1 10 0))] dX11_takesDays_28 (by decide) rfl ?_
      refine k_sub [1, 0] rfl ?_
      exact k_X11_takesDays_l29 C E FU z3.2 (0 : Int32) h
    · refine k_iconst (pc := 25) (v := (0 : Int32)) C dX11_takesDays_25 ciconst_0 ?_
      exact k_zret (pc := 26) C E rfl (some_1 h) (some_2 h) dX11_takesDays_26
def m_X11_takesItem (T : TT) : Option (Int32 × TT) := (m_X11_spells T (6 : Int32) (100 : Int32) (114 : Int32) (105 : Int32) (118 : Int32) (101 : Int32) (114 : Int32)).bind (fun z1 => if z1 = 0 then ((m_X11_spells T (4 : Int32) (100 : Int32) (97 : Int32) (121 : Int32) (115 : Int32) (0 : Int32) (0 : Int32)).bind (fun z2 => if z2 = 0 then (some ((0 : Int32), T)) else ((m_X11_takesDays T).bind (fun z3 => if z3.1 = 0 then (some ((0 : Int32), z3.2)) else (some ((1 : Int32), z3.2)))))) else ((m_X11_takesDriver T).bind (fun z6 => if z6.1 = 0 ∨ z6.1 = 1 then some (z6.1, z6.2) else none)))
set_option maxHeartbeats 4000000 in
set_option maxRecDepth 100000 in
theorem kc_X11_takesItem {B : KB} {l : Launch} {T : TT} {res : Int32 × TT} (h : m_X11_takesItem T = some res) : Kt B l 7 yX11_takesItem cX11_takesItem 1 (some .boolean) T [.ref (B.1 10 0)] (some (.int res.1)) res.2 := by
  refine Kt.of (by decide) (Nat.le_of_ble_eq_true rfl) (fun X hX C E => ?_)
  subst hX
  have C : Cx B X "GriefEngineModel" cX11_takesItem 1 7 := C
  show Wk B X 1 T 0 [(0, .ref (B.1 10 0))] []
  unfold m_X11_takesItem at h
  refine k_aload_n (pc := 0) C dX11_takesItem_0 0 rfl ?_
  refine k_bipush (pc := 1) (v := (6 : Int32)) C dX11_takesItem_1 cbipush_6 ?_
  refine k_bipush (pc := 3) (v := (100 : Int32)) C dX11_takesItem_3 cbipush_100 ?_
  refine k_bipush (pc := 5) (v := (114 : Int32)) C dX11_takesItem_5 cbipush_114 ?_
  refine k_bipush (pc := 7) (v := (105 : Int32)) C dX11_takesItem_7 cbipush_105 ?_
  refine k_bipush (pc := 9) (v := (118 : Int32)) C dX11_takesItem_9 cbipush_118 ?_
  refine k_bipush (pc := 11) (v := (101 : Int32)) C dX11_takesItem_11 cbipush_101 ?_
  refine k_bipush (pc := 13) (v := (114 : Int32)) C dX11_takesItem_13 cbipush_114 ?_
  obtain ⟨z1, e1, h⟩ := bnd h
  refine k_callvI (pc := 15) C lk_X11_245 (by decide) ix_X11 wo_X11 rfl rfl (kc_X11_spells e1) dX11_takesItem_15 rfl rfl (Nat.le_of_ble_eq_true rfl) ?_
  refine k_if_eq (pc := 18) C 26 dX11_takesItem_18 (by decide) h (fun c7 h => ?_) (fun c7 h => ?_)
  · refine k_aload_n (pc := 26) C dX11_takesItem_26 0 rfl ?_
    refine k_iconst (pc := 27) (v := (4 : Int32)) C dX11_takesItem_27 ciconst_4 ?_
    refine k_bipush (pc := 28) (v := (100 : Int32)) C dX11_takesItem_28 cbipush_100 ?_
    refine k_bipush (pc := 30) (v := (97 : Int32)) C dX11_takesItem_30 cbipush_97 ?_
    refine k_bipush (pc := 32) (v := (121 : Int32)) C dX11_takesItem_32 cbipush_121 ?_
    refine k_bipush (pc := 34) (v := (115 : Int32)) C dX11_takesItem_34 cbipush_115 ?_
    refine k_iconst (pc := 36) (v := (0 : Int32)) C dX11_takesItem_36 ciconst_0 ?_
    refine k_iconst (pc := 37) (v := (0 : Int32)) C dX11_takesItem_37 ciconst_0 ?_
    obtain ⟨z2, e2, h⟩ := bnd h
    refine k_callvI (pc := 38) C lk_X11_245 (by decide) ix_X11 wo_X11 rfl rfl (kc_X11_spells e2) dX11_takesItem_38 rfl rfl (Nat.le_of_ble_eq_true rfl) ?_
    refine k_if_eq (pc := 41) C 55 dX11_takesItem_41 (by decide) h (fun c5 h => ?_) (fun c5 h => ?_)
    · refine k_iconst (pc := 55) (v := (0 : Int32)) C dX11_takesItem_55 ciconst_0 ?_
      exact k_zret (pc := 56) C E rfl (some_1 h) (some_2 h) dX11_takesItem_56
    · refine k_aload_n (pc := 44) C dX11_takesItem_44 0 rfl ?_
      obtain ⟨z3, e3, h⟩ := bnd h
      refine k_callvI (pc := 45) C lk_X11_253 (by decide) ix_X11 wo_X11 rfl rfl (kc_X11_takesDays e3) dX11_takesItem_45 rfl rfl (Nat.le_of_ble_eq_true rfl) ?_
      refine k_if_eq (pc := 48) C 55 dX11_takesItem_48 (by decide) h (fun c4 h => ?_) (fun c4 h => ?_)
      · refine k_iconst (pc := 55) (v := (0 : Int32)) C dX11_takesItem_55 ciconst_0 ?_
        exact k_zret (pc := 56) C E rfl (some_1 h) (some_2 h) dX11_takesItem_56
      · refine k_iconst (pc := 51) (v := (1 : Int32)) C dX11_takesItem_51 ciconst_1 ?_
        refine k_goto (pc := 52) C 56 dX11_takesItem_52 (by decide) ?_
        exact k_zret (pc := 56) C E rfl (some_1 h) (some_2 h) dX11_takesItem_56
  · refine k_aload_n (pc := 21) C dX11_takesItem_21 0 rfl ?_
    obtain ⟨z6, e6, h⟩ := bnd h
    refine k_callvI (pc := 22) C lk_X11_249 (by decide) ix_X11 wo_X11 rfl rfl (kc_X11_takesDriver e6) dX11_takesItem_22 rfl rfl (Nat.le_of_ble_eq_true rfl) ?_
    by_cases cz : z6.1 = 0 ∨ z6.1 = 1
    · rw [if_pos cz] at h
      exact k_zret (pc := 25) C E (bool01 cz) (some_1 h) (some_2 h) dX11_takesItem_25
    · rw [if_neg cz] at h
      exact no_some h
