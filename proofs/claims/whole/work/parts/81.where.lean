/-! WHERE ALL LIES behind both constructors -/
def rkO (p f : Nat) : Nat := if f < 2 then p + f else if f < 8 then p + 6 + f else p + f - 6
def ofs (g f : Nat) : Nat := match g with
  | 0 => rkO 1 f
  | 1 => rkO 15 f
  | 2 => rkO 30 f
  | 3 => rkO 44 f
  | 4 => if f = 0 then 0 else if f = 1 then 29 else if f = 2 then 58 else if f = 3 then 84 else 85
  | 5 => 59 + f
  | 6 => if f = 0 then 61 else if f = 1 then 62 else if f = 2 then 71 else 80
  | 7 => 81 + f
  | 8 => 62 + f
  | 9 => 71 + f
  | _ => 86 + f
def BB (sa sv : Nat → Nat) (dC : Nat → ClassId) (dI : Nat → Nat → Nat) (cA : Nat → ClassId) (H0 : Heap) : KB := (fun g f => if g = 11 then sa f else if g = 12 then sv f else H0.size + ofs g f, dC, dI, cA, H0)
def T0 : TT := (fun _ _ _ => 0, fun _ _ => 0, fun g k => if g = 4 ∧ k = 10 then 1 else if g = 10 ∧ k = 5 then 1 else 0, fun _ => (6, 3))
def moL (B : KB) (p : Nat) : List va_E := [.inr (11, [.ref (z0 B + (p + 1)), .ref (z0 B + (p + 2)), .ref (z0 B + (p + 3)), .ref (z0 B + (p + 4)), .long 0, .long 1, .int 0, .int 0, .int 0, .ref (z0 B + (p + 5)), .ref (z0 B + (p + 6)), .ref (z0 B + (p + 7)), .ref (z0 B + (p + 8)), .int 0, .int 0, .int 0, .int 0, .int 0, .ref (z0 B + (p + 9)), .ref (z0 B + (p + 10))]), .inl (B.2.2.2.1 0, 175, .inl (fun _ => 0)), .inl (B.2.2.2.1 0, 350, .inl (fun _ => 0)), .inl (B.2.2.2.1 2, 2, .inl (fun _ => 0)), .inl (B.2.2.2.1 0, 3, .inl (fun _ => 0)), .inl (B.2.2.2.1 0, 6, .inl (fun _ => 0)), .inl (B.2.2.2.1 0, 6, .inl (fun _ => 0)), .inl (B.2.2.2.1 0, 6, .inl (fun _ => 0)), .inl (B.2.2.2.1 0, 150, .inl (fun _ => 0)), .inl (B.2.2.2.1 0, 71, .inl (fun _ => 0)), .inl (B.2.2.2.1 0, 2, .inl (fun _ => 0))]
theorem moL_len (B : KB) (p : Nat) : (moL B p).length = 11 := rfl
theorem ix_is : IX = [(0, 0), (0, 1), (0, 2), (0, 3), (0, 4), (0, 5), (0, 6), (0, 7), (0, 8), (0, 9), (0, 10), (0, 11), (0, 12), (0, 13), (1, 0), (1, 1), (1, 2), (1, 3), (1, 4), (1, 5), (1, 6), (1, 7), (1, 8), (1, 9), (1, 10), (1, 11), (1, 12), (1, 13), (2, 0), (2, 1), (2, 2), (2, 3), (2, 4), (2, 5), (2, 6), (2, 7), (2, 8), (2, 9), (2, 10), (2, 11), (2, 12), (2, 13), (3, 0), (3, 1), (3, 2), (3, 3), (3, 4), (3, 5), (3, 6), (3, 7), (3, 8), (3, 9), (3, 10), (3, 11), (3, 12), (3, 13), (4, 0), (4, 1), (4, 2), (4, 3), (4, 4), (5, 0), (5, 1), (6, 0), (6, 1), (6, 2), (6, 3), (7, 0), (7, 1), (7, 2), (8, 1), (8, 2), (8, 3), (8, 4), (8, 5), (8, 6), (8, 7), (8, 8), (9, 1), (9, 2), (9, 3), (9, 4), (9, 5), (9, 6), (9, 7), (9, 8), (10, 0), (10, 1), (10, 2), (10, 3), (10, 4), (10, 5), (10, 6), (10, 7), (10, 8), (10, 9), (10, 10)] := by decide +kernel
theorem ofs_u : ∀ i, i < 97 → ∀ j, j < 97 → (IX[i]?).map (fun x => ofs x.1 x.2) = (IX[j]?).map (fun x => ofs x.1 x.2) → i = j := by decide +kernel
theorem arrV_fn {c : ClassId} {n : Nat} {f g : Nat → Value} (h : ∀ j, j < n → f j = g j) : arrV c n f = arrV c n g := by
  unfold arrV
  have e : (fun j : Fin n => f j.val) = fun j : Fin n => g j.val := funext fun j => h j.val j.isLt
  rw [e]
theorem at_q {D : va_G} {cl : List vw_C} {a n : Nat} {cA : ClassId} {f g : Nat → Option Nat} {H : Heap} (h : va_at D cl (a, .inl (cA, n, .inr (.inr (.inr (.inr f))))) H) (e : ∀ j, j < n → f j = g j) : va_at D cl (a, .inl (cA, n, .inr (.inr (.inr (.inr g))))) H := by
  have h : H[a]? = some (vp_cell cA (n, .inr (.inr (.inr (.inr f))))) := h
  show H[a]? = some (vp_cell cA (n, .inr (.inr (.inr (.inr g)))))
  rw [h, vp_cell_q, vp_cell_q, arrV_fn (fun j hj => congrArg va_rf (e j hj))]
section AT
variable {sa sv : Nat → Nat} {dC : Nat → ClassId} {dI : Nat → Nat → Nat} {cA : Nat → ClassId} {H0 H : Heap}
set_option maxHeartbeats 4000000 in
set_option maxRecDepth 100000 in
theorem at_0_0 (h : Hn (BB sa sv dC dI cA H0) (enL (BB sa sv dC dI cA H0) 0 ++ moL (BB sa sv dC dI cA H0) 86) H) : va_at (dC, dI) vwCl ((BB sa sv dC dI cA H0).1 0 0, wc (BB sa sv dC dI cA H0) T0 0 0) H := h.2.1 1 _ rfl
set_option maxHeartbeats 4000000 in
set_option maxRecDepth 100000 in
theorem at_0_1 (h : Hn (BB sa sv dC dI cA H0) (enL (BB sa sv dC dI cA H0) 0 ++ moL (BB sa sv dC dI cA H0) 86) H) : va_at (dC, dI) vwCl ((BB sa sv dC dI cA H0).1 0 1, wc (BB sa sv dC dI cA H0) T0 0 1) H := by
  refine at_q (h.2.1 2 _ rfl) (fun j hj => ?_)
  rcases (show j = 0 ∨ j = 1 ∨ j = 2 ∨ j = 3 ∨ j = 4 ∨ j = 5 by omega) with rfl | rfl | rfl | rfl | rfl | rfl <;> rfl
set_option maxHeartbeats 4000000 in
set_option maxRecDepth 100000 in
theorem at_0_2 (h : Hn (BB sa sv dC dI cA H0) (enL (BB sa sv dC dI cA H0) 0 ++ moL (BB sa sv dC dI cA H0) 86) H) : va_at (dC, dI) vwCl ((BB sa sv dC dI cA H0).1 0 2, wc (BB sa sv dC dI cA H0) T0 0 2) H := h.2.1 9 _ rfl
set_option maxHeartbeats 4000000 in
set_option maxRecDepth 100000 in
theorem at_0_3 (h : Hn (BB sa sv dC dI cA H0) (enL (BB sa sv dC dI cA H0) 0 ++ moL (BB sa sv dC dI cA H0) 86) H) : va_at (dC, dI) vwCl ((BB sa sv dC dI cA H0).1 0 3, wc (BB sa sv dC dI cA H0) T0 0 3) H := h.2.1 10 _ rfl
set_option maxHeartbeats 4000000 in
set_option maxRecDepth 100000 in
theorem at_0_4 (h : Hn (BB sa sv dC dI cA H0) (enL (BB sa sv dC dI cA H0) 0 ++ moL (BB sa sv dC dI cA H0) 86) H) : va_at (dC, dI) vwCl ((BB sa sv dC dI cA H0).1 0 4, wc (BB sa sv dC dI cA H0) T0 0 4) H := h.2.1 11 _ rfl
set_option maxHeartbeats 4000000 in
set_option maxRecDepth 100000 in
theorem at_0_5 (h : Hn (BB sa sv dC dI cA H0) (enL (BB sa sv dC dI cA H0) 0 ++ moL (BB sa sv dC dI cA H0) 86) H) : va_at (dC, dI) vwCl ((BB sa sv dC dI cA H0).1 0 5, wc (BB sa sv dC dI cA H0) T0 0 5) H := h.2.1 12 _ rfl
set_option maxHeartbeats 4000000 in
set_option maxRecDepth 100000 in
theorem at_0_6 (h : Hn (BB sa sv dC dI cA H0) (enL (BB sa sv dC dI cA H0) 0 ++ moL (BB sa sv dC dI cA H0) 86) H) : va_at (dC, dI) vwCl ((BB sa sv dC dI cA H0).1 0 6, wc (BB sa sv dC dI cA H0) T0 0 6) H := h.2.1 13 _ rfl
set_option maxHeartbeats 4000000 in
set_option maxRecDepth 100000 in
theorem at_0_7 (h : Hn (BB sa sv dC dI cA H0) (enL (BB sa sv dC dI cA H0) 0 ++ moL (BB sa sv dC dI cA H0) 86) H) : va_at (dC, dI) vwCl ((BB sa sv dC dI cA H0).1 0 7, wc (BB sa sv dC dI cA H0) T0 0 7) H := h.2.1 14 _ rfl
set_option maxHeartbeats 4000000 in
set_option maxRecDepth 100000 in
theorem at_0_8 (h : Hn (BB sa sv dC dI cA H0) (enL (BB sa sv dC dI cA H0) 0 ++ moL (BB sa sv dC dI cA H0) 86) H) : va_at (dC, dI) vwCl ((BB sa sv dC dI cA H0).1 0 8, wc (BB sa sv dC dI cA H0) T0 0 8) H := h.2.1 3 _ rfl
set_option maxHeartbeats 4000000 in
set_option maxRecDepth 100000 in
theorem at_0_9 (h : Hn (BB sa sv dC dI cA H0) (enL (BB sa sv dC dI cA H0) 0 ++ moL (BB sa sv dC dI cA H0) 86) H) : va_at (dC, dI) vwCl ((BB sa sv dC dI cA H0).1 0 9, wc (BB sa sv dC dI cA H0) T0 0 9) H := h.2.1 4 _ rfl
set_option maxHeartbeats 4000000 in
set_option maxRecDepth 100000 in
theorem at_0_10 (h : Hn (BB sa sv dC dI cA H0) (enL (BB sa sv dC dI cA H0) 0 ++ moL (BB sa sv dC dI cA H0) 86) H) : va_at (dC, dI) vwCl ((BB sa sv dC dI cA H0).1 0 10, wc (BB sa sv dC dI cA H0) T0 0 10) H := h.2.1 5 _ rfl
set_option maxHeartbeats 4000000 in
set_option maxRecDepth 100000 in
theorem at_0_11 (h : Hn (BB sa sv dC dI cA H0) (enL (BB sa sv dC dI cA H0) 0 ++ moL (BB sa sv dC dI cA H0) 86) H) : va_at (dC, dI) vwCl ((BB sa sv dC dI cA H0).1 0 11, wc (BB sa sv dC dI cA H0) T0 0 11) H := h.2.1 6 _ rfl
set_option maxHeartbeats 4000000 in
set_option maxRecDepth 100000 in
theorem at_0_12 (h : Hn (BB sa sv dC dI cA H0) (enL (BB sa sv dC dI cA H0) 0 ++ moL (BB sa sv dC dI cA H0) 86) H) : va_at (dC, dI) vwCl ((BB sa sv dC dI cA H0).1 0 12, wc (BB sa sv dC dI cA H0) T0 0 12) H := h.2.1 7 _ rfl
set_option maxHeartbeats 4000000 in
set_option maxRecDepth 100000 in
theorem at_0_13 (h : Hn (BB sa sv dC dI cA H0) (enL (BB sa sv dC dI cA H0) 0 ++ moL (BB sa sv dC dI cA H0) 86) H) : va_at (dC, dI) vwCl ((BB sa sv dC dI cA H0).1 0 13, wc (BB sa sv dC dI cA H0) T0 0 13) H := h.2.1 8 _ rfl
set_option maxHeartbeats 4000000 in
set_option maxRecDepth 100000 in
theorem at_1_0 (h : Hn (BB sa sv dC dI cA H0) (enL (BB sa sv dC dI cA H0) 0 ++ moL (BB sa sv dC dI cA H0) 86) H) : va_at (dC, dI) vwCl ((BB sa sv dC dI cA H0).1 1 0, wc (BB sa sv dC dI cA H0) T0 1 0) H := h.2.1 15 _ rfl
set_option maxHeartbeats 4000000 in
set_option maxRecDepth 100000 in
theorem at_1_1 (h : Hn (BB sa sv dC dI cA H0) (enL (BB sa sv dC dI cA H0) 0 ++ moL (BB sa sv dC dI cA H0) 86) H) : va_at (dC, dI) vwCl ((BB sa sv dC dI cA H0).1 1 1, wc (BB sa sv dC dI cA H0) T0 1 1) H := by
  refine at_q (h.2.1 16 _ rfl) (fun j hj => ?_)
  rcases (show j = 0 ∨ j = 1 ∨ j = 2 ∨ j = 3 ∨ j = 4 ∨ j = 5 by omega) with rfl | rfl | rfl | rfl | rfl | rfl <;> rfl
set_option maxHeartbeats 4000000 in
set_option maxRecDepth 100000 in
theorem at_1_2 (h : Hn (BB sa sv dC dI cA H0) (enL (BB sa sv dC dI cA H0) 0 ++ moL (BB sa sv dC dI cA H0) 86) H) : va_at (dC, dI) vwCl ((BB sa sv dC dI cA H0).1 1 2, wc (BB sa sv dC dI cA H0) T0 1 2) H := h.2.1 23 _ rfl
set_option maxHeartbeats 4000000 in
set_option maxRecDepth 100000 in
theorem at_1_3 (h : Hn (BB sa sv dC dI cA H0) (enL (BB sa sv dC dI cA H0) 0 ++ moL (BB sa sv dC dI cA H0) 86) H) : va_at (dC, dI) vwCl ((BB sa sv dC dI cA H0).1 1 3, wc (BB sa sv dC dI cA H0) T0 1 3) H := h.2.1 24 _ rfl
set_option maxHeartbeats 4000000 in
set_option maxRecDepth 100000 in
theorem at_1_4 (h : Hn (BB sa sv dC dI cA H0) (enL (BB sa sv dC dI cA H0) 0 ++ moL (BB sa sv dC dI cA H0) 86) H) : va_at (dC, dI) vwCl ((BB sa sv dC dI cA H0).1 1 4, wc (BB sa sv dC dI cA H0) T0 1 4) H := h.2.1 25 _ rfl
set_option maxHeartbeats 4000000 in
set_option maxRecDepth 100000 in
theorem at_1_5 (h : Hn (BB sa sv dC dI cA H0) (enL (BB sa sv dC dI cA H0) 0 ++ moL (BB sa sv dC dI cA H0) 86) H) : va_at (dC, dI) vwCl ((BB sa sv dC dI cA H0).1 1 5, wc (BB sa sv dC dI cA H0) T0 1 5) H := h.2.1 26 _ rfl
set_option maxHeartbeats 4000000 in
set_option maxRecDepth 100000 in
theorem at_1_6 (h : Hn (BB sa sv dC dI cA H0) (enL (BB sa sv dC dI cA H0) 0 ++ moL (BB sa sv dC dI cA H0) 86) H) : va_at (dC, dI) vwCl ((BB sa sv dC dI cA H0).1 1 6, wc (BB sa sv dC dI cA H0) T0 1 6) H := h.2.1 27 _ rfl
set_option maxHeartbeats 4000000 in
set_option maxRecDepth 100000 in
theorem at_1_7 (h : Hn (BB sa sv dC dI cA H0) (enL (BB sa sv dC dI cA H0) 0 ++ moL (BB sa sv dC dI cA H0) 86) H) : va_at (dC, dI) vwCl ((BB sa sv dC dI cA H0).1 1 7, wc (BB sa sv dC dI cA H0) T0 1 7) H := h.2.1 28 _ rfl
set_option maxHeartbeats 4000000 in
set_option maxRecDepth 100000 in
theorem at_1_8 (h : Hn (BB sa sv dC dI cA H0) (enL (BB sa sv dC dI cA H0) 0 ++ moL (BB sa sv dC dI cA H0) 86) H) : va_at (dC, dI) vwCl ((BB sa sv dC dI cA H0).1 1 8, wc (BB sa sv dC dI cA H0) T0 1 8) H := h.2.1 17 _ rfl
set_option maxHeartbeats 4000000 in
set_option maxRecDepth 100000 in
theorem at_1_9 (h : Hn (BB sa sv dC dI cA H0) (enL (BB sa sv dC dI cA H0) 0 ++ moL (BB sa sv dC dI cA H0) 86) H) : va_at (dC, dI) vwCl ((BB sa sv dC dI cA H0).1 1 9, wc (BB sa sv dC dI cA H0) T0 1 9) H := h.2.1 18 _ rfl
set_option maxHeartbeats 4000000 in
set_option maxRecDepth 100000 in
theorem at_1_10 (h : Hn (BB sa sv dC dI cA H0) (enL (BB sa sv dC dI cA H0) 0 ++ moL (BB sa sv dC dI cA H0) 86) H) : va_at (dC, dI) vwCl ((BB sa sv dC dI cA H0).1 1 10, wc (BB sa sv dC dI cA H0) T0 1 10) H := h.2.1 19 _ rfl
set_option maxHeartbeats 4000000 in
set_option maxRecDepth 100000 in
theorem at_1_11 (h : Hn (BB sa sv dC dI cA H0) (enL (BB sa sv dC dI cA H0) 0 ++ moL (BB sa sv dC dI cA H0) 86) H) : va_at (dC, dI) vwCl ((BB sa sv dC dI cA H0).1 1 11, wc (BB sa sv dC dI cA H0) T0 1 11) H := h.2.1 20 _ rfl
set_option maxHeartbeats 4000000 in
set_option maxRecDepth 100000 in
theorem at_1_12 (h : Hn (BB sa sv dC dI cA H0) (enL (BB sa sv dC dI cA H0) 0 ++ moL (BB sa sv dC dI cA H0) 86) H) : va_at (dC, dI) vwCl ((BB sa sv dC dI cA H0).1 1 12, wc (BB sa sv dC dI cA H0) T0 1 12) H := h.2.1 21 _ rfl
set_option maxHeartbeats 4000000 in
set_option maxRecDepth 100000 in
theorem at_1_13 (h : Hn (BB sa sv dC dI cA H0) (enL (BB sa sv dC dI cA H0) 0 ++ moL (BB sa sv dC dI cA H0) 86) H) : va_at (dC, dI) vwCl ((BB sa sv dC dI cA H0).1 1 13, wc (BB sa sv dC dI cA H0) T0 1 13) H := h.2.1 22 _ rfl
set_option maxHeartbeats 4000000 in
set_option maxRecDepth 100000 in
theorem at_2_0 (h : Hn (BB sa sv dC dI cA H0) (enL (BB sa sv dC dI cA H0) 0 ++ moL (BB sa sv dC dI cA H0) 86) H) : va_at (dC, dI) vwCl ((BB sa sv dC dI cA H0).1 2 0, wc (BB sa sv dC dI cA H0) T0 2 0) H := h.2.1 30 _ rfl
set_option maxHeartbeats 4000000 in
set_option maxRecDepth 100000 in
theorem at_2_1 (h : Hn (BB sa sv dC dI cA H0) (enL (BB sa sv dC dI cA H0) 0 ++ moL (BB sa sv dC dI cA H0) 86) H) : va_at (dC, dI) vwCl ((BB sa sv dC dI cA H0).1 2 1, wc (BB sa sv dC dI cA H0) T0 2 1) H := by
  refine at_q (h.2.1 31 _ rfl) (fun j hj => ?_)
  rcases (show j = 0 ∨ j = 1 ∨ j = 2 ∨ j = 3 ∨ j = 4 ∨ j = 5 by omega) with rfl | rfl | rfl | rfl | rfl | rfl <;> rfl
set_option maxHeartbeats 4000000 in
set_option maxRecDepth 100000 in
theorem at_2_2 (h : Hn (BB sa sv dC dI cA H0) (enL (BB sa sv dC dI cA H0) 0 ++ moL (BB sa sv dC dI cA H0) 86) H) : va_at (dC, dI) vwCl ((BB sa sv dC dI cA H0).1 2 2, wc (BB sa sv dC dI cA H0) T0 2 2) H := h.2.1 38 _ rfl
set_option maxHeartbeats 4000000 in
set_option maxRecDepth 100000 in
theorem at_2_3 (h : Hn (BB sa sv dC dI cA H0) (enL (BB sa sv dC dI cA H0) 0 ++ moL (BB sa sv dC dI cA H0) 86) H) : va_at (dC, dI) vwCl ((BB sa sv dC dI cA H0).1 2 3, wc (BB sa sv dC dI cA H0) T0 2 3) H := h.2.1 39 _ rfl
set_option maxHeartbeats 4000000 in
set_option maxRecDepth 100000 in
theorem at_2_4 (h : Hn (BB sa sv dC dI cA H0) (enL (BB sa sv dC dI cA H0) 0 ++ moL (BB sa sv dC dI cA H0) 86) H) : va_at (dC, dI) vwCl ((BB sa sv dC dI cA H0).1 2 4, wc (BB sa sv dC dI cA H0) T0 2 4) H := h.2.1 40 _ rfl
set_option maxHeartbeats 4000000 in
set_option maxRecDepth 100000 in
theorem at_2_5 (h : Hn (BB sa sv dC dI cA H0) (enL (BB sa sv dC dI cA H0) 0 ++ moL (BB sa sv dC dI cA H0) 86) H) : va_at (dC, dI) vwCl ((BB sa sv dC dI cA H0).1 2 5, wc (BB sa sv dC dI cA H0) T0 2 5) H := h.2.1 41 _ rfl
set_option maxHeartbeats 4000000 in
set_option maxRecDepth 100000 in
theorem at_2_6 (h : Hn (BB sa sv dC dI cA H0) (enL (BB sa sv dC dI cA H0) 0 ++ moL (BB sa sv dC dI cA H0) 86) H) : va_at (dC, dI) vwCl ((BB sa sv dC dI cA H0).1 2 6, wc (BB sa sv dC dI cA H0) T0 2 6) H := h.2.1 42 _ rfl
set_option maxHeartbeats 4000000 in
set_option maxRecDepth 100000 in
theorem at_2_7 (h : Hn (BB sa sv dC dI cA H0) (enL (BB sa sv dC dI cA H0) 0 ++ moL (BB sa sv dC dI cA H0) 86) H) : va_at (dC, dI) vwCl ((BB sa sv dC dI cA H0).1 2 7, wc (BB sa sv dC dI cA H0) T0 2 7) H := h.2.1 43 _ rfl
set_option maxHeartbeats 4000000 in
set_option maxRecDepth 100000 in
theorem at_2_8 (h : Hn (BB sa sv dC dI cA H0) (enL (BB sa sv dC dI cA H0) 0 ++ moL (BB sa sv dC dI cA H0) 86) H) : va_at (dC, dI) vwCl ((BB sa sv dC dI cA H0).1 2 8, wc (BB sa sv dC dI cA H0) T0 2 8) H := h.2.1 32 _ rfl
set_option maxHeartbeats 4000000 in
set_option maxRecDepth 100000 in
theorem at_2_9 (h : Hn (BB sa sv dC dI cA H0) (enL (BB sa sv dC dI cA H0) 0 ++ moL (BB sa sv dC dI cA H0) 86) H) : va_at (dC, dI) vwCl ((BB sa sv dC dI cA H0).1 2 9, wc (BB sa sv dC dI cA H0) T0 2 9) H := h.2.1 33 _ rfl
set_option maxHeartbeats 4000000 in
set_option maxRecDepth 100000 in
theorem at_2_10 (h : Hn (BB sa sv dC dI cA H0) (enL (BB sa sv dC dI cA H0) 0 ++ moL (BB sa sv dC dI cA H0) 86) H) : va_at (dC, dI) vwCl ((BB sa sv dC dI cA H0).1 2 10, wc (BB sa sv dC dI cA H0) T0 2 10) H := h.2.1 34 _ rfl
set_option maxHeartbeats 4000000 in
set_option maxRecDepth 100000 in
theorem at_2_11 (h : Hn (BB sa sv dC dI cA H0) (enL (BB sa sv dC dI cA H0) 0 ++ moL (BB sa sv dC dI cA H0) 86) H) : va_at (dC, dI) vwCl ((BB sa sv dC dI cA H0).1 2 11, wc (BB sa sv dC dI cA H0) T0 2 11) H := h.2.1 35 _ rfl
set_option maxHeartbeats 4000000 in
set_option maxRecDepth 100000 in
theorem at_2_12 (h : Hn (BB sa sv dC dI cA H0) (enL (BB sa sv dC dI cA H0) 0 ++ moL (BB sa sv dC dI cA H0) 86) H) : va_at (dC, dI) vwCl ((BB sa sv dC dI cA H0).1 2 12, wc (BB sa sv dC dI cA H0) T0 2 12) H := h.2.1 36 _ rfl
set_option maxHeartbeats 4000000 in
set_option maxRecDepth 100000 in
theorem at_2_13 (h : Hn (BB sa sv dC dI cA H0) (enL (BB sa sv dC dI cA H0) 0 ++ moL (BB sa sv dC dI cA H0) 86) H) : va_at (dC, dI) vwCl ((BB sa sv dC dI cA H0).1 2 13, wc (BB sa sv dC dI cA H0) T0 2 13) H := h.2.1 37 _ rfl
set_option maxHeartbeats 4000000 in
set_option maxRecDepth 100000 in
theorem at_3_0 (h : Hn (BB sa sv dC dI cA H0) (enL (BB sa sv dC dI cA H0) 0 ++ moL (BB sa sv dC dI cA H0) 86) H) : va_at (dC, dI) vwCl ((BB sa sv dC dI cA H0).1 3 0, wc (BB sa sv dC dI cA H0) T0 3 0) H := h.2.1 44 _ rfl
set_option maxHeartbeats 4000000 in
set_option maxRecDepth 100000 in
theorem at_3_1 (h : Hn (BB sa sv dC dI cA H0) (enL (BB sa sv dC dI cA H0) 0 ++ moL (BB sa sv dC dI cA H0) 86) H) : va_at (dC, dI) vwCl ((BB sa sv dC dI cA H0).1 3 1, wc (BB sa sv dC dI cA H0) T0 3 1) H := by
  refine at_q (h.2.1 45 _ rfl) (fun j hj => ?_)
  rcases (show j = 0 ∨ j = 1 ∨ j = 2 ∨ j = 3 ∨ j = 4 ∨ j = 5 by omega) with rfl | rfl | rfl | rfl | rfl | rfl <;> rfl
set_option maxHeartbeats 4000000 in
set_option maxRecDepth 100000 in
theorem at_3_2 (h : Hn (BB sa sv dC dI cA H0) (enL (BB sa sv dC dI cA H0) 0 ++ moL (BB sa sv dC dI cA H0) 86) H) : va_at (dC, dI) vwCl ((BB sa sv dC dI cA H0).1 3 2, wc (BB sa sv dC dI cA H0) T0 3 2) H := h.2.1 52 _ rfl
set_option maxHeartbeats 4000000 in
set_option maxRecDepth 100000 in
theorem at_3_3 (h : Hn (BB sa sv dC dI cA H0) (enL (BB sa sv dC dI cA H0) 0 ++ moL (BB sa sv dC dI cA H0) 86) H) : va_at (dC, dI) vwCl ((BB sa sv dC dI cA H0).1 3 3, wc (BB sa sv dC dI cA H0) T0 3 3) H := h.2.1 53 _ rfl
set_option maxHeartbeats 4000000 in
set_option maxRecDepth 100000 in
theorem at_3_4 (h : Hn (BB sa sv dC dI cA H0) (enL (BB sa sv dC dI cA H0) 0 ++ moL (BB sa sv dC dI cA H0) 86) H) : va_at (dC, dI) vwCl ((BB sa sv dC dI cA H0).1 3 4, wc (BB sa sv dC dI cA H0) T0 3 4) H := h.2.1 54 _ rfl
set_option maxHeartbeats 4000000 in
set_option maxRecDepth 100000 in
theorem at_3_5 (h : Hn (BB sa sv dC dI cA H0) (enL (BB sa sv dC dI cA H0) 0 ++ moL (BB sa sv dC dI cA H0) 86) H) : va_at (dC, dI) vwCl ((BB sa sv dC dI cA H0).1 3 5, wc (BB sa sv dC dI cA H0) T0 3 5) H := h.2.1 55 _ rfl
set_option maxHeartbeats 4000000 in
set_option maxRecDepth 100000 in
theorem at_3_6 (h : Hn (BB sa sv dC dI cA H0) (enL (BB sa sv dC dI cA H0) 0 ++ moL (BB sa sv dC dI cA H0) 86) H) : va_at (dC, dI) vwCl ((BB sa sv dC dI cA H0).1 3 6, wc (BB sa sv dC dI cA H0) T0 3 6) H := h.2.1 56 _ rfl
set_option maxHeartbeats 4000000 in
set_option maxRecDepth 100000 in
theorem at_3_7 (h : Hn (BB sa sv dC dI cA H0) (enL (BB sa sv dC dI cA H0) 0 ++ moL (BB sa sv dC dI cA H0) 86) H) : va_at (dC, dI) vwCl ((BB sa sv dC dI cA H0).1 3 7, wc (BB sa sv dC dI cA H0) T0 3 7) H := h.2.1 57 _ rfl
set_option maxHeartbeats 4000000 in
set_option maxRecDepth 100000 in
theorem at_3_8 (h : Hn (BB sa sv dC dI cA H0) (enL (BB sa sv dC dI cA H0) 0 ++ moL (BB sa sv dC dI cA H0) 86) H) : va_at (dC, dI) vwCl ((BB sa sv dC dI cA H0).1 3 8, wc (BB sa sv dC dI cA H0) T0 3 8) H := h.2.1 46 _ rfl
set_option maxHeartbeats 4000000 in
set_option maxRecDepth 100000 in
theorem at_3_9 (h : Hn (BB sa sv dC dI cA H0) (enL (BB sa sv dC dI cA H0) 0 ++ moL (BB sa sv dC dI cA H0) 86) H) : va_at (dC, dI) vwCl ((BB sa sv dC dI cA H0).1 3 9, wc (BB sa sv dC dI cA H0) T0 3 9) H := h.2.1 47 _ rfl
set_option maxHeartbeats 4000000 in
set_option maxRecDepth 100000 in
theorem at_3_10 (h : Hn (BB sa sv dC dI cA H0) (enL (BB sa sv dC dI cA H0) 0 ++ moL (BB sa sv dC dI cA H0) 86) H) : va_at (dC, dI) vwCl ((BB sa sv dC dI cA H0).1 3 10, wc (BB sa sv dC dI cA H0) T0 3 10) H := h.2.1 48 _ rfl
set_option maxHeartbeats 4000000 in
set_option maxRecDepth 100000 in
theorem at_3_11 (h : Hn (BB sa sv dC dI cA H0) (enL (BB sa sv dC dI cA H0) 0 ++ moL (BB sa sv dC dI cA H0) 86) H) : va_at (dC, dI) vwCl ((BB sa sv dC dI cA H0).1 3 11, wc (BB sa sv dC dI cA H0) T0 3 11) H := h.2.1 49 _ rfl
set_option maxHeartbeats 4000000 in
set_option maxRecDepth 100000 in
theorem at_3_12 (h : Hn (BB sa sv dC dI cA H0) (enL (BB sa sv dC dI cA H0) 0 ++ moL (BB sa sv dC dI cA H0) 86) H) : va_at (dC, dI) vwCl ((BB sa sv dC dI cA H0).1 3 12, wc (BB sa sv dC dI cA H0) T0 3 12) H := h.2.1 50 _ rfl
set_option maxHeartbeats 4000000 in
set_option maxRecDepth 100000 in
theorem at_3_13 (h : Hn (BB sa sv dC dI cA H0) (enL (BB sa sv dC dI cA H0) 0 ++ moL (BB sa sv dC dI cA H0) 86) H) : va_at (dC, dI) vwCl ((BB sa sv dC dI cA H0).1 3 13, wc (BB sa sv dC dI cA H0) T0 3 13) H := h.2.1 51 _ rfl
set_option maxHeartbeats 4000000 in
set_option maxRecDepth 100000 in
theorem at_4_0 (h : Hn (BB sa sv dC dI cA H0) (enL (BB sa sv dC dI cA H0) 0 ++ moL (BB sa sv dC dI cA H0) 86) H) : va_at (dC, dI) vwCl ((BB sa sv dC dI cA H0).1 4 0, wc (BB sa sv dC dI cA H0) T0 4 0) H := h.2.1 0 _ rfl
set_option maxHeartbeats 4000000 in
set_option maxRecDepth 100000 in
theorem at_4_1 (h : Hn (BB sa sv dC dI cA H0) (enL (BB sa sv dC dI cA H0) 0 ++ moL (BB sa sv dC dI cA H0) 86) H) : va_at (dC, dI) vwCl ((BB sa sv dC dI cA H0).1 4 1, wc (BB sa sv dC dI cA H0) T0 4 1) H := by
  refine at_q (h.2.1 29 _ rfl) (fun j hj => ?_)
  rcases (show j = 0 ∨ j = 1 by omega) with rfl | rfl <;> rfl
set_option maxHeartbeats 4000000 in
set_option maxRecDepth 100000 in
theorem at_4_2 (h : Hn (BB sa sv dC dI cA H0) (enL (BB sa sv dC dI cA H0) 0 ++ moL (BB sa sv dC dI cA H0) 86) H) : va_at (dC, dI) vwCl ((BB sa sv dC dI cA H0).1 4 2, wc (BB sa sv dC dI cA H0) T0 4 2) H := h.2.1 58 _ rfl
set_option maxHeartbeats 4000000 in
set_option maxRecDepth 100000 in
theorem at_4_3 (h : Hn (BB sa sv dC dI cA H0) (enL (BB sa sv dC dI cA H0) 0 ++ moL (BB sa sv dC dI cA H0) 86) H) : va_at (dC, dI) vwCl ((BB sa sv dC dI cA H0).1 4 3, wc (BB sa sv dC dI cA H0) T0 4 3) H := h.2.1 84 _ rfl
set_option maxHeartbeats 4000000 in
set_option maxRecDepth 100000 in
theorem at_4_4 (h : Hn (BB sa sv dC dI cA H0) (enL (BB sa sv dC dI cA H0) 0 ++ moL (BB sa sv dC dI cA H0) 86) H) : va_at (dC, dI) vwCl ((BB sa sv dC dI cA H0).1 4 4, wc (BB sa sv dC dI cA H0) T0 4 4) H := h.2.1 85 _ rfl
set_option maxHeartbeats 4000000 in
set_option maxRecDepth 100000 in
theorem at_5_0 (h : Hn (BB sa sv dC dI cA H0) (enL (BB sa sv dC dI cA H0) 0 ++ moL (BB sa sv dC dI cA H0) 86) H) : va_at (dC, dI) vwCl ((BB sa sv dC dI cA H0).1 5 0, wc (BB sa sv dC dI cA H0) T0 5 0) H := h.2.1 59 _ rfl
set_option maxHeartbeats 4000000 in
set_option maxRecDepth 100000 in
theorem at_5_1 (h : Hn (BB sa sv dC dI cA H0) (enL (BB sa sv dC dI cA H0) 0 ++ moL (BB sa sv dC dI cA H0) 86) H) : va_at (dC, dI) vwCl ((BB sa sv dC dI cA H0).1 5 1, wc (BB sa sv dC dI cA H0) T0 5 1) H := h.2.1 60 _ rfl
set_option maxHeartbeats 4000000 in
set_option maxRecDepth 100000 in
theorem at_6_0 (h : Hn (BB sa sv dC dI cA H0) (enL (BB sa sv dC dI cA H0) 0 ++ moL (BB sa sv dC dI cA H0) 86) H) : va_at (dC, dI) vwCl ((BB sa sv dC dI cA H0).1 6 0, wc (BB sa sv dC dI cA H0) T0 6 0) H := h.2.1 61 _ rfl
set_option maxHeartbeats 4000000 in
set_option maxRecDepth 100000 in
theorem at_6_1 (h : Hn (BB sa sv dC dI cA H0) (enL (BB sa sv dC dI cA H0) 0 ++ moL (BB sa sv dC dI cA H0) 86) H) : va_at (dC, dI) vwCl ((BB sa sv dC dI cA H0).1 6 1, wc (BB sa sv dC dI cA H0) T0 6 1) H := by
  refine at_q (h.2.1 62 _ rfl) (fun j hj => ?_)
  rcases (show j = 0 ∨ j = 1 ∨ j = 2 ∨ j = 3 ∨ j = 4 ∨ j = 5 ∨ j = 6 ∨ j = 7 by omega) with rfl | rfl | rfl | rfl | rfl | rfl | rfl | rfl <;> rfl
set_option maxHeartbeats 4000000 in
set_option maxRecDepth 100000 in
theorem at_6_2 (h : Hn (BB sa sv dC dI cA H0) (enL (BB sa sv dC dI cA H0) 0 ++ moL (BB sa sv dC dI cA H0) 86) H) : va_at (dC, dI) vwCl ((BB sa sv dC dI cA H0).1 6 2, wc (BB sa sv dC dI cA H0) T0 6 2) H := by
  refine at_q (h.2.1 71 _ rfl) (fun j hj => ?_)
  rcases (show j = 0 ∨ j = 1 ∨ j = 2 ∨ j = 3 ∨ j = 4 ∨ j = 5 ∨ j = 6 ∨ j = 7 by omega) with rfl | rfl | rfl | rfl | rfl | rfl | rfl | rfl <;> rfl
set_option maxHeartbeats 4000000 in
set_option maxRecDepth 100000 in
theorem at_6_3 (h : Hn (BB sa sv dC dI cA H0) (enL (BB sa sv dC dI cA H0) 0 ++ moL (BB sa sv dC dI cA H0) 86) H) : va_at (dC, dI) vwCl ((BB sa sv dC dI cA H0).1 6 3, wc (BB sa sv dC dI cA H0) T0 6 3) H := h.2.1 80 _ rfl
set_option maxHeartbeats 4000000 in
set_option maxRecDepth 100000 in
theorem at_7_0 (h : Hn (BB sa sv dC dI cA H0) (enL (BB sa sv dC dI cA H0) 0 ++ moL (BB sa sv dC dI cA H0) 86) H) : va_at (dC, dI) vwCl ((BB sa sv dC dI cA H0).1 7 0, wc (BB sa sv dC dI cA H0) T0 7 0) H := h.2.1 81 _ rfl
set_option maxHeartbeats 4000000 in
set_option maxRecDepth 100000 in
theorem at_7_1 (h : Hn (BB sa sv dC dI cA H0) (enL (BB sa sv dC dI cA H0) 0 ++ moL (BB sa sv dC dI cA H0) 86) H) : va_at (dC, dI) vwCl ((BB sa sv dC dI cA H0).1 7 1, wc (BB sa sv dC dI cA H0) T0 7 1) H := h.2.1 82 _ rfl
set_option maxHeartbeats 4000000 in
set_option maxRecDepth 100000 in
theorem at_7_2 (h : Hn (BB sa sv dC dI cA H0) (enL (BB sa sv dC dI cA H0) 0 ++ moL (BB sa sv dC dI cA H0) 86) H) : va_at (dC, dI) vwCl ((BB sa sv dC dI cA H0).1 7 2, wc (BB sa sv dC dI cA H0) T0 7 2) H := h.2.1 83 _ rfl
set_option maxHeartbeats 4000000 in
set_option maxRecDepth 100000 in
theorem at_8_1 (h : Hn (BB sa sv dC dI cA H0) (enL (BB sa sv dC dI cA H0) 0 ++ moL (BB sa sv dC dI cA H0) 86) H) : va_at (dC, dI) vwCl ((BB sa sv dC dI cA H0).1 8 1, wc (BB sa sv dC dI cA H0) T0 8 1) H := h.2.1 63 _ rfl
set_option maxHeartbeats 4000000 in
set_option maxRecDepth 100000 in
theorem at_8_2 (h : Hn (BB sa sv dC dI cA H0) (enL (BB sa sv dC dI cA H0) 0 ++ moL (BB sa sv dC dI cA H0) 86) H) : va_at (dC, dI) vwCl ((BB sa sv dC dI cA H0).1 8 2, wc (BB sa sv dC dI cA H0) T0 8 2) H := h.2.1 64 _ rfl
set_option maxHeartbeats 4000000 in
set_option maxRecDepth 100000 in
theorem at_8_3 (h : Hn (BB sa sv dC dI cA H0) (enL (BB sa sv dC dI cA H0) 0 ++ moL (BB sa sv dC dI cA H0) 86) H) : va_at (dC, dI) vwCl ((BB sa sv dC dI cA H0).1 8 3, wc (BB sa sv dC dI cA H0) T0 8 3) H := h.2.1 65 _ rfl
set_option maxHeartbeats 4000000 in
set_option maxRecDepth 100000 in
theorem at_8_4 (h : Hn (BB sa sv dC dI cA H0) (enL (BB sa sv dC dI cA H0) 0 ++ moL (BB sa sv dC dI cA H0) 86) H) : va_at (dC, dI) vwCl ((BB sa sv dC dI cA H0).1 8 4, wc (BB sa sv dC dI cA H0) T0 8 4) H := h.2.1 66 _ rfl
set_option maxHeartbeats 4000000 in
set_option maxRecDepth 100000 in
theorem at_8_5 (h : Hn (BB sa sv dC dI cA H0) (enL (BB sa sv dC dI cA H0) 0 ++ moL (BB sa sv dC dI cA H0) 86) H) : va_at (dC, dI) vwCl ((BB sa sv dC dI cA H0).1 8 5, wc (BB sa sv dC dI cA H0) T0 8 5) H := h.2.1 67 _ rfl
set_option maxHeartbeats 4000000 in
set_option maxRecDepth 100000 in
theorem at_8_6 (h : Hn (BB sa sv dC dI cA H0) (enL (BB sa sv dC dI cA H0) 0 ++ moL (BB sa sv dC dI cA H0) 86) H) : va_at (dC, dI) vwCl ((BB sa sv dC dI cA H0).1 8 6, wc (BB sa sv dC dI cA H0) T0 8 6) H := h.2.1 68 _ rfl
set_option maxHeartbeats 4000000 in
set_option maxRecDepth 100000 in
theorem at_8_7 (h : Hn (BB sa sv dC dI cA H0) (enL (BB sa sv dC dI cA H0) 0 ++ moL (BB sa sv dC dI cA H0) 86) H) : va_at (dC, dI) vwCl ((BB sa sv dC dI cA H0).1 8 7, wc (BB sa sv dC dI cA H0) T0 8 7) H := h.2.1 69 _ rfl
set_option maxHeartbeats 4000000 in
set_option maxRecDepth 100000 in
theorem at_8_8 (h : Hn (BB sa sv dC dI cA H0) (enL (BB sa sv dC dI cA H0) 0 ++ moL (BB sa sv dC dI cA H0) 86) H) : va_at (dC, dI) vwCl ((BB sa sv dC dI cA H0).1 8 8, wc (BB sa sv dC dI cA H0) T0 8 8) H := h.2.1 70 _ rfl
set_option maxHeartbeats 4000000 in
set_option maxRecDepth 100000 in
theorem at_9_1 (h : Hn (BB sa sv dC dI cA H0) (enL (BB sa sv dC dI cA H0) 0 ++ moL (BB sa sv dC dI cA H0) 86) H) : va_at (dC, dI) vwCl ((BB sa sv dC dI cA H0).1 9 1, wc (BB sa sv dC dI cA H0) T0 9 1) H := h.2.1 72 _ rfl
set_option maxHeartbeats 4000000 in
set_option maxRecDepth 100000 in
theorem at_9_2 (h : Hn (BB sa sv dC dI cA H0) (enL (BB sa sv dC dI cA H0) 0 ++ moL (BB sa sv dC dI cA H0) 86) H) : va_at (dC, dI) vwCl ((BB sa sv dC dI cA H0).1 9 2, wc (BB sa sv dC dI cA H0) T0 9 2) H := h.2.1 73 _ rfl
set_option maxHeartbeats 4000000 in
set_option maxRecDepth 100000 in
theorem at_9_3 (h : Hn (BB sa sv dC dI cA H0) (enL (BB sa sv dC dI cA H0) 0 ++ moL (BB sa sv dC dI cA H0) 86) H) : va_at (dC, dI) vwCl ((BB sa sv dC dI cA H0).1 9 3, wc (BB sa sv dC dI cA H0) T0 9 3) H := h.2.1 74 _ rfl
set_option maxHeartbeats 4000000 in
set_option maxRecDepth 100000 in
theorem at_9_4 (h : Hn (BB sa sv dC dI cA H0) (enL (BB sa sv dC dI cA H0) 0 ++ moL (BB sa sv dC dI cA H0) 86) H) : va_at (dC, dI) vwCl ((BB sa sv dC dI cA H0).1 9 4, wc (BB sa sv dC dI cA H0) T0 9 4) H := h.2.1 75 _ rfl
set_option maxHeartbeats 4000000 in
set_option maxRecDepth 100000 in
theorem at_9_5 (h : Hn (BB sa sv dC dI cA H0) (enL (BB sa sv dC dI cA H0) 0 ++ moL (BB sa sv dC dI cA H0) 86) H) : va_at (dC, dI) vwCl ((BB sa sv dC dI cA H0).1 9 5, wc (BB sa sv dC dI cA H0) T0 9 5) H := h.2.1 76 _ rfl
set_option maxHeartbeats 4000000 in
set_option maxRecDepth 100000 in
theorem at_9_6 (h : Hn (BB sa sv dC dI cA H0) (enL (BB sa sv dC dI cA H0) 0 ++ moL (BB sa sv dC dI cA H0) 86) H) : va_at (dC, dI) vwCl ((BB sa sv dC dI cA H0).1 9 6, wc (BB sa sv dC dI cA H0) T0 9 6) H := h.2.1 77 _ rfl
set_option maxHeartbeats 4000000 in
set_option maxRecDepth 100000 in
theorem at_9_7 (h : Hn (BB sa sv dC dI cA H0) (enL (BB sa sv dC dI cA H0) 0 ++ moL (BB sa sv dC dI cA H0) 86) H) : va_at (dC, dI) vwCl ((BB sa sv dC dI cA H0).1 9 7, wc (BB sa sv dC dI cA H0) T0 9 7) H := h.2.1 78 _ rfl
set_option maxHeartbeats 4000000 in
set_option maxRecDepth 100000 in
theorem at_9_8 (h : Hn (BB sa sv dC dI cA H0) (enL (BB sa sv dC dI cA H0) 0 ++ moL (BB sa sv dC dI cA H0) 86) H) : va_at (dC, dI) vwCl ((BB sa sv dC dI cA H0).1 9 8, wc (BB sa sv dC dI cA H0) T0 9 8) H := h.2.1 79 _ rfl
set_option maxHeartbeats 4000000 in
set_option maxRecDepth 100000 in
theorem at_10_0 (h : Hn (BB sa sv dC dI cA H0) (enL (BB sa sv dC dI cA H0) 0 ++ moL (BB sa sv dC dI cA H0) 86) H) : va_at (dC, dI) vwCl ((BB sa sv dC dI cA H0).1 10 0, wc (BB sa sv dC dI cA H0) T0 10 0) H := h.2.1 86 _ rfl
set_option maxHeartbeats 4000000 in
set_option maxRecDepth 100000 in
theorem at_10_1 (h : Hn (BB sa sv dC dI cA H0) (enL (BB sa sv dC dI cA H0) 0 ++ moL (BB sa sv dC dI cA H0) 86) H) : va_at (dC, dI) vwCl ((BB sa sv dC dI cA H0).1 10 1, wc (BB sa sv dC dI cA H0) T0 10 1) H := h.2.1 87 _ rfl
set_option maxHeartbeats 4000000 in
set_option maxRecDepth 100000 in
theorem at_10_2 (h : Hn (BB sa sv dC dI cA H0) (enL (BB sa sv dC dI cA H0) 0 ++ moL (BB sa sv dC dI cA H0) 86) H) : va_at (dC, dI) vwCl ((BB sa sv dC dI cA H0).1 10 2, wc (BB sa sv dC dI cA H0) T0 10 2) H := h.2.1 88 _ rfl
set_option maxHeartbeats 4000000 in
set_option maxRecDepth 100000 in
theorem at_10_3 (h : Hn (BB sa sv dC dI cA H0) (enL (BB sa sv dC dI cA H0) 0 ++ moL (BB sa sv dC dI cA H0) 86) H) : va_at (dC, dI) vwCl ((BB sa sv dC dI cA H0).1 10 3, wc (BB sa sv dC dI cA H0) T0 10 3) H := h.2.1 89 _ rfl
set_option maxHeartbeats 4000000 in
set_option maxRecDepth 100000 in
theorem at_10_4 (h : Hn (BB sa sv dC dI cA H0) (enL (BB sa sv dC dI cA H0) 0 ++ moL (BB sa sv dC dI cA H0) 86) H) : va_at (dC, dI) vwCl ((BB sa sv dC dI cA H0).1 10 4, wc (BB sa sv dC dI cA H0) T0 10 4) H := h.2.1 90 _ rfl
set_option maxHeartbeats 4000000 in
set_option maxRecDepth 100000 in
theorem at_10_5 (h : Hn (BB sa sv dC dI cA H0) (enL (BB sa sv dC dI cA H0) 0 ++ moL (BB sa sv dC dI cA H0) 86) H) : va_at (dC, dI) vwCl ((BB sa sv dC dI cA H0).1 10 5, wc (BB sa sv dC dI cA H0) T0 10 5) H := h.2.1 91 _ rfl
set_option maxHeartbeats 4000000 in
set_option maxRecDepth 100000 in
theorem at_10_6 (h : Hn (BB sa sv dC dI cA H0) (enL (BB sa sv dC dI cA H0) 0 ++ moL (BB sa sv dC dI cA H0) 86) H) : va_at (dC, dI) vwCl ((BB sa sv dC dI cA H0).1 10 6, wc (BB sa sv dC dI cA H0) T0 10 6) H := h.2.1 92 _ rfl
set_option maxHeartbeats 4000000 in
set_option maxRecDepth 100000 in
theorem at_10_7 (h : Hn (BB sa sv dC dI cA H0) (enL (BB sa sv dC dI cA H0) 0 ++ moL (BB sa sv dC dI cA H0) 86) H) : va_at (dC, dI) vwCl ((BB sa sv dC dI cA H0).1 10 7, wc (BB sa sv dC dI cA H0) T0 10 7) H := h.2.1 93 _ rfl
set_option maxHeartbeats 4000000 in
set_option maxRecDepth 100000 in
theorem at_10_8 (h : Hn (BB sa sv dC dI cA H0) (enL (BB sa sv dC dI cA H0) 0 ++ moL (BB sa sv dC dI cA H0) 86) H) : va_at (dC, dI) vwCl ((BB sa sv dC dI cA H0).1 10 8, wc (BB sa sv dC dI cA H0) T0 10 8) H := h.2.1 94 _ rfl
set_option maxHeartbeats 4000000 in
set_option maxRecDepth 100000 in
theorem at_10_9 (h : Hn (BB sa sv dC dI cA H0) (enL (BB sa sv dC dI cA H0) 0 ++ moL (BB sa sv dC dI cA H0) 86) H) : va_at (dC, dI) vwCl ((BB sa sv dC dI cA H0).1 10 9, wc (BB sa sv dC dI cA H0) T0 10 9) H := h.2.1 95 _ rfl
set_option maxHeartbeats 4000000 in
set_option maxRecDepth 100000 in
theorem at_10_10 (h : Hn (BB sa sv dC dI cA H0) (enL (BB sa sv dC dI cA H0) 0 ++ moL (BB sa sv dC dI cA H0) 86) H) : va_at (dC, dI) vwCl ((BB sa sv dC dI cA H0).1 10 10, wc (BB sa sv dC dI cA H0) T0 10 10) H := h.2.1 96 _ rfl
theorem at_all (h : Hn (BB sa sv dC dI cA H0) (enL (BB sa sv dC dI cA H0) 0 ++ moL (BB sa sv dC dI cA H0) 86) H) : ∀ x ∈ IX, va_at (dC, dI) vwCl ((BB sa sv dC dI cA H0).1 x.1 x.2, wc (BB sa sv dC dI cA H0) T0 x.1 x.2) H := by
  rw [ix_is]
  exact List.forall_mem_cons.mpr ⟨at_0_0 h, List.forall_mem_cons.mpr ⟨at_0_1 h, List.forall_mem_cons.mpr ⟨at_0_2 h, List.forall_mem_cons.mpr ⟨at_0_3 h, List.forall_mem_cons.mpr ⟨at_0_4 h, List.forall_mem_cons.mpr ⟨at_0_5 h, List.forall_mem_cons.mpr ⟨at_0_6 h, List.forall_mem_cons.mpr ⟨at_0_7 h, List.forall_mem_cons.mpr ⟨at_0_8 h, List.forall_mem_cons.mpr ⟨at_0_9 h, List.forall_mem_cons.mpr ⟨at_0_10 h, List.forall_mem_cons.mpr ⟨at_0_11 h, List.forall_mem_cons.mpr ⟨at_0_12 h, List.forall_mem_cons.mpr ⟨at_0_13 h, List.forall_mem_cons.mpr ⟨at_1_0 h, List.forall_mem_cons.mpr ⟨at_1_1 h, List.forall_mem_cons.mpr ⟨at_1_2 h, List.forall_mem_cons.mpr ⟨at_1_3 h, List.forall_mem_cons.mpr ⟨at_1_4 h, List.forall_mem_cons.mpr ⟨at_1_5 h, List.forall_mem_cons.mpr ⟨at_1_6 h, List.forall_mem_cons.mpr ⟨at_1_7 h, List.forall_mem_cons.mpr ⟨at_1_8 h, List.forall_mem_cons.mpr ⟨at_1_9 h, List.forall_mem_cons.mpr ⟨at_1_10 h, List.forall_mem_cons.mpr ⟨at_1_11 h, List.forall_mem_cons.mpr ⟨at_1_12 h, List.forall_mem_cons.mpr ⟨at_1_13 h, List.forall_mem_cons.mpr ⟨at_2_0 h, List.forall_mem_cons.mpr ⟨at_2_1 h, List.forall_mem_cons.mpr ⟨at_2_2 h, List.forall_mem_cons.mpr ⟨at_2_3 h, List.forall_mem_cons.mpr ⟨at_2_4 h, List.forall_mem_cons.mpr ⟨at_2_5 h, List.forall_mem_cons.mpr ⟨at_2_6 h, List.forall_mem_cons.mpr ⟨at_2_7 h, List.forall_mem_cons.mpr ⟨at_2_8 h, List.forall_mem_cons.mpr ⟨at_2_9 h, List.forall_mem_cons.mpr ⟨at_2_10 h, List.forall_mem_cons.mpr ⟨at_2_11 h, List.forall_mem_cons.mpr ⟨at_2_12 h, List.forall_mem_cons.mpr ⟨at_2_13 h, List.forall_mem_cons.mpr ⟨at_3_0 h, List.forall_mem_cons.mpr ⟨at_3_1 h, List.forall_mem_cons.mpr ⟨at_3_2 h, List.forall_mem_cons.mpr ⟨at_3_3 h, List.forall_mem_cons.mpr ⟨at_3_4 h, List.forall_mem_cons.mpr ⟨at_3_5 h, List.forall_mem_cons.mpr ⟨at_3_6 h, List.forall_mem_cons.mpr ⟨at_3_7 h, List.forall_mem_cons.mpr ⟨at_3_8 h, List.forall_mem_cons.mpr ⟨at_3_9 h, List.forall_mem_cons.mpr ⟨at_3_10 h, List.forall_mem_cons.mpr ⟨at_3_11 h, List.forall_mem_cons.mpr ⟨at_3_12 h, List.forall_mem_cons.mpr ⟨at_3_13 h, List.forall_mem_cons.mpr ⟨at_4_0 h, List.forall_mem_cons.mpr ⟨at_4_1 h, List.forall_mem_cons.mpr ⟨at_4_2 h, List.forall_mem_cons.mpr ⟨at_4_3 h, List.forall_mem_cons.mpr ⟨at_4_4 h, List.forall_mem_cons.mpr ⟨at_5_0 h, List.forall_mem_cons.mpr ⟨at_5_1 h, List.forall_mem_cons.mpr ⟨at_6_0 h, List.forall_mem_cons.mpr ⟨at_6_1 h, List.forall_mem_cons.mpr ⟨at_6_2 h, List.forall_mem_cons.mpr ⟨at_6_3 h, List.forall_mem_cons.mpr ⟨at_7_0 h, List.forall_mem_cons.mpr ⟨at_7_1 h, List.forall_mem_cons.mpr ⟨at_7_2 h, List.forall_mem_cons.mpr ⟨at_8_1 h, List.forall_mem_cons.mpr ⟨at_8_2 h, List.forall_mem_cons.mpr ⟨at_8_3 h, List.forall_mem_cons.mpr ⟨at_8_4 h, List.forall_mem_cons.mpr ⟨at_8_5 h, List.forall_mem_cons.mpr ⟨at_8_6 h, List.forall_mem_cons.mpr ⟨at_8_7 h, List.forall_mem_cons.mpr ⟨at_8_8 h, List.forall_mem_cons.mpr ⟨at_9_1 h, List.forall_mem_cons.mpr ⟨at_9_2 h, List.forall_mem_cons.mpr ⟨at_9_3 h, List.forall_mem_cons.mpr ⟨at_9_4 h, List.forall_mem_cons.mpr ⟨at_9_5 h, List.forall_mem_cons.mpr ⟨at_9_6 h, List.forall_mem_cons.mpr ⟨at_9_7 h, List.forall_mem_cons.mpr ⟨at_9_8 h, List.forall_mem_cons.mpr ⟨at_10_0 h, List.forall_mem_cons.mpr ⟨at_10_1 h, List.forall_mem_cons.mpr ⟨at_10_2 h, List.forall_mem_cons.mpr ⟨at_10_3 h, List.forall_mem_cons.mpr ⟨at_10_4 h, List.forall_mem_cons.mpr ⟨at_10_5 h, List.forall_mem_cons.mpr ⟨at_10_6 h, List.forall_mem_cons.mpr ⟨at_10_7 h, List.forall_mem_cons.mpr ⟨at_10_8 h, List.forall_mem_cons.mpr ⟨at_10_9 h, List.forall_mem_cons.mpr ⟨at_10_10 h, fun _ q => absurd q List.not_mem_nil⟩⟩⟩⟩⟩⟩⟩⟩⟩⟩⟩⟩⟩⟩⟩⟩⟩⟩⟩⟩⟩⟩⟩⟩⟩⟩⟩⟩⟩⟩⟩⟩⟩⟩⟩⟩⟩⟩⟩⟩⟩⟩⟩⟩⟩⟩⟩⟩⟩⟩⟩⟩⟩⟩⟩⟩⟩⟩⟩⟩⟩⟩⟩⟩⟩⟩⟩⟩⟩⟩⟩⟩⟩⟩⟩⟩⟩⟩⟩⟩⟩⟩⟩⟩⟩⟩⟩⟩⟩⟩⟩⟩⟩⟩⟩⟩⟩
theorem hh_T0 (h : Hn (BB sa sv dC dI cA H0) (enL (BB sa sv dC dI cA H0) 0 ++ moL (BB sa sv dC dI cA H0) 86) H) : Hh (BB sa sv dC dI cA H0) T0 H := by
  have hB : ∀ g f, g < 11 → (BB sa sv dC dI cA H0).1 g f = H0.size + ofs g f := fun g f hg => by
    show (if g = 11 then sa f else if g = 12 then sv f else H0.size + ofs g f) = _
    rw [if_neg (by omega), if_neg (by omega)]
  have hg : ∀ x ∈ IX, x.1 < 11 := by rw [ix_is]; decide
  have hw : ∀ (k : Nat) (q : Nat × va_E), (wl (BB sa sv dC dI cA H0) T0)[k]? = some q → ∃ x, IX[k]? = some x ∧ q = ((BB sa sv dC dI cA H0).1 x.1 x.2, wc (BB sa sv dC dI cA H0) T0 x.1 x.2) := fun k q hq => by
    unfold wl at hq
    rw [List.getElem?_map] at hq
    cases hx : IX[k]? with
    | none => rw [hx] at hq; cases hq
    | some x => rw [hx] at hq; exact ⟨x, rfl, (Option.some.inj hq).symm⟩
  have hlt : ∀ (k : Nat) (x : Nat × Nat), IX[k]? = some x → k < 97 := fun k x hx => by
    have := (List.getElem?_eq_some_iff.mp hx).1
    rw [ix_len] at this
    exact this
  refine ⟨fun k q hq => ?_, ⟨fun i j p q hp hq e => ?_, fun k q hq => ?_⟩, ⟨?_, h.2.2⟩, Or.inl ⟨rfl, rfl⟩⟩
  · obtain ⟨x, hx, rfl⟩ := hw k q hq
    exact at_all h x (List.mem_of_getElem? hx)
  · obtain ⟨x, hx, rfl⟩ := hw i p hp
    obtain ⟨y, hy, rfl⟩ := hw j q hq
    have e : (BB sa sv dC dI cA H0).1 x.1 x.2 = (BB sa sv dC dI cA H0).1 y.1 y.2 := e
    rw [hB _ _ (hg x (List.mem_of_getElem? hx)), hB _ _ (hg y (List.mem_of_getElem? hy))] at e
    refine ofs_u i (hlt i x hx) j (hlt j y hy) ?_
    rw [hx, hy]
    exact congrArg some (show ofs x.1 x.2 = ofs y.1 y.2 by omega)
  · obtain ⟨x, hx, rfl⟩ := hw k q hq
    show H0.size ≤ (BB sa sv dC dI cA H0).1 x.1 x.2
    rw [hB _ _ (hg x (List.mem_of_getElem? hx))]
    omega
  · have e := h.1
    show H0.size ≤ H.size
    have e : H.size = H0.size + _ := e
    omega
end AT
