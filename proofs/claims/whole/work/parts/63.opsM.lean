/-! mornings by odds -/
theorem ten_l {N : Nat} (hN : N ≤ 6) : ∀ (m j n : Nat), j + m = N → m < n → m_X10_tenTo_l4 n (nI N) (lN (10 ^ j)) (nI j) = some (lN (10 ^ N)) := by
  intro m
  induction m with
  | zero =>
    intro j n hj hn
    obtain ⟨n, rfl⟩ : ∃ q, n = q + 1 := ⟨n - 1, by omega⟩
    show m_X10_tenTo_h4 _ _ _ _ = _
    unfold m_X10_tenTo_h4
    rw [if_pos (nI_le (by omega) (by omega)), show j = N by omega]
  | succ m ih =>
    intro j n hj hn
    obtain ⟨n, rfl⟩ : ∃ q, n = q + 1 := ⟨n - 1, by omega⟩
    show m_X10_tenTo_h4 _ _ _ _ = _
    unfold m_X10_tenTo_h4
    have h6 : ¬ (6 : Int32) ≤ nI j := nI_ge (b := 6) (by omega) (by decide)
    have e : lN (10 ^ j) * (10 : Int64) = lN (10 ^ (j + 1)) := lN_mul (10 ^ j) 10
    rw [if_neg (nI_ge (by omega) (by omega)), if_neg h6, bT_v, bT_v, nI_1, e]
    exact ih (j + 1) n (by omega) (by omega)
theorem ten_v {N : Nat} (hN : N ≤ 6) : m_X10_tenTo (nI N) = some (lN (10 ^ N)) := ten_l hN N 0 FU (by omega) (FU_lt (by omega))
def tm (k c : Nat) : Nat → Nat → Nat → Nat
  | 0, _, _ => 0
  | n + 1, d, g => (10 - c) * (rF k (d / 20 % 4) g * 10 ^ n + tm k c n (d + 1) (lF k 0 g)) + c * tm k c n (d + 1) (lF k 2 g)
theorem tm_v {h : Nat × Nat} {k c : Nat} (hh : kn h.1 h.2 = k) (hk : k < 6) (hc : c ≤ 10) : ∀ (n f d g : Nat), n ≤ 6 → n < f → d + n < 2 ^ 30 → g < 100 → m_X10_tenfoldMean f h (nI d) (nI g) (nI n) (nI c) = some (lN (tm k c n d g)) := by
  intro n
  induction n with
  | zero =>
    intro f d g hn hf hd hg
    obtain ⟨f, rfl⟩ : ∃ q, f = q + 1 := ⟨f - 1, by omega⟩
    show m_X10_tenfoldMean_e _ _ _ _ _ _ = _
    unfold m_X10_tenfoldMean_e
    rw [if_pos (by decide)]
    rfl
  | succ n ih =>
    intro f d g hn hf hd hg
    obtain ⟨f, rfl⟩ : ∃ q, f = q + 1 := ⟨f - 1, by omega⟩
    show m_X10_tenfoldMean_e _ _ _ _ _ _ = _
    unfold m_X10_tenfoldMean_e
    have h6 : nI (n + 1) ≤ 6 := nI_le (b := 6) hn (by decide)
    have hr := rF_lt k hk (d / 20 % 4) (Nat.mod_lt _ (by decide)) g hg
    have e10 : ((10 : Int32) - nI c).toInt64 = lN (10 - c) := by
      rw [show (10 : Int32) - nI c = nI (10 - c) from pk_sub (a := 10) hc]
      exact nI_l (by omega)
    have ef : lN (10 - c) * (lN (rF k (d / 20 % 4) g) * lN (10 ^ n) + lN (tm k c n (d + 1) (lF k 0 g))) + lN c * lN (tm k c n (d + 1) (lF k 2 g)) = lN (tm k c (n + 1) d g) := by
      rw [lN_mul, lN_add, lN_mul, lN_mul, lN_add]
      rfl
    rw [if_neg (nI_nle (by omega) (by omega)), if_pos h6, sea_v (by omega), Option.bind_some, runs_v hh hk (Nat.mod_lt _ (by decide)) hg, Option.bind_some, nI_pred, ten_v (by omega), Option.bind_some, bT_v, show v_left h 0 (nI g) = _ from left_v (c := 0) hh hk (by decide) hg, Option.bind_some, nI_1, ih f (d + 1) _ (by omega) (by omega) (by omega) (lF_lt k hk 0 (by decide) g hg), Option.bind_some, show v_left h 2 (nI g) = _ from left_v (c := 2) hh hk (by decide) hg, Option.bind_some, ih f (d + 1) _ (by omega) (by omega) (by omega) (lF_lt k hk 2 (by decide) g hg), Option.bind_some, e10, nI_l (by omega), nI_l (by omega), ef]
/-! sums over all rows of mornings -/
def sg (f : Nat → Nat) : Nat → Nat
  | 0 => 0
  | n + 1 => sg f n + f n
theorem sg_2 (f : Nat → Nat) : ∀ N, sg f (2 * N) = sg (fun s => f (2 * s)) N + sg (fun s => f (2 * s + 1)) N
  | 0 => rfl
  | N + 1 => by
    show sg f (2 * N) + f (2 * N) + f (2 * N + 1) = sg (fun s => f (2 * s)) N + f (2 * N) + (sg (fun s => f (2 * s + 1)) N + f (2 * N + 1))
    rw [sg_2 f N]
    omega
theorem sg_congr {f g : Nat → Nat} : ∀ N, (∀ s, s < N → f s = g s) → sg f N = sg g N
  | 0, _ => rfl
  | N + 1, h => by
    show sg f N + f N = sg g N + g N
    rw [sg_congr N (fun s hs => h s (by omega)), h N (by omega)]
theorem sg_mul (a : Nat) (f : Nat → Nat) : ∀ N, sg (fun s => a * f s) N = a * sg f N
  | 0 => rfl
  | N + 1 => by
    show sg (fun s => a * f s) N + a * f N = a * (sg f N + f N)
    rw [sg_mul a f N, Nat.mul_add]
theorem sg_add (f g : Nat → Nat) : ∀ N, sg (fun s => f s + g s) N = sg f N + sg g N
  | 0 => rfl
  | N + 1 => by
    show sg (fun s => f s + g s) N + (f N + g N) = sg f N + f N + (sg g N + g N)
    rw [sg_add f g N]
    omega
def csF (c : Nat) : Nat → Nat → Nat
  | 0, _ => 1
  | n + 1, s => (if s % 2 = 1 then c else 10 - c) * csF c n (s / 2)
def rnF (k : Nat) : Nat → Nat → Nat → Nat → Nat
  | 0, _, _, _ => 0
  | n + 1, d, g, s => if s % 2 = 1 then rnF k n (d + 1) (lF k 2 g) (s / 2) else rF k (d / 20 % 4) g + rnF k n (d + 1) (lF k 0 g) (s / 2)
theorem cs_even (c n s : Nat) : csF c (n + 1) (2 * s) = (10 - c) * csF c n s := by
  show (if 2 * s % 2 = 1 then c else 10 - c) * csF c n (2 * s / 2) = _
  rw [if_neg (by omega), show 2 * s / 2 = s by omega]
theorem cs_odd (c n s : Nat) : csF c (n + 1) (2 * s + 1) = c * csF c n s := by
  show (if (2 * s + 1) % 2 = 1 then c else 10 - c) * csF c n ((2 * s + 1) / 2) = _
  rw [if_pos (by omega), show (2 * s + 1) / 2 = s by omega]
theorem rn_even (k n d g s : Nat) : rnF k (n + 1) d g (2 * s) = rF k (d / 20 % 4) g + rnF k n (d + 1) (lF k 0 g) s := by
  show (if 2 * s % 2 = 1 then _ else rF k (d / 20 % 4) g + rnF k n (d + 1) (lF k 0 g) (2 * s / 2)) = _
  rw [if_neg (by omega), show 2 * s / 2 = s by omega]
theorem rn_odd (k n d g s : Nat) : rnF k (n + 1) d g (2 * s + 1) = rnF k n (d + 1) (lF k 2 g) s := by
  show (if (2 * s + 1) % 2 = 1 then rnF k n (d + 1) (lF k 2 g) ((2 * s + 1) / 2) else _) = _
  rw [if_pos (by omega), show (2 * s + 1) / 2 = s by omega]
theorem cs_sum {c : Nat} (hc : c ≤ 10) : ∀ n, sg (csF c n) (2 ^ n) = 10 ^ n
  | 0 => rfl
  | n + 1 => by
    rw [show 2 ^ (n + 1) = 2 * 2 ^ n by rw [Nat.pow_succ, Nat.mul_comm], sg_2, sg_congr (g := fun s => (10 - c) * csF c n s) _ (fun s _ => cs_even c n s), sg_congr (f := fun s => csF c (n + 1) (2 * s + 1)) (g := fun s => c * csF c n s) _ (fun s _ => cs_odd c n s), sg_mul, sg_mul, cs_sum hc n, ← Nat.add_mul, show 10 - c + c = 10 by omega, Nat.pow_succ, Nat.mul_comm]
theorem st_sum {k c : Nat} (hc : c ≤ 10) : ∀ n d g, sg (fun s => csF c n s * rnF k n d g s) (2 ^ n) = tm k c n d g
  | 0, d, g => rfl
  | n + 1, d, g => by
    rw [show 2 ^ (n + 1) = 2 * 2 ^ n by rw [Nat.pow_succ, Nat.mul_comm], sg_2]
    rw [sg_congr (f := fun s => csF c (n + 1) (2 * s) * rnF k (n + 1) d g (2 * s)) (g := fun s => (10 - c) * (rF k (d / 20 % 4) g * csF c n s + csF c n s * rnF k n (d + 1) (lF k 0 g) s)) _ (fun s _ => by
      show csF c (n + 1) (2 * s) * rnF k (n + 1) d g (2 * s) = _
      rw [cs_even, rn_even, Nat.mul_assoc, Nat.mul_add, Nat.mul_comm (csF c n s) (rF k (d / 20 % 4) g)])]
    rw [sg_congr (f := fun s => csF c (n + 1) (2 * s + 1) * rnF k (n + 1) d g (2 * s + 1)) (g := fun s => c * (csF c n s * rnF k n (d + 1) (lF k 2 g) s)) _ (fun s _ => by
      show csF c (n + 1) (2 * s + 1) * rnF k (n + 1) d g (2 * s + 1) = _
      rw [cs_odd, rn_odd, Nat.mul_assoc])]
    rw [sg_mul, sg_mul, sg_add (fun s => rF k (d / 20 % 4) g * csF c n s) (fun s => csF c n s * rnF k n (d + 1) (lF k 0 g) s), sg_mul, cs_sum hc n, st_sum hc n, st_sum hc n]
    rfl
theorem tm_le {k c : Nat} (hk : k < 6) (hc : c ≤ 10) : ∀ n d g, g < 100 → tm k c n d g ≤ 199 * n * 10 ^ n
  | 0, _, _, _ => Nat.zero_le _
  | n + 1, d, g, hg => by
    have h1 := tm_le hk hc n (d + 1) (lF k 0 g) (lF_lt k hk 0 (by decide) g hg)
    have h2 := tm_le hk hc n (d + 1) (lF k 2 g) (lF_lt k hk 2 (by decide) g hg)
    have hr := rF_lt k hk (d / 20 % 4) (Nat.mod_lt _ (by decide)) g hg
    show (10 - c) * (rF k (d / 20 % 4) g * 10 ^ n + tm k c n (d + 1) (lF k 0 g)) + c * tm k c n (d + 1) (lF k 2 g) ≤ _
    have a1 : rF k (d / 20 % 4) g * 10 ^ n ≤ 199 * 10 ^ n := Nat.mul_le_mul_right _ (by omega)
    have a2 : (10 - c) * (rF k (d / 20 % 4) g * 10 ^ n + tm k c n (d + 1) (lF k 0 g)) ≤ (10 - c) * (199 * 10 ^ n + 199 * n * 10 ^ n) := Nat.mul_le_mul_left _ (by omega)
    have a3 : c * tm k c n (d + 1) (lF k 2 g) ≤ c * (199 * 10 ^ n + 199 * n * 10 ^ n) := Nat.mul_le_mul_left _ (by omega)
    have a4 : (10 - c) * (199 * 10 ^ n + 199 * n * 10 ^ n) + c * (199 * 10 ^ n + 199 * n * 10 ^ n) = 10 * (199 * 10 ^ n + 199 * n * 10 ^ n) := by rw [← Nat.add_mul, show 10 - c + c = 10 by omega]
    have a5 : 199 * (n + 1) * 10 ^ (n + 1) = 10 * (199 * 10 ^ n + 199 * n * 10 ^ n) := by
      rw [Nat.pow_succ, Nat.mul_add, Nat.mul_one, ← Nat.mul_assoc, Nat.add_mul, Nat.mul_comm _ 10, Nat.add_comm]
    omega
