/-! FRAMES: what a method leaves as it was -/
def Fr (PA PI PL : Nat → Nat → Prop) (T T' : TT) : Prop := (∀ a b, ¬ PA a b → T'.1 a b = T.1 a b) ∧ (∀ a b, ¬ PI a b → T'.2.1 a b = T.2.1 a b) ∧ (∀ a b, ¬ PL a b → T'.2.2.1 a b = T.2.2.1 a b)
theorem Fr.rf {PA PI PL : Nat → Nat → Prop} {T : TT} : Fr PA PI PL T T := ⟨fun _ _ _ => rfl, fun _ _ _ => rfl, fun _ _ _ => rfl⟩
theorem Fr.trans {PA PI PL : Nat → Nat → Prop} {T T1 T2 : TT} (h : Fr PA PI PL T T1) (k : Fr PA PI PL T1 T2) : Fr PA PI PL T T2 := ⟨fun a b n => (k.1 a b n).trans (h.1 a b n), fun a b n => (k.2.1 a b n).trans (h.2.1 a b n), fun a b n => (k.2.2 a b n).trans (h.2.2 a b n)⟩
theorem Fr.mono {PA PI PL QA QI QL : Nat → Nat → Prop} {T T1 : TT} (h : Fr PA PI PL T T1) (hA : ∀ a b, PA a b → QA a b) (hI : ∀ a b, PI a b → QI a b) (hL : ∀ a b, PL a b → QL a b) : Fr QA QI QL T T1 := ⟨fun a b n => h.1 a b (fun q => n (hA a b q)), fun a b n => h.2.1 a b (fun q => n (hI a b q)), fun a b n => h.2.2 a b (fun q => n (hL a b q))⟩
theorem Fr.wA {PA PI PL : Nat → Nat → Prop} {T T1 T2 : TT} {g f j : Nat} {x : Int32} (h : Fr PA PI PL T T1) (e : T2 = sA T1 g f j x) (hp : PA g f) : Fr PA PI PL T T2 := by
  subst e
  refine ⟨fun a b n => ?_, h.2.1, h.2.2⟩
  rw [← h.1 a b n]
  by_cases c1 : a = g
  · subst c1
    by_cases c2 : b = f
    · subst c2; exact absurd hp n
    · simp [sA, c2]
  · simp [sA, c1]
theorem Fr.wC {PA PI PL : Nat → Nat → Prop} {T T1 T2 : TT} {g0 f0 sp g f dp m : Nat} (h : Fr PA PI PL T T1) (e : T2 = cpA T1 g0 f0 sp g f dp m) (hp : PA g f) : Fr PA PI PL T T2 := by
  subst e
  refine ⟨fun a b n => ?_, h.2.1, h.2.2⟩
  rw [← h.1 a b n]
  by_cases c1 : a = g
  · subst c1
    by_cases c2 : b = f
    · subst c2; exact absurd hp n
    · simp [cpA, c2]
  · simp [cpA, c1]
theorem Fr.wI {PA PI PL : Nat → Nat → Prop} {T T1 T2 : TT} {g k : Nat} {x : Int32} (h : Fr PA PI PL T T1) (e : T2 = sI T1 g k x) (hp : PI g k) : Fr PA PI PL T T2 := by
  subst e
  refine ⟨h.1, fun a b n => ?_, h.2.2⟩
  rw [← h.2.1 a b n]
  by_cases c1 : a = g
  · subst c1
    by_cases c2 : b = k
    · subst c2; exact absurd hp n
    · simp [sI, c2]
  · simp [sI, c1]
theorem Fr.wL {PA PI PL : Nat → Nat → Prop} {T T1 T2 : TT} {g k : Nat} {x : Int64} (h : Fr PA PI PL T T1) (e : T2 = sL T1 g k x) (hp : PL g k) : Fr PA PI PL T T2 := by
  subst e
  refine ⟨h.1, h.2.1, fun a b n => ?_⟩
  rw [← h.2.2 a b n]
  by_cases c1 : a = g
  · subst c1
    by_cases c2 : b = k
    · subst c2; exact absurd hp n
    · simp [sL, c2]
  · simp [sL, c1]
theorem Fr.wR {PA PI PL : Nat → Nat → Prop} {T T1 T2 : TT} {g : Nat} {x : Nat × Nat} (h : Fr PA PI PL T T1) (e : T2 = sR T1 g x) : Fr PA PI PL T T2 := by subst e; exact h
theorem gd {R : Type} {p : Prop} [Decidable p] {a : Option R} {r : R} (h : (if p then a else none) = some r) : p ∧ a = some r := by
  by_cases c : p
  · rw [if_pos c] at h; exact ⟨c, h⟩
  · rw [if_neg c] at h; cases h
theorem gdn {R : Type} {p : Prop} [Decidable p] {a : Option R} {r : R} (h : (if p then none else a) = some r) : ¬ p ∧ a = some r := by
  by_cases c : p
  · rw [if_pos c] at h; cases h
  · rw [if_neg c] at h; exact ⟨c, h⟩
theorem ifo {R : Type} {p : Prop} [Decidable p] {a b : Option R} {r : R} (h : (if p then a else b) = some r) : a = some r ∨ b = some r := by
  by_cases c : p
  · rw [if_pos c] at h; exact Or.inl h
  · rw [if_neg c] at h; exact Or.inr h
theorem bTe {α β : Type} {x : α} {k : α → β} {r : β} (h : bT x k = r) : ∃ y, y = x ∧ k y = r := ⟨x, rfl, h⟩
set_option maxHeartbeats 4000000 in
set_option maxRecDepth 100000 in
theorem fr_X2_keepIfBetter {T : TT} {x1 : Int32} {res : TT} (h : m_X2_keepIfBetter T x1 = some res) : Fr (fun a b => (a = 7 ∧ b = 1)) (fun a b => (a = 7 ∧ b = 1)) (fun _ _ => False) T res := by
  unfold m_X2_keepIfBetter at h
  have F0 : Fr (fun a b => (a = 7 ∧ b = 1)) (fun a b => (a = 7 ∧ b = 1)) (fun _ _ => False) T T := Fr.rf
  rcases ifo h with h | h
  · have hq := some_i h
    subst hq
    exact F0
  · obtain ⟨T1, eT1, h⟩ := bTe h
    have FT1 := (F0.wI eT1 ⟨rfl, rfl⟩)
    obtain ⟨gi, h⟩ := gd h
    obtain ⟨T2, eT2, h⟩ := bTe h
    have FT2 := (FT1.wC eT2 ⟨rfl, rfl⟩)
    have hq := some_i h
    subst hq
    exact FT2
set_option maxHeartbeats 4000000 in
set_option maxRecDepth 100000 in
theorem fr_X2_tryFrom_b126 {self : TT → Nat → Int32 → Int32 → Option (TT)} {g : Nat} {res : TT} (hself : ∀ {T : TT} {g : Nat} {x2 : Int32} {x3 : Int32} {res : TT}, self T g x2 x3 = some res → Fr (fun a b => (a = 7 ∧ b = 1) ∨ (a = 7 ∧ b = 2)) (fun a b => (a = 7 ∧ b = 1)) (fun _ _ => False) T res) {T : TT} {x2 : Int32} {x3 : Int32} (h : m_X2_tryFrom_b126 self g T x2 x3 = some res) : Fr (fun a b => (a = 7 ∧ b = 1) ∨ (a = 7 ∧ b = 2)) (fun a b => (a = 7 ∧ b = 1)) (fun _ _ => False) T res := by
  unfold m_X2_tryFrom_b126 at h
  have F0 : Fr (fun a b => (a = 7 ∧ b = 1) ∨ (a = 7 ∧ b = 2)) (fun a b => (a = 7 ∧ b = 1)) (fun _ _ => False) T T := Fr.rf
  obtain ⟨z16, ez16, h⟩ := bnd h
  have Fz16 := F0.trans (hself ez16)
  have hq := some_i h
  subst hq
  exact Fz16
set_option maxHeartbeats 4000000 in
set_option maxRecDepth 100000 in
theorem fr_X2_tryFrom_b120 {self : TT → Nat → Int32 → Int32 → Option (TT)} {g : Nat} {rec45 : TT → Int32 → Int32 → Int32 → Option (TT)} {res : TT} (hself : ∀ {T : TT} {g : Nat} {x2 : Int32} {x3 : Int32} {res : TT}, self T g x2 x3 = some res → Fr (fun a b => (a = 7 ∧ b = 1) ∨ (a = 7 ∧ b = 2)) (fun a b => (a = 7 ∧ b = 1)) (fun _ _ => False) T res) (hrec45 : ∀ {T : TT} {x2 : Int32} {x3 : Int32} {x4 : Int32}, rec45 T x2 x3 x4 = some res → Fr (fun a b => (a = 7 ∧ b = 1) ∨ (a = 7 ∧ b = 2)) (fun a b => (a = 7 ∧ b = 1)) (fun _ _ => False) T res) {T : TT} {x2 : Int32} {x3 : Int32} {x4 : Int32} (h : m_X2_tryFrom_b120 self g rec45 T x2 x3 x4 = some res) : Fr (fun a b => (a = 7 ∧ b = 1) ∨ (a = 7 ∧ b = 2)) (fun a b => (a = 7 ∧ b = 1)) (fun _ _ => False) T res := by
  unfold m_X2_tryFrom_b120 at h
  have F0 : Fr (fun a b => (a = 7 ∧ b = 1) ∨ (a = 7 ∧ b = 2)) (fun a b => (a = 7 ∧ b = 1)) (fun _ _ => False) T T := Fr.rf
  obtain ⟨y15, ey15, h⟩ := bTe h
  exact F0.trans (hrec45 h)
set_option maxHeartbeats 4000000 in
set_option maxRecDepth 100000 in
theorem fr_X2_tryFrom_h45 {self : TT → Nat → Int32 → Int32 → Option (TT)} {g : Nat} {rec45 : TT → Int32 → Int32 → Int32 → Option (TT)} {res : TT} (hself : ∀ {T : TT} {g : Nat} {x2 : Int32} {x3 : Int32} {res : TT}, self T g x2 x3 = some res → Fr (fun a b => (a = 7 ∧ b = 1) ∨ (a = 7 ∧ b = 2)) (fun a b => (a = 7 ∧ b = 1)) (fun _ _ => False) T res) (hrec45 : ∀ {T : TT} {x2 : Int32} {x3 : Int32} {x4 : Int32}, rec45 T x2 x3 x4 = some res → Fr (fun a b => (a = 7 ∧ b = 1) ∨ (a = 7 ∧ b = 2)) (fun a b => (a = 7 ∧ b = 1)) (fun _ _ => False) T res) {T : TT} {x2 : Int32} {x3 : Int32} {x4 : Int32} (h : m_X2_tryFrom_h45 self g rec45 T x2 x3 x4 = some res) : Fr (fun a b => (a = 7 ∧ b = 1) ∨ (a = 7 ∧ b = 2)) (fun a b => (a = 7 ∧ b = 1)) (fun _ _ => False) T res := by
  unfold m_X2_tryFrom_h45 at h
  have F0 : Fr (fun a b => (a = 7 ∧ b = 1) ∨ (a = 7 ∧ b = 2)) (fun a b => (a = 7 ∧ b = 1)) (fun _ _ => False) T T := Fr.rf
  rcases ifo h with h | h
  · exact F0.trans (fr_X2_tryFrom_b126 hself h)
  · rcases ifo h with h | h
    · exact F0.trans (fr_X2_tryFrom_b126 hself h)
    · obtain ⟨gi, h⟩ := gd h
      rcases ifo h with h | h
      · obtain ⟨gi, h⟩ := gd h
        obtain ⟨T6, eT6, h⟩ := bTe h
        have FT6 := (F0.wA eT6 (Or.inr ⟨rfl, rfl⟩))
        obtain ⟨gi, h⟩ := gd h
        obtain ⟨T7, eT7, h⟩ := bTe h
        have FT7 := (FT6.wA eT7 (Or.inr ⟨rfl, rfl⟩))
        obtain ⟨z8, ez8, h⟩ := bnd h
        obtain ⟨z9, ez9, h⟩ := bnd h
        have Fz9 := FT7.trans (hself ez9)
        obtain ⟨gi, h⟩ := gd h
        obtain ⟨T10, eT10, h⟩ := bTe h
        have FT10 := (Fz9.wA eT10 (Or.inr ⟨rfl, rfl⟩))
        obtain ⟨gi, h⟩ := gd h
        obtain ⟨T11, eT11, h⟩ := bTe h
        have FT11 := (FT10.wA eT11 (Or.inr ⟨rfl, rfl⟩))
        exact FT11.trans (fr_X2_tryFrom_b120 hself hrec45 h)
      · exact F0.trans (fr_X2_tryFrom_b120 hself hrec45 h)
set_option maxHeartbeats 4000000 in
set_option maxRecDepth 100000 in
theorem fr_X2_tryFrom_l45 {self : TT → Nat → Int32 → Int32 → Option (TT)} {g : Nat} {res : TT} (hself : ∀ {T : TT} {g : Nat} {x2 : Int32} {x3 : Int32} {res : TT}, self T g x2 x3 = some res → Fr (fun a b => (a = 7 ∧ b = 1) ∨ (a = 7 ∧ b = 2)) (fun a b => (a = 7 ∧ b = 1)) (fun _ _ => False) T res) : ∀ (n : Nat) {T : TT} {x2 : Int32} {x3 : Int32} {x4 : Int32} (h : m_X2_tryFrom_l45 self g n T x2 x3 x4 = some res), Fr (fun a b => (a = 7 ∧ b = 1) ∨ (a = 7 ∧ b = 2)) (fun a b => (a = 7 ∧ b = 1)) (fun _ _ => False) T res := by
  intro n
  induction n with
  | zero =>
    intro T x2 x3 x4 h
    exact no_some h
  | succ n ih =>
    intro T x2 x3 x4 h
    have h : m_X2_tryFrom_h45 self g (m_X2_tryFrom_l45 self g n) T x2 x3 x4 = some res := h
    exact fr_X2_tryFrom_h45 (rec45 := m_X2_tryFrom_l45 self g n) hself (fun h => ih h) h
set_option maxHeartbeats 4000000 in
set_option maxRecDepth 100000 in
theorem fr_X2_tryFrom_b14 {self : TT → Nat → Int32 → Int32 → Option (TT)} {g : Nat} {res : TT} (hself : ∀ {T : TT} {g : Nat} {x2 : Int32} {x3 : Int32} {res : TT}, self T g x2 x3 = some res → Fr (fun a b => (a = 7 ∧ b = 1) ∨ (a = 7 ∧ b = 2)) (fun a b => (a = 7 ∧ b = 1)) (fun _ _ => False) T res) {T : TT} {x3 : Int32} (h : m_X2_tryFrom_b14 self g T x3 = some res) : Fr (fun a b => (a = 7 ∧ b = 1) ∨ (a = 7 ∧ b = 2)) (fun a b => (a = 7 ∧ b = 1)) (fun _ _ => False) T res := by
  unfold m_X2_tryFrom_b14 at h
  have F0 : Fr (fun a b => (a = 7 ∧ b = 1) ∨ (a = 7 ∧ b = 2)) (fun a b => (a = 7 ∧ b = 1)) (fun _ _ => False) T T := Fr.rf
  obtain ⟨z17, ez17, h⟩ := bnd h
  have Fz17 := F0.trans ((fr_X2_keepIfBetter ez17).mono (fun a b h => (Or.inl h)) (fun a b h => h) (fun a b h => False.elim h))
  have hq := some_i h
  subst hq
  exact Fz17
set_option maxHeartbeats 4000000 in
set_option maxRecDepth 100000 in
theorem fr_X2_tryFrom_e {self : TT → Nat → Int32 → Int32 → Option (TT)} {res : TT} (hself : ∀ {T : TT} {g : Nat} {x2 : Int32} {x3 : Int32} {res : TT}, self T g x2 x3 = some res → Fr (fun a b => (a = 7 ∧ b = 1) ∨ (a = 7 ∧ b = 2)) (fun a b => (a = 7 ∧ b = 1)) (fun _ _ => False) T res) {T : TT} {g : Nat} {x2 : Int32} {x3 : Int32} (h : m_X2_tryFrom_e self T g x2 x3 = some res) : Fr (fun a b => (a = 7 ∧ b = 1) ∨ (a = 7 ∧ b = 2)) (fun a b => (a = 7 ∧ b = 1)) (fun _ _ => False) T res := by
  unfold m_X2_tryFrom_e at h
  have F0 : Fr (fun a b => (a = 7 ∧ b = 1) ∨ (a = 7 ∧ b = 2)) (fun a b => (a = 7 ∧ b = 1)) (fun _ _ => False) T T := Fr.rf
  rcases ifo h with h | h
  · exact F0.trans (fr_X2_tryFrom_b14 hself h)
  · rcases ifo h with h | h
    · obtain ⟨gi, h⟩ := gd h
      rcases ifo h with h | h
      · obtain ⟨y1, ey1, h⟩ := bTe h
        exact F0.trans (fr_X2_tryFrom_l45 hself _ h)
      · obtain ⟨z2, ez2, h⟩ := bnd h
        have Fz2 := F0.trans (hself ez2)
        have hq := some_i h
        subst hq
        exact Fz2
    · exact F0.trans (fr_X2_tryFrom_b14 hself h)
set_option maxHeartbeats 4000000 in
set_option maxRecDepth 100000 in
theorem frn_X2_tryFrom : ∀ (n : Nat) {T : TT} {g : Nat} {x2 : Int32} {x3 : Int32} {res : TT} (h : m_X2_tryFrom n T g x2 x3 = some res), Fr (fun a b => (a = 7 ∧ b = 1) ∨ (a = 7 ∧ b = 2)) (fun a b => (a = 7 ∧ b = 1)) (fun _ _ => False) T res := by
  intro n
  induction n with
  | zero =>
    intro T g x2 x3 res h
    exact no_some h
  | succ n ih =>
    intro T g x2 x3 res h
    exact fr_X2_tryFrom_e (fun h => ih h) h
theorem fr_X2_tryFrom {T : TT} {g : Nat} {x2 : Int32} {x3 : Int32} {res : TT} {n : Nat} (h : m_X2_tryFrom n T g x2 x3 = some res) : Fr (fun a b => (a = 7 ∧ b = 1) ∨ (a = 7 ∧ b = 2)) (fun a b => (a = 7 ∧ b = 1)) (fun _ _ => False) T res := frn_X2_tryFrom n h
set_option maxHeartbeats 4000000 in
set_option maxRecDepth 100000 in
theorem fr_X2_reckon_h7 {g : Nat} {rec7 : TT → Int32 → Option (TT)} {res : TT} (hrec7 : ∀ {T : TT} {x2 : Int32}, rec7 T x2 = some res → Fr (fun a b => (a = 7 ∧ b = 1) ∨ (a = 7 ∧ b = 2)) (fun a b => (a = 7 ∧ b = 1)) (fun _ _ => False) T res) {T : TT} {x2 : Int32} (h : m_X2_reckon_h7 g rec7 T x2 = some res) : Fr (fun a b => (a = 7 ∧ b = 1) ∨ (a = 7 ∧ b = 2)) (fun a b => (a = 7 ∧ b = 1)) (fun _ _ => False) T res := by
  unfold m_X2_reckon_h7 at h
  have F0 : Fr (fun a b => (a = 7 ∧ b = 1) ∨ (a = 7 ∧ b = 2)) (fun a b => (a = 7 ∧ b = 1)) (fun _ _ => False) T T := Fr.rf
  rcases ifo h with h | h
  · obtain ⟨z2, ez2, h⟩ := bnd h
    have Fz2 := F0.trans ((fr_X2_tryFrom ez2).mono (fun a b h => h) (fun a b h => h) (fun a b h => False.elim h))
    have hq := some_i h
    subst hq
    exact Fz2
  · obtain ⟨gi, h⟩ := gd h
    obtain ⟨T3, eT3, h⟩ := bTe h
    have FT3 := (F0.wA eT3 (Or.inr ⟨rfl, rfl⟩))
    obtain ⟨y4, ey4, h⟩ := bTe h
    exact FT3.trans (hrec7 h)
set_option maxHeartbeats 4000000 in
set_option maxRecDepth 100000 in
theorem fr_X2_reckon_l7 {g : Nat} {res : TT} : ∀ (n : Nat) {T : TT} {x2 : Int32} (h : m_X2_reckon_l7 g n T x2 = some res), Fr (fun a b => (a = 7 ∧ b = 1) ∨ (a = 7 ∧ b = 2)) (fun a b => (a = 7 ∧ b = 1)) (fun _ _ => False) T res := by
  intro n
  induction n with
  | zero =>
    intro T x2 h
    exact no_some h
  | succ n ih =>
    intro T x2 h
    have h : m_X2_reckon_h7 g (m_X2_reckon_l7 g n) T x2 = some res := h
    exact fr_X2_reckon_h7 (rec7 := m_X2_reckon_l7 g n) (fun h => ih h) h
set_option maxHeartbeats 4000000 in
set_option maxRecDepth 100000 in
theorem fr_X2_reckon {T : TT} {g : Nat} {res : TT} (h : m_X2_reckon T g = some res) : Fr (fun a b => (a = 7 ∧ b = 1) ∨ (a = 7 ∧ b = 2)) (fun a b => (a = 7 ∧ b = 1)) (fun _ _ => False) T res := by
  unfold m_X2_reckon at h
  have F0 : Fr (fun a b => (a = 7 ∧ b = 1) ∨ (a = 7 ∧ b = 2)) (fun a b => (a = 7 ∧ b = 1)) (fun _ _ => False) T T := Fr.rf
  obtain ⟨T1, eT1, h⟩ := bTe h
  have FT1 := (F0.wI eT1 ⟨rfl, rfl⟩)
  exact FT1.trans (fr_X2_reckon_l7 _ h)
set_option maxHeartbeats 4000000 in
set_option maxRecDepth 100000 in
theorem fr_X4_reset {T : TT} {g : Nat} {res : TT} (h : m_X4_reset T g = some res) : Fr (fun _ _ => False) (fun a b => (a = g ∧ b = 10) ∨ (a = g ∧ b = 11) ∨ (a = g ∧ b = 7) ∨ (a = g ∧ b = 8) ∨ (a = g ∧ b = 9)) (fun _ _ => False) T res := by
  unfold m_X4_reset at h
  have F0 : Fr (fun _ _ => False) (fun a b => (a = g ∧ b = 10) ∨ (a = g ∧ b = 11) ∨ (a = g ∧ b = 7) ∨ (a = g ∧ b = 8) ∨ (a = g ∧ b = 9)) (fun _ _ => False) T T := Fr.rf
  obtain ⟨T1, eT1, h⟩ := bTe h
  have FT1 := (F0.wI eT1 (Or.inr (Or.inr (Or.inl ⟨rfl, rfl⟩))))
  obtain ⟨T2, eT2, h⟩ := bTe h
  have FT2 := (FT1.wI eT2 (Or.inr (Or.inr (Or.inr (Or.inl ⟨rfl, rfl⟩)))))
  obtain ⟨T3, eT3, h⟩ := bTe h
  have FT3 := (FT2.wI eT3 (Or.inr (Or.inr (Or.inr (Or.inr ⟨rfl, rfl⟩)))))
  obtain ⟨T4, eT4, h⟩ := bTe h
  have FT4 := (FT3.wI eT4 (Or.inl ⟨rfl, rfl⟩))
  obtain ⟨T5, eT5, h⟩ := bTe h
  have FT5 := (FT4.wI eT5 (Or.inr (Or.inl ⟨rfl, rfl⟩)))
  have hq := some_i h
  subst hq
  exact FT5
set_option maxHeartbeats 4000000 in
set_option maxRecDepth 100000 in
theorem fr_X4_copyFrom {T : TT} {g : Nat} {g2 : Nat} {res : TT} (h : m_X4_copyFrom T g g2 = some res) : Fr (fun a b => (a = g ∧ b = 2) ∨ (a = g ∧ b = 3) ∨ (a = g ∧ b = 4) ∨ (a = g ∧ b = 5) ∨ (a = g ∧ b = 6) ∨ (a = g ∧ b = 7)) (fun a b => (a = g ∧ b = 10) ∨ (a = g ∧ b = 11) ∨ (a = g ∧ b = 7) ∨ (a = g ∧ b = 8) ∨ (a = g ∧ b = 9)) (fun _ _ => False) T res := by
  unfold m_X4_copyFrom at h
  have F0 : Fr (fun a b => (a = g ∧ b = 2) ∨ (a = g ∧ b = 3) ∨ (a = g ∧ b = 4) ∨ (a = g ∧ b = 5) ∨ (a = g ∧ b = 6) ∨ (a = g ∧ b = 7)) (fun a b => (a = g ∧ b = 10) ∨ (a = g ∧ b = 11) ∨ (a = g ∧ b = 7) ∨ (a = g ∧ b = 8) ∨ (a = g ∧ b = 9)) (fun _ _ => False) T T := Fr.rf
  obtain ⟨gi, h⟩ := gd h
  obtain ⟨T1, eT1, h⟩ := bTe h
  have FT1 := (F0.wC eT1 (Or.inl ⟨rfl, rfl⟩))
  obtain ⟨gi, h⟩ := gd h
  obtain ⟨T2, eT2, h⟩ := bTe h
  have FT2 := (FT1.wC eT2 (Or.inr (Or.inl ⟨rfl, rfl⟩)))
  obtain ⟨gi, h⟩ := gd h
  obtain ⟨T3, eT3, h⟩ := bTe h
  have FT3 := (FT2.wC eT3 (Or.inr (Or.inr (Or.inl ⟨rfl, rfl⟩))))
  obtain ⟨gi, h⟩ := gd h
  obtain ⟨T4, eT4, h⟩ := bTe h
  have FT4 := (FT3.wC eT4 (Or.inr (Or.inr (Or.inr (Or.inl ⟨rfl, rfl⟩)))))
  obtain ⟨gi, h⟩ := gd h
  obtain ⟨T5, eT5, h⟩ := bTe h
  have FT5 := (FT4.wC eT5 (Or.inr (Or.inr (Or.inr (Or.inr (Or.inl ⟨rfl, rfl⟩))))))
  obtain ⟨gi, h⟩ := gd h
  obtain ⟨T6, eT6, h⟩ := bTe h
  have FT6 := (FT5.wC eT6 (Or.inr (Or.inr (Or.inr (Or.inr (Or.inr ⟨rfl, rfl⟩))))))
  obtain ⟨T7, eT7, h⟩ := bTe h
  have FT7 := (FT6.wI eT7 (Or.inr (Or.inr (Or.inl ⟨rfl, rfl⟩))))
  obtain ⟨T8, eT8, h⟩ := bTe h
  have FT8 := (FT7.wI eT8 (Or.inr (Or.inr (Or.inr (Or.inl ⟨rfl, rfl⟩)))))
  obtain ⟨T9, eT9, h⟩ := bTe h
  have FT9 := (FT8.wI eT9 (Or.inr (Or.inr (Or.inr (Or.inr ⟨rfl, rfl⟩)))))
  obtain ⟨T10, eT10, h⟩ := bTe h
  have FT10 := (FT9.wI eT10 (Or.inl ⟨rfl, rfl⟩))
  obtain ⟨T11, eT11, h⟩ := bTe h
  have FT11 := (FT10.wI eT11 (Or.inr (Or.inl ⟨rfl, rfl⟩)))
  have hq := some_i h
  subst hq
  exact FT11
set_option maxHeartbeats 4000000 in
set_option maxRecDepth 100000 in
theorem fr_X4_addDriver {T : TT} {g : Nat} {x1 : Int32} {x2 : Int32} {res : Int32 × TT} (h : m_X4_addDriver T g x1 x2 = some res) : Fr (fun a b => (a = g ∧ b = 2) ∨ (a = g ∧ b = 3) ∨ (a = g ∧ b = 4)) (fun a b => (a = g ∧ b = 11) ∨ (a = g ∧ b = 7)) (fun _ _ => False) T res.2 := by
  unfold m_X4_addDriver at h
  have F0 : Fr (fun a b => (a = g ∧ b = 2) ∨ (a = g ∧ b = 3) ∨ (a = g ∧ b = 4)) (fun a b => (a = g ∧ b = 11) ∨ (a = g ∧ b = 7)) (fun _ _ => False) T T := Fr.rf
  obtain ⟨z1, ez1, h⟩ := bnd h
  rcases ifo h with h | h
  · obtain ⟨y2, ey2, h⟩ := bTe h
    obtain ⟨gi, h⟩ := gd h
    obtain ⟨T3, eT3, h⟩ := bTe h
    have FT3 := (F0.wA eT3 (Or.inl ⟨rfl, rfl⟩))
    obtain ⟨gi, h⟩ := gd h
    obtain ⟨T4, eT4, h⟩ := bTe h
    have FT4 := (FT3.wA eT4 (Or.inr (Or.inl ⟨rfl, rfl⟩)))
    obtain ⟨gi, h⟩ := gd h
    obtain ⟨T5, eT5, h⟩ := bTe h
    have FT5 := (FT4.wA eT5 (Or.inr (Or.inr ⟨rfl, rfl⟩)))
    obtain ⟨T6, eT6, h⟩ := bTe h
    have FT6 := (FT5.wI eT6 (Or.inr ⟨rfl, rfl⟩))
    obtain ⟨T7, eT7, h⟩ := bTe h
    have FT7 := (FT6.wI eT7 (Or.inl ⟨rfl, rfl⟩))
    have hq := some_i h
    subst hq
    exact FT7
  · have hq := some_i h
    subst hq
    exact F0
set_option maxHeartbeats 4000000 in
set_option maxRecDepth 100000 in
theorem fr_X4_act_b41 {g : Nat} {res : Int32 × TT} {T : TT} {x1 : Int32} {x2 : Int32} {hx3 : Nat × Nat} {s0 : Int32} (h : m_X4_act_b41 g T x1 x2 hx3 s0 = some res) : Fr (fun a b => (a = g ∧ b = 3) ∨ (a = g ∧ b = 4)) (fun _ _ => False) (fun _ _ => False) T res.2 := by
  unfold m_X4_act_b41 at h
  have F0 : Fr (fun a b => (a = g ∧ b = 3) ∨ (a = g ∧ b = 4)) (fun _ _ => False) (fun _ _ => False) T T := Fr.rf
  obtain ⟨gi, h⟩ := gd h
  obtain ⟨gi, h⟩ := gd h
  obtain ⟨T7, eT7, h⟩ := bTe h
  have FT7 := (F0.wA eT7 (Or.inr ⟨rfl, rfl⟩))
  obtain ⟨gi, h⟩ := gd h
  obtain ⟨z8, ez8, h⟩ := bnd h
  obtain ⟨gi, h⟩ := gd h
  obtain ⟨T9, eT9, h⟩ := bTe h
  have FT9 := (FT7.wA eT9 (Or.inl ⟨rfl, rfl⟩))
  have hq := some_i h
  subst hq
  exact FT9
set_option maxHeartbeats 4000000 in
set_option maxRecDepth 100000 in
theorem fr_X4_act {T : TT} {g : Nat} {x1 : Int32} {x2 : Int32} {res : Int32 × TT} (h : m_X4_act T g x1 x2 = some res) : Fr (fun a b => (a = g ∧ b = 3) ∨ (a = g ∧ b = 4)) (fun _ _ => False) (fun _ _ => False) T res.2 := by
  unfold m_X4_act at h
  have F0 : Fr (fun a b => (a = g ∧ b = 3) ∨ (a = g ∧ b = 4)) (fun _ _ => False) (fun _ _ => False) T T := Fr.rf
  obtain ⟨z1, ez1, h⟩ := bnd h
  rcases ifo h with h | h
  · have hq := some_i h
    subst hq
    exact F0
  · obtain ⟨z2, ez2, h⟩ := bnd h
    rcases ifo h with h | h
    · obtain ⟨z3, ez3, h⟩ := bnd h
      obtain ⟨gi, h⟩ := gd h
      obtain ⟨z4, ez4, h⟩ := bnd h
      exact F0.trans (fr_X4_act_b41 h)
    · exact F0.trans (fr_X4_act_b41 h)
set_option maxHeartbeats 4000000 in
set_option maxRecDepth 100000 in
theorem fr_X4_passDays_b55 {g : Nat} {rec6 : TT → Int32 → Int32 → Int32 → Int32 → Int32 → Option (Int32 × TT)} {rec25 : TT → Int32 → Int32 → Int32 → Int32 → Int32 → Int32 → Option (Int32 × TT)} {res : Int32 × TT} (hrec6 : ∀ {T : TT} {x1 : Int32} {x2 : Int32} {x3 : Int32} {x4 : Int32} {x5 : Int32}, rec6 T x1 x2 x3 x4 x5 = some res → Fr (fun a b => (a = g ∧ b = 3) ∨ (a = g ∧ b = 4)) (fun a b => (a = g ∧ b = 8)) (fun _ _ => False) T res.2) (hrec25 : ∀ {T : TT} {x1 : Int32} {x2 : Int32} {x3 : Int32} {x4 : Int32} {x5 : Int32} {x6 : Int32}, rec25 T x1 x2 x3 x4 x5 x6 = some res → Fr (fun a b => (a = g ∧ b = 3) ∨ (a = g ∧ b = 4)) (fun a b => (a = g ∧ b = 8)) (fun _ _ => False) T res.2) {T : TT} {x1 : Int32} {x2 : Int32} {x3 : Int32} {x5 : Int32} {x6 : Int32} {s0 : Int32} {s2 : Int32} {s3 : Int32} (h : m_X4_passDays_b55 g rec6 rec25 T x1 x2 x3 x5 x6 s0 s2 s3 = some res) : Fr (fun a b => (a = g ∧ b = 3) ∨ (a = g ∧ b = 4)) (fun a b => (a = g ∧ b = 8)) (fun _ _ => False) T res.2 := by
  unfold m_X4_passDays_b55 at h
  have F0 : Fr (fun a b => (a = g ∧ b = 3) ∨ (a = g ∧ b = 4)) (fun a b => (a = g ∧ b = 8)) (fun _ _ => False) T T := Fr.rf
  obtain ⟨z8, ez8, h⟩ := bnd h
  have Fz8 := F0.trans ((fr_X4_act ez8).mono (fun a b h => h) (fun a b h => False.elim h) (fun a b h => False.elim h))
  obtain ⟨y9, ey9, h⟩ := bTe h
  obtain ⟨y10, ey10, h⟩ := bTe h
  exact Fz8.trans (hrec25 h)
set_option maxHeartbeats 4000000 in
set_option maxRecDepth 100000 in
theorem fr_X4_passDays_b50 {g : Nat} {rec6 : TT → Int32 → Int32 → Int32 → Int32 → Int32 → Option (Int32 × TT)} {rec25 : TT → Int32 → Int32 → Int32 → Int32 → Int32 → Int32 → Option (Int32 × TT)} {res : Int32 × TT} (hrec6 : ∀ {T : TT} {x1 : Int32} {x2 : Int32} {x3 : Int32} {x4 : Int32} {x5 : Int32}, rec6 T x1 x2 x3 x4 x5 = some res → Fr (fun a b => (a = g ∧ b = 3) ∨ (a = g ∧ b = 4)) (fun a b => (a = g ∧ b = 8)) (fun _ _ => False) T res.2) (hrec25 : ∀ {T : TT} {x1 : Int32} {x2 : Int32} {x3 : Int32} {x4 : Int32} {x5 : Int32} {x6 : Int32}, rec25 T x1 x2 x3 x4 x5 x6 = some res → Fr (fun a b => (a = g ∧ b = 3) ∨ (a = g ∧ b = 4)) (fun a b => (a = g ∧ b = 8)) (fun _ _ => False) T res.2) {T : TT} {x1 : Int32} {x2 : Int32} {x3 : Int32} {x5 : Int32} {x6 : Int32} {s0 : Int32} {s2 : Int32} (h : m_X4_passDays_b50 g rec6 rec25 T x1 x2 x3 x5 x6 s0 s2 = some res) : Fr (fun a b => (a = g ∧ b = 3) ∨ (a = g ∧ b = 4)) (fun a b => (a = g ∧ b = 8)) (fun _ _ => False) T res.2 := by
  unfold m_X4_passDays_b50 at h
  have F0 : Fr (fun a b => (a = g ∧ b = 3) ∨ (a = g ∧ b = 4)) (fun a b => (a = g ∧ b = 8)) (fun _ _ => False) T T := Fr.rf
  exact F0.trans (fr_X4_passDays_b55 hrec6 hrec25 h)
set_option maxHeartbeats 4000000 in
set_option maxRecDepth 100000 in
theorem fr_X4_passDays_h25 {g : Nat} {rec6 : TT → Int32 → Int32 → Int32 → Int32 → Int32 → Option (Int32 × TT)} {rec25 : TT → Int32 → Int32 → Int32 → Int32 → Int32 → Int32 → Option (Int32 × TT)} {res : Int32 × TT} (hrec6 : ∀ {T : TT} {x1 : Int32} {x2 : Int32} {x3 : Int32} {x4 : Int32} {x5 : Int32}, rec6 T x1 x2 x3 x4 x5 = some res → Fr (fun a b => (a = g ∧ b = 3) ∨ (a = g ∧ b = 4)) (fun a b => (a = g ∧ b = 8)) (fun _ _ => False) T res.2) (hrec25 : ∀ {T : TT} {x1 : Int32} {x2 : Int32} {x3 : Int32} {x4 : Int32} {x5 : Int32} {x6 : Int32}, rec25 T x1 x2 x3 x4 x5 x6 = some res → Fr (fun a b => (a = g ∧ b = 3) ∨ (a = g ∧ b = 4)) (fun a b => (a = g ∧ b = 8)) (fun _ _ => False) T res.2) {T : TT} {x1 : Int32} {x2 : Int32} {x3 : Int32} {x4 : Int32} {x5 : Int32} {x6 : Int32} (h : m_X4_passDays_h25 g rec6 rec25 T x1 x2 x3 x4 x5 x6 = some res) : Fr (fun a b => (a = g ∧ b = 3) ∨ (a = g ∧ b = 4)) (fun a b => (a = g ∧ b = 8)) (fun _ _ => False) T res.2 := by
  unfold m_X4_passDays_h25 at h
  have F0 : Fr (fun a b => (a = g ∧ b = 3) ∨ (a = g ∧ b = 4)) (fun a b => (a = g ∧ b = 8)) (fun _ _ => False) T T := Fr.rf
  rcases ifo h with h | h
  · obtain ⟨T3, eT3, h⟩ := bTe h
    have FT3 := (F0.wI eT3 ⟨rfl, rfl⟩)
    obtain ⟨y4, ey4, h⟩ := bTe h
    exact FT3.trans (hrec6 h)
  · rcases ifo h with h | h
    · exact F0.trans (fr_X4_passDays_b50 hrec6 hrec25 h)
    · rcases ifo h with h | h
      · exact F0.trans (fr_X4_passDays_b50 hrec6 hrec25 h)
      · exact F0.trans (fr_X4_passDays_b55 hrec6 hrec25 h)
set_option maxHeartbeats 4000000 in
set_option maxRecDepth 100000 in
theorem fr_X4_passDays_l25 {g : Nat} {rec6 : TT → Int32 → Int32 → Int32 → Int32 → Int32 → Option (Int32 × TT)} {res : Int32 × TT} (hrec6 : ∀ {T : TT} {x1 : Int32} {x2 : Int32} {x3 : Int32} {x4 : Int32} {x5 : Int32}, rec6 T x1 x2 x3 x4 x5 = some res → Fr (fun a b => (a = g ∧ b = 3) ∨ (a = g ∧ b = 4)) (fun a b => (a = g ∧ b = 8)) (fun _ _ => False) T res.2) : ∀ (n : Nat) {T : TT} {x1 : Int32} {x2 : Int32} {x3 : Int32} {x4 : Int32} {x5 : Int32} {x6 : Int32} (h : m_X4_passDays_l25 g rec6 n T x1 x2 x3 x4 x5 x6 = some res), Fr (fun a b => (a = g ∧ b = 3) ∨ (a = g ∧ b = 4)) (fun a b => (a = g ∧ b = 8)) (fun _ _ => False) T res.2 := by
  intro n
  induction n with
  | zero =>
    intro T x1 x2 x3 x4 x5 x6 h
    exact no_some h
  | succ n ih =>
    intro T x1 x2 x3 x4 x5 x6 h
    have h : m_X4_passDays_h25 g rec6 (m_X4_passDays_l25 g rec6 n) T x1 x2 x3 x4 x5 x6 = some res := h
    exact fr_X4_passDays_h25 (rec25 := m_X4_passDays_l25 g rec6 n) hrec6 (fun h => ih h) h
set_option maxHeartbeats 4000000 in
set_option maxRecDepth 100000 in
theorem fr_X4_passDays_h6 {g : Nat} {rec6 : TT → Int32 → Int32 → Int32 → Int32 → Int32 → Option (Int32 × TT)} {res : Int32 × TT} (hrec6 : ∀ {T : TT} {x1 : Int32} {x2 : Int32} {x3 : Int32} {x4 : Int32} {x5 : Int32}, rec6 T x1 x2 x3 x4 x5 = some res → Fr (fun a b => (a = g ∧ b = 3) ∨ (a = g ∧ b = 4)) (fun a b => (a = g ∧ b = 8)) (fun _ _ => False) T res.2) {T : TT} {x1 : Int32} {x2 : Int32} {x3 : Int32} {x4 : Int32} {x5 : Int32} (h : m_X4_passDays_h6 g rec6 T x1 x2 x3 x4 x5 = some res) : Fr (fun a b => (a = g ∧ b = 3) ∨ (a = g ∧ b = 4)) (fun a b => (a = g ∧ b = 8)) (fun _ _ => False) T res.2 := by
  unfold m_X4_passDays_h6 at h
  have F0 : Fr (fun a b => (a = g ∧ b = 3) ∨ (a = g ∧ b = 4)) (fun a b => (a = g ∧ b = 8)) (fun _ _ => False) T T := Fr.rf
  rcases ifo h with h | h
  · have hq := some_i h
    subst hq
    exact F0
  · rcases ifo h with h | h
    · have hq := some_i h
      subst hq
      exact F0
    · exact F0.trans (fr_X4_passDays_l25 hrec6 _ h)
set_option maxHeartbeats 4000000 in
set_option maxRecDepth 100000 in
theorem fr_X4_passDays_l6 {g : Nat} {res : Int32 × TT} : ∀ (n : Nat) {T : TT} {x1 : Int32} {x2 : Int32} {x3 : Int32} {x4 : Int32} {x5 : Int32} (h : m_X4_passDays_l6 g n T x1 x2 x3 x4 x5 = some res), Fr (fun a b => (a = g ∧ b = 3) ∨ (a = g ∧ b = 4)) (fun a b => (a = g ∧ b = 8)) (fun _ _ => False) T res.2 := by
  intro n
  induction n with
  | zero =>
    intro T x1 x2 x3 x4 x5 h
    exact no_some h
  | succ n ih =>
    intro T x1 x2 x3 x4 x5 h
    have h : m_X4_passDays_h6 g (m_X4_passDays_l6 g n) T x1 x2 x3 x4 x5 = some res := h
    exact fr_X4_passDays_h6 (rec6 := m_X4_passDays_l6 g n) (fun h => ih h) h
set_option maxHeartbeats 4000000 in
set_option maxRecDepth 100000 in
theorem fr_X4_passDays {T : TT} {g : Nat} {x1 : Int32} {x2 : Int32} {x3 : Int32} {res : Int32 × TT} (h : m_X4_passDays T g x1 x2 x3 = some res) : Fr (fun a b => (a = g ∧ b = 3) ∨ (a = g ∧ b = 4)) (fun a b => (a = g ∧ b = 8)) (fun _ _ => False) T res.2 := by
  unfold m_X4_passDays at h
  have F0 : Fr (fun a b => (a = g ∧ b = 3) ∨ (a = g ∧ b = 4)) (fun a b => (a = g ∧ b = 8)) (fun _ _ => False) T T := Fr.rf
  exact F0.trans (fr_X4_passDays_l6 _ h)
set_option maxHeartbeats 4000000 in
set_option maxRecDepth 100000 in
theorem fr_X4_remember_b48 {g : Nat} {res : TT} {T : TT} (h : m_X4_remember_b48 g T = some res) : Fr (fun a b => (a = g ∧ b = 7)) (fun a b => (a = g ∧ b = 11)) (fun _ _ => False) T res := by
  unfold m_X4_remember_b48 at h
  have F0 : Fr (fun a b => (a = g ∧ b = 7)) (fun a b => (a = g ∧ b = 11)) (fun _ _ => False) T T := Fr.rf
  obtain ⟨y5, ey5, h⟩ := bTe h
  obtain ⟨gi, h⟩ := gd h
  obtain ⟨T6, eT6, h⟩ := bTe h
  have FT6 := (F0.wA eT6 ⟨rfl, rfl⟩)
  obtain ⟨gi, h⟩ := gd h
  obtain ⟨T7, eT7, h⟩ := bTe h
  have FT7 := (FT6.wC eT7 ⟨rfl, rfl⟩)
  obtain ⟨gi, h⟩ := gd h
  obtain ⟨T8, eT8, h⟩ := bTe h
  have FT8 := (FT7.wC eT8 ⟨rfl, rfl⟩)
  obtain ⟨T9, eT9, h⟩ := bTe h
  have FT9 := (FT8.wI eT9 ⟨rfl, rfl⟩)
  have hq := some_i h
  subst hq
  exact FT9
set_option maxHeartbeats 4000000 in
set_option maxRecDepth 100000 in
theorem fr_X4_remember {T : TT} {g : Nat} {res : TT} (h : m_X4_remember T g = some res) : Fr (fun a b => (a = g ∧ b = 7)) (fun a b => (a = g ∧ b = 11)) (fun _ _ => False) T res := by
  unfold m_X4_remember at h
  have F0 : Fr (fun a b => (a = g ∧ b = 7)) (fun a b => (a = g ∧ b = 11)) (fun _ _ => False) T T := Fr.rf
  rcases ifo h with h | h
  · rcases ifo h with h | h
    · exact F0.trans (fr_X4_remember_b48 h)
    · obtain ⟨gi, h⟩ := gd h
      obtain ⟨T1, eT1, h⟩ := bTe h
      have FT1 := (F0.wC eT1 ⟨rfl, rfl⟩)
      obtain ⟨T2, eT2, h⟩ := bTe h
      have FT2 := (FT1.wI eT2 ⟨rfl, rfl⟩)
      exact FT2.trans (fr_X4_remember_b48 h)
  · have hq := some_i h
    subst hq
    exact F0
set_option maxHeartbeats 4000000 in
set_option maxRecDepth 100000 in
theorem fr_X4_takeBack {T : TT} {g : Nat} {res : TT} (h : m_X4_takeBack T g = some res) : Fr (fun a b => (a = g ∧ b = 3) ∨ (a = g ∧ b = 4)) (fun a b => (a = g ∧ b = 11) ∨ (a = g ∧ b = 8)) (fun _ _ => False) T res := by
  unfold m_X4_takeBack at h
  have F0 : Fr (fun a b => (a = g ∧ b = 3) ∨ (a = g ∧ b = 4)) (fun a b => (a = g ∧ b = 11) ∨ (a = g ∧ b = 8)) (fun _ _ => False) T T := Fr.rf
  rcases ifo h with h | h
  · obtain ⟨T1, eT1, h⟩ := bTe h
    have FT1 := (F0.wI eT1 (Or.inl ⟨rfl, rfl⟩))
    obtain ⟨y2, ey2, h⟩ := bTe h
    obtain ⟨gi, h⟩ := gd h
    obtain ⟨T3, eT3, h⟩ := bTe h
    have FT3 := (FT1.wI eT3 (Or.inr ⟨rfl, rfl⟩))
    obtain ⟨gi, h⟩ := gd h
    obtain ⟨T4, eT4, h⟩ := bTe h
    have FT4 := (FT3.wC eT4 (Or.inl ⟨rfl, rfl⟩))
    obtain ⟨gi, h⟩ := gd h
    obtain ⟨T5, eT5, h⟩ := bTe h
    have FT5 := (FT4.wC eT5 (Or.inr ⟨rfl, rfl⟩))
    have hq := some_i h
    subst hq
    exact FT5
  · have hq := some_i h
    subst hq
    exact F0
set_option maxHeartbeats 4000000 in
set_option maxRecDepth 100000 in
theorem fr_X4_addNote {T : TT} {g : Nat} {x1 : Int32} {x2 : Int32} {x3 : Int32} {x4 : Int32} {x5 : Int32} {x6 : Int32} {res : Int32 × TT} (h : m_X4_addNote T g x1 x2 x3 x4 x5 x6 = some res) : Fr (fun a b => (a = g ∧ b = 5)) (fun a b => (a = g ∧ b = 9)) (fun _ _ => False) T res.2 := by
  unfold m_X4_addNote at h
  have F0 : Fr (fun a b => (a = g ∧ b = 5)) (fun a b => (a = g ∧ b = 9)) (fun _ _ => False) T T := Fr.rf
  rcases ifo h with h | h
  · obtain ⟨y1, ey1, h⟩ := bTe h
    obtain ⟨gi, h⟩ := gd h
    obtain ⟨T2, eT2, h⟩ := bTe h
    have FT2 := (F0.wA eT2 ⟨rfl, rfl⟩)
    obtain ⟨gi, h⟩ := gd h
    obtain ⟨T3, eT3, h⟩ := bTe h
    have FT3 := (FT2.wA eT3 ⟨rfl, rfl⟩)
    obtain ⟨gi, h⟩ := gd h
    obtain ⟨T4, eT4, h⟩ := bTe h
    have FT4 := (FT3.wA eT4 ⟨rfl, rfl⟩)
    obtain ⟨gi, h⟩ := gd h
    obtain ⟨T5, eT5, h⟩ := bTe h
    have FT5 := (FT4.wA eT5 ⟨rfl, rfl⟩)
    obtain ⟨gi, h⟩ := gd h
    obtain ⟨T6, eT6, h⟩ := bTe h
    have FT6 := (FT5.wA eT6 ⟨rfl, rfl⟩)
    obtain ⟨gi, h⟩ := gd h
    obtain ⟨T7, eT7, h⟩ := bTe h
    have FT7 := (FT6.wA eT7 ⟨rfl, rfl⟩)
    obtain ⟨T8, eT8, h⟩ := bTe h
    have FT8 := (FT7.wI eT8 ⟨rfl, rfl⟩)
    have hq := some_i h
    subst hq
    exact FT8
  · have hq := some_i h
    subst hq
    exact F0
set_option maxHeartbeats 4000000 in
set_option maxRecDepth 100000 in
theorem fr_X4_addTrip {T : TT} {g : Nat} {x1 : Int32} {x2 : Int32} {x3 : Int32} {res : Int32 × TT} (h : m_X4_addTrip T g x1 x2 x3 = some res) : Fr (fun a b => (a = g ∧ b = 6)) (fun a b => (a = g ∧ b = 10)) (fun _ _ => False) T res.2 := by
  unfold m_X4_addTrip at h
  have F0 : Fr (fun a b => (a = g ∧ b = 6)) (fun a b => (a = g ∧ b = 10)) (fun _ _ => False) T T := Fr.rf
  rcases ifo h with h | h
  · obtain ⟨y1, ey1, h⟩ := bTe h
    obtain ⟨gi, h⟩ := gd h
    obtain ⟨T2, eT2, h⟩ := bTe h
    have FT2 := (F0.wA eT2 ⟨rfl, rfl⟩)
    obtain ⟨gi, h⟩ := gd h
    obtain ⟨T3, eT3, h⟩ := bTe h
    have FT3 := (FT2.wA eT3 ⟨rfl, rfl⟩)
    obtain ⟨gi, h⟩ := gd h
    obtain ⟨T4, eT4, h⟩ := bTe h
    have FT4 := (FT3.wA eT4 ⟨rfl, rfl⟩)
    obtain ⟨T5, eT5, h⟩ := bTe h
    have FT5 := (FT4.wI eT5 ⟨rfl, rfl⟩)
    have hq := some_i h
    subst hq
    exact FT5
  · have hq := some_i h
    subst hq
    exact F0
set_option maxHeartbeats 4000000 in
set_option maxRecDepth 100000 in
theorem fr_X5_spread_b43 {rec2 : TT → Int32 → Int32 → Int32 → Option (TT)} {res : TT} (hrec2 : ∀ {T : TT} {x1 : Int32} {x2 : Int32} {x3 : Int32}, rec2 T x1 x2 x3 = some res → Fr (fun a b => a = 8) (fun _ _ => False) (fun _ _ => False) T res) {T : TT} {x1 : Int32} {x2 : Int32} {x3 : Int32} {x4 : Int32} {s0 : Int32} (h : m_X5_spread_b43 rec2 T x1 x2 x3 x4 s0 = some res) : Fr (fun a b => a = 8) (fun _ _ => False) (fun _ _ => False) T res := by
  unfold m_X5_spread_b43 at h
  have F0 : Fr (fun a b => a = 8) (fun _ _ => False) (fun _ _ => False) T T := Fr.rf
  obtain ⟨gi, h⟩ := gd h
  obtain ⟨gi, h⟩ := gd h
  obtain ⟨gi, h⟩ := gd h
  obtain ⟨gi, h⟩ := gd h
  obtain ⟨gi, h⟩ := gd h
  obtain ⟨gi, h⟩ := gd h
  obtain ⟨T11, eT11, h⟩ := bTe h
  have FT11 := (F0.wA eT11 rfl)
  obtain ⟨y12, ey12, h⟩ := bTe h
  exact FT11.trans (hrec2 h)
set_option maxHeartbeats 4000000 in
set_option maxRecDepth 100000 in
theorem fr_X5_spread_h2 {rec2 : TT → Int32 → Int32 → Int32 → Option (TT)} {res : TT} (hrec2 : ∀ {T : TT} {x1 : Int32} {x2 : Int32} {x3 : Int32}, rec2 T x1 x2 x3 = some res → Fr (fun a b => a = 8) (fun _ _ => False) (fun _ _ => False) T res) {T : TT} {x1 : Int32} {x2 : Int32} {x3 : Int32} (h : m_X5_spread_h2 rec2 T x1 x2 x3 = some res) : Fr (fun a b => a = 8) (fun _ _ => False) (fun _ _ => False) T res := by
  unfold m_X5_spread_h2 at h
  have F0 : Fr (fun a b => a = 8) (fun _ _ => False) (fun _ _ => False) T T := Fr.rf
  rcases ifo h with h | h
  · have hq := some_i h
    subst hq
    exact F0
  · obtain ⟨z2, ez2, h⟩ := bnd h
    rcases ifo h with h | h
    · obtain ⟨z4, ez4, h⟩ := bnd h
      obtain ⟨z5, ez5, h⟩ := bnd h
      exact F0.trans (fr_X5_spread_b43 hrec2 h)
    · exact F0.trans (fr_X5_spread_b43 hrec2 h)
set_option maxHeartbeats 4000000 in
set_option maxRecDepth 100000 in
theorem fr_X5_spread_l2 {res : TT} : ∀ (n : Nat) {T : TT} {x1 : Int32} {x2 : Int32} {x3 : Int32} (h : m_X5_spread_l2 n T x1 x2 x3 = some res), Fr (fun a b => a = 8) (fun _ _ => False) (fun _ _ => False) T res := by
  intro n
  induction n with
  | zero =>
    intro T x1 x2 x3 h
    exact no_some h
  | succ n ih =>
    intro T x1 x2 x3 h
    have h : m_X5_spread_h2 (m_X5_spread_l2 n) T x1 x2 x3 = some res := h
    exact fr_X5_spread_h2 (rec2 := m_X5_spread_l2 n) (fun h => ih h) h
set_option maxHeartbeats 4000000 in
set_option maxRecDepth 100000 in
theorem fr_X5_spread {T : TT} {x1 : Int32} {x2 : Int32} {res : TT} (h : m_X5_spread T x1 x2 = some res) : Fr (fun a b => a = 8) (fun _ _ => False) (fun _ _ => False) T res := by
  unfold m_X5_spread at h
  have F0 : Fr (fun a b => a = 8) (fun _ _ => False) (fun _ _ => False) T T := Fr.rf
  exact F0.trans (fr_X5_spread_l2 _ h)
set_option maxHeartbeats 4000000 in
set_option maxRecDepth 100000 in
theorem fr_X5_reckonBefore_b87 {rec53 : TT → Int32 → Option (TT)} {rec63 : TT → Int32 → Int32 → Option (TT)} {res : TT} (hrec53 : ∀ {T : TT} {x1 : Int32}, rec53 T x1 = some res → Fr (fun a b => a = 8) (fun _ _ => False) (fun _ _ => False) T res) (hrec63 : ∀ {T : TT} {x1 : Int32} {x2 : Int32}, rec63 T x1 x2 = some res → Fr (fun a b => a = 8) (fun _ _ => False) (fun _ _ => False) T res) {T : TT} {x1 : Int32} {x2 : Int32} (h : m_X5_reckonBefore_b87 rec53 rec63 T x1 x2 = some res) : Fr (fun a b => a = 8) (fun _ _ => False) (fun _ _ => False) T res := by
  unfold m_X5_reckonBefore_b87 at h
  have F0 : Fr (fun a b => a = 8) (fun _ _ => False) (fun _ _ => False) T T := Fr.rf
  obtain ⟨y15, ey15, h⟩ := bTe h
  exact F0.trans (hrec63 h)
set_option maxHeartbeats 4000000 in
set_option maxRecDepth 100000 in
theorem fr_X5_reckonBefore_h63 {rec53 : TT → Int32 → Option (TT)} {rec63 : TT → Int32 → Int32 → Option (TT)} {res : TT} (hrec53 : ∀ {T : TT} {x1 : Int32}, rec53 T x1 = some res → Fr (fun a b => a = 8) (fun _ _ => False) (fun _ _ => False) T res) (hrec63 : ∀ {T : TT} {x1 : Int32} {x2 : Int32}, rec63 T x1 x2 = some res → Fr (fun a b => a = 8) (fun _ _ => False) (fun _ _ => False) T res) {T : TT} {x1 : Int32} {x2 : Int32} (h : m_X5_reckonBefore_h63 rec53 rec63 T x1 x2 = some res) : Fr (fun a b => a = 8) (fun _ _ => False) (fun _ _ => False) T res := by
  unfold m_X5_reckonBefore_h63 at h
  have F0 : Fr (fun a b => a = 8) (fun _ _ => False) (fun _ _ => False) T T := Fr.rf
  rcases ifo h with h | h
  · obtain ⟨y10, ey10, h⟩ := bTe h
    exact F0.trans (hrec53 h)
  · obtain ⟨gi, h⟩ := gd h
    obtain ⟨gi, h⟩ := gd h
    rcases ifo h with h | h
    · exact F0.trans (fr_X5_reckonBefore_b87 hrec53 hrec63 h)
    · obtain ⟨z12, ez12, h⟩ := bnd h
      have Fz12 := F0.trans ((fr_X5_spread ez12).mono (fun a b h => h) (fun a b h => False.elim h) (fun a b h => False.elim h))
      exact Fz12.trans (fr_X5_reckonBefore_b87 hrec53 hrec63 h)
set_option maxHeartbeats 4000000 in
set_option maxRecDepth 100000 in
theorem fr_X5_reckonBefore_l63 {rec53 : TT → Int32 → Option (TT)} {res : TT} (hrec53 : ∀ {T : TT} {x1 : Int32}, rec53 T x1 = some res → Fr (fun a b => a = 8) (fun _ _ => False) (fun _ _ => False) T res) : ∀ (n : Nat) {T : TT} {x1 : Int32} {x2 : Int32} (h : m_X5_reckonBefore_l63 rec53 n T x1 x2 = some res), Fr (fun a b => a = 8) (fun _ _ => False) (fun _ _ => False) T res := by
  intro n
  induction n with
  | zero =>
    intro T x1 x2 h
    exact no_some h
  | succ n ih =>
    intro T x1 x2 h
    have h : m_X5_reckonBefore_h63 rec53 (m_X5_reckonBefore_l63 rec53 n) T x1 x2 = some res := h
    exact fr_X5_reckonBefore_h63 (rec63 := m_X5_reckonBefore_l63 rec53 n) hrec53 (fun h => ih h) h
set_option maxHeartbeats 4000000 in
set_option maxRecDepth 100000 in
theorem fr_X5_reckonBefore_h53 {rec53 : TT → Int32 → Option (TT)} {res : TT} (hrec53 : ∀ {T : TT} {x1 : Int32}, rec53 T x1 = some res → Fr (fun a b => a = 8) (fun _ _ => False) (fun _ _ => False) T res) {T : TT} {x1 : Int32} (h : m_X5_reckonBefore_h53 rec53 T x1 = some res) : Fr (fun a b => a = 8) (fun _ _ => False) (fun _ _ => False) T res := by
  unfold m_X5_reckonBefore_h53 at h
  have F0 : Fr (fun a b => a = 8) (fun _ _ => False) (fun _ _ => False) T T := Fr.rf
  rcases ifo h with h | h
  · have hq := some_i h
    subst hq
    exact F0
  · exact F0.trans (fr_X5_reckonBefore_l63 hrec53 _ h)
set_option maxHeartbeats 4000000 in
set_option maxRecDepth 100000 in
theorem fr_X5_reckonBefore_l53 {res : TT} : ∀ (n : Nat) {T : TT} {x1 : Int32} (h : m_X5_reckonBefore_l53 n T x1 = some res), Fr (fun a b => a = 8) (fun _ _ => False) (fun _ _ => False) T res := by
  intro n
  induction n with
  | zero =>
    intro T x1 h
    exact no_some h
  | succ n ih =>
    intro T x1 h
    have h : m_X5_reckonBefore_h53 (m_X5_reckonBefore_l53 n) T x1 = some res := h
    exact fr_X5_reckonBefore_h53 (rec53 := m_X5_reckonBefore_l53 n) (fun h => ih h) h
set_option maxHeartbeats 4000000 in
set_option maxRecDepth 100000 in
theorem fr_X5_reckonBefore_h12 {rec2 : TT → Int32 → Option (TT)} {rec12 : TT → Int32 → Int32 → Option (TT)} {res : TT} (hrec2 : ∀ {T : TT} {x1 : Int32}, rec2 T x1 = some res → Fr (fun a b => a = 8) (fun _ _ => False) (fun _ _ => False) T res) (hrec12 : ∀ {T : TT} {x1 : Int32} {x2 : Int32}, rec12 T x1 x2 = some res → Fr (fun a b => a = 8) (fun _ _ => False) (fun _ _ => False) T res) {T : TT} {x1 : Int32} {x2 : Int32} (h : m_X5_reckonBefore_h12 rec2 rec12 T x1 x2 = some res) : Fr (fun a b => a = 8) (fun _ _ => False) (fun _ _ => False) T res := by
  unfold m_X5_reckonBefore_h12 at h
  have F0 : Fr (fun a b => a = 8) (fun _ _ => False) (fun _ _ => False) T T := Fr.rf
  rcases ifo h with h | h
  · obtain ⟨y4, ey4, h⟩ := bTe h
    exact F0.trans (hrec2 h)
  · obtain ⟨gi, h⟩ := gd h
    obtain ⟨gi, h⟩ := gd h
    obtain ⟨T6, eT6, h⟩ := bTe h
    have FT6 := (F0.wA eT6 rfl)
    obtain ⟨y7, ey7, h⟩ := bTe h
    exact FT6.trans (hrec12 h)
set_option maxHeartbeats 4000000 in
set_option maxRecDepth 100000 in
theorem fr_X5_reckonBefore_l12 {rec2 : TT → Int32 → Option (TT)} {res : TT} (hrec2 : ∀ {T : TT} {x1 : Int32}, rec2 T x1 = some res → Fr (fun a b => a = 8) (fun _ _ => False) (fun _ _ => False) T res) : ∀ (n : Nat) {T : TT} {x1 : Int32} {x2 : Int32} (h : m_X5_reckonBefore_l12 rec2 n T x1 x2 = some res), Fr (fun a b => a = 8) (fun _ _ => False) (fun _ _ => False) T res := by
  intro n
  induction n with
  | zero =>
    intro T x1 x2 h
    exact no_some h
  | succ n ih =>
    intro T x1 x2 h
    have h : m_X5_reckonBefore_h12 rec2 (m_X5_reckonBefore_l12 rec2 n) T x1 x2 = some res := h
    exact fr_X5_reckonBefore_h12 (rec12 := m_X5_reckonBefore_l12 rec2 n) hrec2 (fun h => ih h) h
set_option maxHeartbeats 4000000 in
set_option maxRecDepth 100000 in
theorem fr_X5_reckonBefore_h2 {rec2 : TT → Int32 → Option (TT)} {res : TT} (hrec2 : ∀ {T : TT} {x1 : Int32}, rec2 T x1 = some res → Fr (fun a b => a = 8) (fun _ _ => False) (fun _ _ => False) T res) {T : TT} {x1 : Int32} (h : m_X5_reckonBefore_h2 rec2 T x1 = some res) : Fr (fun a b => a = 8) (fun _ _ => False) (fun _ _ => False) T res := by
  unfold m_X5_reckonBefore_h2 at h
  have F0 : Fr (fun a b => a = 8) (fun _ _ => False) (fun _ _ => False) T T := Fr.rf
  rcases ifo h with h | h
  · obtain ⟨gi, h⟩ := gd h
    obtain ⟨gi, h⟩ := gd h
    obtain ⟨T2, eT2, h⟩ := bTe h
    have FT2 := (F0.wA eT2 rfl)
    exact FT2.trans (fr_X5_reckonBefore_l53 _ h)
  · exact F0.trans (fr_X5_reckonBefore_l12 hrec2 _ h)
set_option maxHeartbeats 4000000 in
set_option maxRecDepth 100000 in
theorem fr_X5_reckonBefore_l2 {res : TT} : ∀ (n : Nat) {T : TT} {x1 : Int32} (h : m_X5_reckonBefore_l2 n T x1 = some res), Fr (fun a b => a = 8) (fun _ _ => False) (fun _ _ => False) T res := by
  intro n
  induction n with
  | zero =>
    intro T x1 h
    exact no_some h
  | succ n ih =>
    intro T x1 h
    have h : m_X5_reckonBefore_h2 (m_X5_reckonBefore_l2 n) T x1 = some res := h
    exact fr_X5_reckonBefore_h2 (rec2 := m_X5_reckonBefore_l2 n) (fun h => ih h) h
set_option maxHeartbeats 4000000 in
set_option maxRecDepth 100000 in
theorem fr_X5_reckonBefore {T : TT} {res : TT} (h : m_X5_reckonBefore T = some res) : Fr (fun a b => a = 8) (fun _ _ => False) (fun _ _ => False) T res := by
  unfold m_X5_reckonBefore at h
  have F0 : Fr (fun a b => a = 8) (fun _ _ => False) (fun _ _ => False) T T := Fr.rf
  exact F0.trans (fr_X5_reckonBefore_l2 _ h)
set_option maxHeartbeats 4000000 in
set_option maxRecDepth 100000 in
theorem fr_X5_reckonAfter_b98 {rec5 : TT → Int32 → Option (TT)} {rec11 : TT → Int32 → Int32 → Option (TT)} {res : TT} (hrec5 : ∀ {T : TT} {x1 : Int32}, rec5 T x1 = some res → Fr (fun a b => a = 9) (fun _ _ => False) (fun _ _ => False) T res) (hrec11 : ∀ {T : TT} {x1 : Int32} {x2 : Int32}, rec11 T x1 x2 = some res → Fr (fun a b => a = 9) (fun _ _ => False) (fun _ _ => False) T res) {T : TT} {x1 : Int32} {x2 : Int32} (h : m_X5_reckonAfter_b98 rec5 rec11 T x1 x2 = some res) : Fr (fun a b => a = 9) (fun _ _ => False) (fun _ _ => False) T res := by
  unfold m_X5_reckonAfter_b98 at h
  have F0 : Fr (fun a b => a = 9) (fun _ _ => False) (fun _ _ => False) T T := Fr.rf
  obtain ⟨y17, ey17, h⟩ := bTe h
  exact F0.trans (hrec11 h)
set_option maxHeartbeats 4000000 in
set_option maxRecDepth 100000 in
theorem fr_X5_reckonAfter_h55 {rec5 : TT → Int32 → Option (TT)} {rec11 : TT → Int32 → Int32 → Option (TT)} {rec55 : TT → Int32 → Int32 → Int32 → Int32 → Option (TT)} {res : TT} (hrec5 : ∀ {T : TT} {x1 : Int32}, rec5 T x1 = some res → Fr (fun a b => a = 9) (fun _ _ => False) (fun _ _ => False) T res) (hrec11 : ∀ {T : TT} {x1 : Int32} {x2 : Int32}, rec11 T x1 x2 = some res → Fr (fun a b => a = 9) (fun _ _ => False) (fun _ _ => False) T res) (hrec55 : ∀ {T : TT} {x1 : Int32} {x2 : Int32} {x3 : Int32} {x4 : Int32}, rec55 T x1 x2 x3 x4 = some res → Fr (fun a b => a = 9) (fun _ _ => False) (fun _ _ => False) T res) {T : TT} {x1 : Int32} {x2 : Int32} {x3 : Int32} {x4 : Int32} (h : m_X5_reckonAfter_h55 rec5 rec11 rec55 T x1 x2 x3 x4 = some res) : Fr (fun a b => a = 9) (fun _ _ => False) (fun _ _ => False) T res := by
  unfold m_X5_reckonAfter_h55 at h
  have F0 : Fr (fun a b => a = 9) (fun _ _ => False) (fun _ _ => False) T T := Fr.rf
  rcases ifo h with h | h
  · exact F0.trans (fr_X5_reckonAfter_b98 hrec5 hrec11 h)
  · rcases ifo h with h | h
    · exact F0.trans (fr_X5_reckonAfter_b98 hrec5 hrec11 h)
    · obtain ⟨gi, h⟩ := gd h
      obtain ⟨gi, h⟩ := gd h
      obtain ⟨gi, h⟩ := gd h
      obtain ⟨z12, ez12, h⟩ := bnd h
      obtain ⟨gi, h⟩ := gd h
      obtain ⟨T13, eT13, h⟩ := bTe h
      have FT13 := (F0.wA eT13 rfl)
      obtain ⟨y14, ey14, h⟩ := bTe h
      exact FT13.trans (hrec55 h)
set_option maxHeartbeats 4000000 in
set_option maxRecDepth 100000 in
theorem fr_X5_reckonAfter_l55 {rec5 : TT → Int32 → Option (TT)} {rec11 : TT → Int32 → Int32 → Option (TT)} {res : TT} (hrec5 : ∀ {T : TT} {x1 : Int32}, rec5 T x1 = some res → Fr (fun a b => a = 9) (fun _ _ => False) (fun _ _ => False) T res) (hrec11 : ∀ {T : TT} {x1 : Int32} {x2 : Int32}, rec11 T x1 x2 = some res → Fr (fun a b => a = 9) (fun _ _ => False) (fun _ _ => False) T res) : ∀ (n : Nat) {T : TT} {x1 : Int32} {x2 : Int32} {x3 : Int32} {x4 : Int32} (h : m_X5_reckonAfter_l55 rec5 rec11 n T x1 x2 x3 x4 = some res), Fr (fun a b => a = 9) (fun _ _ => False) (fun _ _ => False) T res := by
  intro n
  induction n with
  | zero =>
    intro T x1 x2 x3 x4 h
    exact no_some h
  | succ n ih =>
    intro T x1 x2 x3 x4 h
    have h : m_X5_reckonAfter_h55 rec5 rec11 (m_X5_reckonAfter_l55 rec5 rec11 n) T x1 x2 x3 x4 = some res := h
    exact fr_X5_reckonAfter_h55 (rec55 := m_X5_reckonAfter_l55 rec5 rec11 n) hrec5 hrec11 (fun h => ih h) h
set_option maxHeartbeats 4000000 in
set_option maxRecDepth 100000 in
theorem fr_X5_reckonAfter_b51 {rec5 : TT → Int32 → Option (TT)} {rec11 : TT → Int32 → Int32 → Option (TT)} {res : TT} (hrec5 : ∀ {T : TT} {x1 : Int32}, rec5 T x1 = some res → Fr (fun a b => a = 9) (fun _ _ => False) (fun _ _ => False) T res) (hrec11 : ∀ {T : TT} {x1 : Int32} {x2 : Int32}, rec11 T x1 x2 = some res → Fr (fun a b => a = 9) (fun _ _ => False) (fun _ _ => False) T res) {T : TT} {x1 : Int32} {x2 : Int32} {s0 : Int32} (h : m_X5_reckonAfter_b51 rec5 rec11 T x1 x2 s0 = some res) : Fr (fun a b => a = 9) (fun _ _ => False) (fun _ _ => False) T res := by
  unfold m_X5_reckonAfter_b51 at h
  have F0 : Fr (fun a b => a = 9) (fun _ _ => False) (fun _ _ => False) T T := Fr.rf
  exact F0.trans (fr_X5_reckonAfter_l55 hrec5 hrec11 _ h)
set_option maxHeartbeats 4000000 in
set_option maxRecDepth 100000 in
theorem fr_X5_reckonAfter_b50 {rec5 : TT → Int32 → Option (TT)} {rec11 : TT → Int32 → Int32 → Option (TT)} {res : TT} (hrec5 : ∀ {T : TT} {x1 : Int32}, rec5 T x1 = some res → Fr (fun a b => a = 9) (fun _ _ => False) (fun _ _ => False) T res) (hrec11 : ∀ {T : TT} {x1 : Int32} {x2 : Int32}, rec11 T x1 x2 = some res → Fr (fun a b => a = 9) (fun _ _ => False) (fun _ _ => False) T res) {T : TT} {x1 : Int32} {x2 : Int32} (h : m_X5_reckonAfter_b50 rec5 rec11 T x1 x2 = some res) : Fr (fun a b => a = 9) (fun _ _ => False) (fun _ _ => False) T res := by
  unfold m_X5_reckonAfter_b50 at h
  have F0 : Fr (fun a b => a = 9) (fun _ _ => False) (fun _ _ => False) T T := Fr.rf
  exact F0.trans (fr_X5_reckonAfter_b51 hrec5 hrec11 h)
set_option maxHeartbeats 4000000 in
set_option maxRecDepth 100000 in
theorem fr_X5_reckonAfter_h11 {rec5 : TT → Int32 → Option (TT)} {rec11 : TT → Int32 → Int32 → Option (TT)} {res : TT} (hrec5 : ∀ {T : TT} {x1 : Int32}, rec5 T x1 = some res → Fr (fun a b => a = 9) (fun _ _ => False) (fun _ _ => False) T res) (hrec11 : ∀ {T : TT} {x1 : Int32} {x2 : Int32}, rec11 T x1 x2 = some res → Fr (fun a b => a = 9) (fun _ _ => False) (fun _ _ => False) T res) {T : TT} {x1 : Int32} {x2 : Int32} (h : m_X5_reckonAfter_h11 rec5 rec11 T x1 x2 = some res) : Fr (fun a b => a = 9) (fun _ _ => False) (fun _ _ => False) T res := by
  unfold m_X5_reckonAfter_h11 at h
  have F0 : Fr (fun a b => a = 9) (fun _ _ => False) (fun _ _ => False) T T := Fr.rf
  rcases ifo h with h | h
  · obtain ⟨y3, ey3, h⟩ := bTe h
    exact F0.trans (hrec5 h)
  · obtain ⟨gi, h⟩ := gd h
    obtain ⟨gi, h⟩ := gd h
    obtain ⟨T5, eT5, h⟩ := bTe h
    have FT5 := (F0.wA eT5 rfl)
    rcases ifo h with h | h
    · exact FT5.trans (fr_X5_reckonAfter_b50 hrec5 hrec11 h)
    · obtain ⟨gi, h⟩ := gd h
      obtain ⟨gi, h⟩ := gd h
      rcases ifo h with h | h
      · exact FT5.trans (fr_X5_reckonAfter_b50 hrec5 hrec11 h)
      · exact FT5.trans (fr_X5_reckonAfter_b51 hrec5 hrec11 h)
set_option maxHeartbeats 4000000 in
set_option maxRecDepth 100000 in
theorem fr_X5_reckonAfter_l11 {rec5 : TT → Int32 → Option (TT)} {res : TT} (hrec5 : ∀ {T : TT} {x1 : Int32}, rec5 T x1 = some res → Fr (fun a b => a = 9) (fun _ _ => False) (fun _ _ => False) T res) : ∀ (n : Nat) {T : TT} {x1 : Int32} {x2 : Int32} (h : m_X5_reckonAfter_l11 rec5 n T x1 x2 = some res), Fr (fun a b => a = 9) (fun _ _ => False) (fun _ _ => False) T res := by
  intro n
  induction n with
  | zero =>
    intro T x1 x2 h
    exact no_some h
  | succ n ih =>
    intro T x1 x2 h
    have h : m_X5_reckonAfter_h11 rec5 (m_X5_reckonAfter_l11 rec5 n) T x1 x2 = some res := h
    exact fr_X5_reckonAfter_h11 (rec11 := m_X5_reckonAfter_l11 rec5 n) hrec5 (fun h => ih h) h
set_option maxHeartbeats 4000000 in
set_option maxRecDepth 100000 in
theorem fr_X5_reckonAfter_h5 {rec5 : TT → Int32 → Option (TT)} {res : TT} (hrec5 : ∀ {T : TT} {x1 : Int32}, rec5 T x1 = some res → Fr (fun a b => a = 9) (fun _ _ => False) (fun _ _ => False) T res) {T : TT} {x1 : Int32} (h : m_X5_reckonAfter_h5 rec5 T x1 = some res) : Fr (fun a b => a = 9) (fun _ _ => False) (fun _ _ => False) T res := by
  unfold m_X5_reckonAfter_h5 at h
  have F0 : Fr (fun a b => a = 9) (fun _ _ => False) (fun _ _ => False) T T := Fr.rf
  rcases ifo h with h | h
  · have hq := some_i h
    subst hq
    exact F0
  · exact F0.trans (fr_X5_reckonAfter_l11 hrec5 _ h)
set_option maxHeartbeats 4000000 in
set_option maxRecDepth 100000 in
theorem fr_X5_reckonAfter_l5 {res : TT} : ∀ (n : Nat) {T : TT} {x1 : Int32} (h : m_X5_reckonAfter_l5 n T x1 = some res), Fr (fun a b => a = 9) (fun _ _ => False) (fun _ _ => False) T res := by
  intro n
  induction n with
  | zero =>
    intro T x1 h
    exact no_some h
  | succ n ih =>
    intro T x1 h
    have h : m_X5_reckonAfter_h5 (m_X5_reckonAfter_l5 n) T x1 = some res := h
    exact fr_X5_reckonAfter_h5 (rec5 := m_X5_reckonAfter_l5 n) (fun h => ih h) h
set_option maxHeartbeats 4000000 in
set_option maxRecDepth 100000 in
theorem fr_X5_reckonAfter {T : TT} {res : TT} (h : m_X5_reckonAfter T = some res) : Fr (fun a b => a = 9) (fun _ _ => False) (fun _ _ => False) T res := by
  unfold m_X5_reckonAfter at h
  have F0 : Fr (fun a b => a = 9) (fun _ _ => False) (fun _ _ => False) T T := Fr.rf
  obtain ⟨y1, ey1, h⟩ := bTe h
  exact F0.trans (fr_X5_reckonAfter_l5 _ h)
set_option maxHeartbeats 4000000 in
set_option maxRecDepth 100000 in
theorem fr_X5_reckon {T : TT} {g : Nat} {x2 : Int32} {x3 : Int32} {res : TT} (h : m_X5_reckon T g x2 x3 = some res) : Fr (fun a b => a = 8 ∨ a = 9) (fun a b => (a = 6 ∧ b = 3) ∨ (a = 6 ∧ b = 4) ∨ (a = 6 ∧ b = 5)) (fun _ _ => False) T res := by
  unfold m_X5_reckon at h
  have F0 : Fr (fun a b => a = 8 ∨ a = 9) (fun a b => (a = 6 ∧ b = 3) ∨ (a = 6 ∧ b = 4) ∨ (a = 6 ∧ b = 5)) (fun _ _ => False) T T := Fr.rf
  obtain ⟨z1, ez1, h⟩ := bnd h
  rcases ifo h with h | h
  · have hq := some_i h
    subst hq
    exact F0
  · obtain ⟨z2, ez2, h⟩ := bnd h
    obtain ⟨T3, eT3, h⟩ := bTe h
    have FT3 := (F0.wR eT3)
    obtain ⟨T4, eT4, h⟩ := bTe h
    have FT4 := (FT3.wI eT4 (Or.inl ⟨rfl, rfl⟩))
    obtain ⟨gi, h⟩ := gd h
    obtain ⟨T5, eT5, h⟩ := bTe h
    have FT5 := (FT4.wI eT5 (Or.inr (Or.inl ⟨rfl, rfl⟩)))
    obtain ⟨T6, eT6, h⟩ := bTe h
    have FT6 := (FT5.wI eT6 (Or.inr (Or.inr ⟨rfl, rfl⟩)))
    obtain ⟨z7, ez7, h⟩ := bnd h
    have Fz7 := FT6.trans ((fr_X5_reckonBefore ez7).mono (fun a b h => (Or.inl h)) (fun a b h => False.elim h) (fun a b h => False.elim h))
    obtain ⟨z8, ez8, h⟩ := bnd h
    have Fz8 := Fz7.trans ((fr_X5_reckonAfter ez8).mono (fun a b h => (Or.inr h)) (fun a b h => False.elim h) (fun a b h => False.elim h))
    have hq := some_i h
    subst hq
    exact Fz8
set_option maxHeartbeats 4000000 in
set_option maxRecDepth 100000 in
theorem fr_X9_append {T : TT} {x1 : Int32} {res : Int32 × TT} (h : m_X9_append T x1 = some res) : Fr (fun a b => (a = 5 ∧ b = 1)) (fun a b => (a = 5 ∧ b = 1)) (fun _ _ => False) T res.2 := by
  unfold m_X9_append at h
  have F0 : Fr (fun a b => (a = 5 ∧ b = 1)) (fun a b => (a = 5 ∧ b = 1)) (fun _ _ => False) T T := Fr.rf
  rcases ifo h with h | h
  · obtain ⟨gi, h⟩ := gd h
    obtain ⟨T1, eT1, h⟩ := bTe h
    have FT1 := (F0.wA eT1 ⟨rfl, rfl⟩)
    obtain ⟨T2, eT2, h⟩ := bTe h
    have FT2 := (FT1.wI eT2 ⟨rfl, rfl⟩)
    have hq := some_i h
    subst hq
    exact FT2
  · have hq := some_i h
    subst hq
    exact F0
set_option maxHeartbeats 4000000 in
set_option maxRecDepth 100000 in
theorem fr_X9_advance_b166 {res : TT} {T : TT} {s1 : Int32} (h : m_X9_advance_b166 T s1 = some res) : Fr (fun _ _ => False) (fun a b => (a = 5 ∧ b = 2) ∨ (a = 5 ∧ b = 7) ∨ (a = 5 ∧ b = 8) ∨ (a = 5 ∧ b = 9)) (fun _ _ => False) T res := by
  unfold m_X9_advance_b166 at h
  have F0 : Fr (fun _ _ => False) (fun a b => (a = 5 ∧ b = 2) ∨ (a = 5 ∧ b = 7) ∨ (a = 5 ∧ b = 8) ∨ (a = 5 ∧ b = 9)) (fun _ _ => False) T T := Fr.rf
  obtain ⟨T20, eT20, h⟩ := bTe h
  have FT20 := (F0.wI eT20 (Or.inr (Or.inl ⟨rfl, rfl⟩)))
  obtain ⟨T21, eT21, h⟩ := bTe h
  have FT21 := (FT20.wI eT21 (Or.inr (Or.inr (Or.inl ⟨rfl, rfl⟩))))
  have hq := some_i h
  subst hq
  exact FT21
set_option maxHeartbeats 4000000 in
set_option maxRecDepth 100000 in
theorem fr_X9_advance_b132 {res : TT} {T : TT} {s1 : Int32} (h : m_X9_advance_b132 T s1 = some res) : Fr (fun _ _ => False) (fun a b => (a = 5 ∧ b = 2) ∨ (a = 5 ∧ b = 7) ∨ (a = 5 ∧ b = 8) ∨ (a = 5 ∧ b = 9)) (fun _ _ => False) T res := by
  unfold m_X9_advance_b132 at h
  have F0 : Fr (fun _ _ => False) (fun a b => (a = 5 ∧ b = 2) ∨ (a = 5 ∧ b = 7) ∨ (a = 5 ∧ b = 8) ∨ (a = 5 ∧ b = 9)) (fun _ _ => False) T T := Fr.rf
  obtain ⟨T17, eT17, h⟩ := bTe h
  have FT17 := (F0.wI eT17 (Or.inr (Or.inl ⟨rfl, rfl⟩)))
  obtain ⟨z18, ez18, h⟩ := bnd h
  obtain ⟨T19, eT19, h⟩ := bTe h
  have FT19 := (FT17.wI eT19 (Or.inr (Or.inr (Or.inr ⟨rfl, rfl⟩))))
  have hq := some_i h
  subst hq
  exact FT19
set_option maxHeartbeats 4000000 in
set_option maxRecDepth 100000 in
theorem fr_X9_advance {T : TT} {res : TT} (h : m_X9_advance T = some res) : Fr (fun _ _ => False) (fun a b => (a = 5 ∧ b = 2) ∨ (a = 5 ∧ b = 7) ∨ (a = 5 ∧ b = 8) ∨ (a = 5 ∧ b = 9)) (fun _ _ => False) T res := by
  unfold m_X9_advance at h
  have F0 : Fr (fun _ _ => False) (fun a b => (a = 5 ∧ b = 2) ∨ (a = 5 ∧ b = 7) ∨ (a = 5 ∧ b = 8) ∨ (a = 5 ∧ b = 9)) (fun _ _ => False) T T := Fr.rf
  obtain ⟨z1, ez1, h⟩ := bnd h
  obtain ⟨T2, eT2, h⟩ := bTe h
  have FT2 := (F0.wI eT2 (Or.inl ⟨rfl, rfl⟩))
  obtain ⟨T3, eT3, h⟩ := bTe h
  have FT3 := (FT2.wI eT3 (Or.inr (Or.inr (Or.inl ⟨rfl, rfl⟩))))
  rcases ifo h with h | h
  · obtain ⟨z4, ez4, h⟩ := bnd h
    rcases ifo h with h | h
    · obtain ⟨z5, ez5, h⟩ := bnd h
      rcases ifo h with h | h
      · obtain ⟨gi, h⟩ := gd h
        rcases ifo h with h | h
        · exact FT3.trans (fr_X9_advance_b166 h)
        · exact FT3.trans (fr_X9_advance_b166 h)
      · obtain ⟨z7, ez7, h⟩ := bnd h
        obtain ⟨T8, eT8, h⟩ := bTe h
        have FT8 := (FT3.wI eT8 (Or.inr (Or.inr (Or.inl ⟨rfl, rfl⟩))))
        rcases ifo h with h | h
        · exact FT8.trans (fr_X9_advance_b132 h)
        · exact FT8.trans (fr_X9_advance_b132 h)
    · obtain ⟨T11, eT11, h⟩ := bTe h
      have FT11 := (FT3.wI eT11 (Or.inr (Or.inl ⟨rfl, rfl⟩)))
      obtain ⟨z12, ez12, h⟩ := bnd h
      obtain ⟨T13, eT13, h⟩ := bTe h
      have FT13 := (FT11.wI eT13 (Or.inr (Or.inr (Or.inl ⟨rfl, rfl⟩))))
      have hq := some_i h
      subst hq
      exact FT13
  · obtain ⟨T15, eT15, h⟩ := bTe h
    have FT15 := (FT3.wI eT15 (Or.inr (Or.inl ⟨rfl, rfl⟩)))
    have hq := some_i h
    subst hq
    exact FT15
set_option maxHeartbeats 4000000 in
set_option maxRecDepth 100000 in
theorem fr_X9_takesStop {T : TT} {res : Int32 × TT} (h : m_X9_takesStop T = some res) : Fr (fun _ _ => False) (fun a b => (a = 5 ∧ b = 2) ∨ (a = 5 ∧ b = 7) ∨ (a = 5 ∧ b = 8) ∨ (a = 5 ∧ b = 9)) (fun _ _ => False) T res.2 := by
  unfold m_X9_takesStop at h
  have F0 : Fr (fun _ _ => False) (fun a b => (a = 5 ∧ b = 2) ∨ (a = 5 ∧ b = 7) ∨ (a = 5 ∧ b = 8) ∨ (a = 5 ∧ b = 9)) (fun _ _ => False) T T := Fr.rf
  obtain ⟨z1, ez1, h⟩ := bnd h
  have Fz1 := F0.trans ((fr_X9_advance ez1).mono (fun a b h => False.elim h) (fun a b h => h) (fun a b h => False.elim h))
  rcases ifo h with h | h
  · have hq := some_i h
    subst hq
    exact Fz1
  · have hq := some_i h
    subst hq
    exact Fz1
set_option maxHeartbeats 4000000 in
set_option maxRecDepth 100000 in
theorem fr_X9_takesRank {T : TT} {res : Int32 × TT} (h : m_X9_takesRank T = some res) : Fr (fun _ _ => False) (fun a b => (a = 5 ∧ b = 2) ∨ (a = 5 ∧ b = 3) ∨ (a = 5 ∧ b = 7) ∨ (a = 5 ∧ b = 8) ∨ (a = 5 ∧ b = 9)) (fun _ _ => False) T res.2 := by
  unfold m_X9_takesRank at h
  have F0 : Fr (fun _ _ => False) (fun a b => (a = 5 ∧ b = 2) ∨ (a = 5 ∧ b = 3) ∨ (a = 5 ∧ b = 7) ∨ (a = 5 ∧ b = 8) ∨ (a = 5 ∧ b = 9)) (fun _ _ => False) T T := Fr.rf
  obtain ⟨T1, eT1, h⟩ := bTe h
  have FT1 := (F0.wI eT1 (Or.inr (Or.inr (Or.inr (Or.inl ⟨rfl, rfl⟩)))))
  obtain ⟨gi, h⟩ := gd h
  obtain ⟨T2, eT2, h⟩ := bTe h
  have FT2 := (FT1.wI eT2 (Or.inr (Or.inl ⟨rfl, rfl⟩)))
  obtain ⟨z3, ez3, h⟩ := bnd h
  have Fz3 := FT2.trans ((fr_X9_advance ez3).mono (fun a b h => False.elim h) (fun a b h => by
    rcases h with h | h | h | h
    · exact (Or.inl h)
    · exact (Or.inr (Or.inr (Or.inl h)))
    · exact (Or.inr (Or.inr (Or.inr (Or.inl h))))
    · exact (Or.inr (Or.inr (Or.inr (Or.inr h))))) (fun a b h => False.elim h))
  obtain ⟨z4, ez4, h⟩ := bnd h
  rcases ifo h with h | h
  · have hq := some_i h
    subst hq
    exact Fz3
  · obtain ⟨z5, ez5, h⟩ := bnd h
    have Fz5 := Fz3.trans ((fr_X9_takesStop ez5).mono (fun a b h => False.elim h) (fun a b h => by
    rcases h with h | h | h | h
    · exact (Or.inl h)
    · exact (Or.inr (Or.inr (Or.inl h)))
    · exact (Or.inr (Or.inr (Or.inr (Or.inl h))))
    · exact (Or.inr (Or.inr (Or.inr (Or.inr h))))) (fun a b h => False.elim h))
    rcases ifo h with h | h
    · have hq := some_i h
      subst hq
      exact Fz5
    · have hq := some_i h
      subst hq
      exact Fz5
set_option maxHeartbeats 4000000 in
set_option maxRecDepth 100000 in
theorem fr_X9_takesNumber {T : TT} {x1 : Int32} {x2 : Int32} {res : Int32 × TT} (h : m_X9_takesNumber T x1 x2 = some res) : Fr (fun _ _ => False) (fun a b => (a = 5 ∧ b = 2) ∨ (a = 5 ∧ b = 7) ∨ (a = 5 ∧ b = 8) ∨ (a = 5 ∧ b = 9)) (fun _ _ => False) T res.2 := by
  unfold m_X9_takesNumber at h
  have F0 : Fr (fun _ _ => False) (fun a b => (a = 5 ∧ b = 2) ∨ (a = 5 ∧ b = 7) ∨ (a = 5 ∧ b = 8) ∨ (a = 5 ∧ b = 9)) (fun _ _ => False) T T := Fr.rf
  obtain ⟨z1, ez1, h⟩ := bnd h
  have Fz1 := F0.trans ((fr_X9_advance ez1).mono (fun a b h => False.elim h) (fun a b h => h) (fun a b h => False.elim h))
  rcases ifo h with h | h
  · rcases ifo h with h | h
    · have hq := some_i h
      subst hq
      exact Fz1
    · rcases ifo h with h | h
      · have hq := some_i h
        subst hq
        exact Fz1
      · have hq := some_i h
        subst hq
        exact Fz1
  · have hq := some_i h
    subst hq
    exact Fz1
set_option maxHeartbeats 4000000 in
set_option maxRecDepth 100000 in
theorem fr_X9_takesItem_b109 {res : Int32 × TT} {T : TT} {s1 : Int32} {s2 : Int32} (h : m_X9_takesItem_b109 T s1 s2 = some res) : Fr (fun _ _ => False) (fun a b => (a = 5 ∧ b = 2) ∨ (a = 5 ∧ b = 3) ∨ (a = 5 ∧ b = 4) ∨ (a = 5 ∧ b = 5) ∨ (a = 5 ∧ b = 6) ∨ (a = 5 ∧ b = 7) ∨ (a = 5 ∧ b = 8) ∨ (a = 5 ∧ b = 9)) (fun _ _ => False) T res.2 := by
  unfold m_X9_takesItem_b109 at h
  have F0 : Fr (fun _ _ => False) (fun a b => (a = 5 ∧ b = 2) ∨ (a = 5 ∧ b = 3) ∨ (a = 5 ∧ b = 4) ∨ (a = 5 ∧ b = 5) ∨ (a = 5 ∧ b = 6) ∨ (a = 5 ∧ b = 7) ∨ (a = 5 ∧ b = 8) ∨ (a = 5 ∧ b = 9)) (fun _ _ => False) T T := Fr.rf
  obtain ⟨z17, ez17, h⟩ := bnd h
  have Fz17 := F0.trans ((fr_X9_takesNumber ez17).mono (fun a b h => False.elim h) (fun a b h => by
    rcases h with h | h | h | h
    · exact (Or.inl h)
    · exact (Or.inr (Or.inr (Or.inr (Or.inr (Or.inr (Or.inl h))))))
    · exact (Or.inr (Or.inr (Or.inr (Or.inr (Or.inr (Or.inr (Or.inl h)))))))
    · exact (Or.inr (Or.inr (Or.inr (Or.inr (Or.inr (Or.inr (Or.inr h)))))))) (fun a b h => False.elim h))
  rcases ifo h with h | h
  · have hq := some_i h
    subst hq
    exact Fz17
  · obtain ⟨T18, eT18, h⟩ := bTe h
    have FT18 := (Fz17.wI eT18 (Or.inr (Or.inr (Or.inr (Or.inr (Or.inl ⟨rfl, rfl⟩))))))
    obtain ⟨z19, ez19, h⟩ := bnd h
    have Fz19 := FT18.trans ((fr_X9_takesStop ez19).mono (fun a b h => False.elim h) (fun a b h => by
    rcases h with h | h | h | h
    · exact (Or.inl h)
    · exact (Or.inr (Or.inr (Or.inr (Or.inr (Or.inr (Or.inl h))))))
    · exact (Or.inr (Or.inr (Or.inr (Or.inr (Or.inr (Or.inr (Or.inl h)))))))
    · exact (Or.inr (Or.inr (Or.inr (Or.inr (Or.inr (Or.inr (Or.inr h)))))))) (fun a b h => False.elim h))
    obtain ⟨gi, h⟩ := gd h
    have hq := some_i h
    subst hq
    exact Fz19
set_option maxHeartbeats 4000000 in
set_option maxRecDepth 100000 in
theorem fr_X9_takesItem_b86 {res : Int32 × TT} {T : TT} (h : m_X9_takesItem_b86 T = some res) : Fr (fun _ _ => False) (fun a b => (a = 5 ∧ b = 2) ∨ (a = 5 ∧ b = 3) ∨ (a = 5 ∧ b = 4) ∨ (a = 5 ∧ b = 5) ∨ (a = 5 ∧ b = 6) ∨ (a = 5 ∧ b = 7) ∨ (a = 5 ∧ b = 8) ∨ (a = 5 ∧ b = 9)) (fun _ _ => False) T res.2 := by
  unfold m_X9_takesItem_b86 at h
  have F0 : Fr (fun _ _ => False) (fun a b => (a = 5 ∧ b = 2) ∨ (a = 5 ∧ b = 3) ∨ (a = 5 ∧ b = 4) ∨ (a = 5 ∧ b = 5) ∨ (a = 5 ∧ b = 6) ∨ (a = 5 ∧ b = 7) ∨ (a = 5 ∧ b = 8) ∨ (a = 5 ∧ b = 9)) (fun _ _ => False) T T := Fr.rf
  obtain ⟨T15, eT15, h⟩ := bTe h
  have FT15 := (F0.wI eT15 (Or.inr (Or.inr (Or.inr (Or.inl ⟨rfl, rfl⟩)))))
  rcases ifo h with h | h
  · exact FT15.trans (fr_X9_takesItem_b109 h)
  · exact FT15.trans (fr_X9_takesItem_b109 h)
set_option maxHeartbeats 4000000 in
set_option maxRecDepth 100000 in
theorem fr_X9_takesItem_b55 {res : Int32 × TT} {T : TT} (h : m_X9_takesItem_b55 T = some res) : Fr (fun _ _ => False) (fun a b => (a = 5 ∧ b = 2) ∨ (a = 5 ∧ b = 3) ∨ (a = 5 ∧ b = 4) ∨ (a = 5 ∧ b = 5) ∨ (a = 5 ∧ b = 6) ∨ (a = 5 ∧ b = 7) ∨ (a = 5 ∧ b = 8) ∨ (a = 5 ∧ b = 9)) (fun _ _ => False) T res.2 := by
  unfold m_X9_takesItem_b55 at h
  have F0 : Fr (fun _ _ => False) (fun a b => (a = 5 ∧ b = 2) ∨ (a = 5 ∧ b = 3) ∨ (a = 5 ∧ b = 4) ∨ (a = 5 ∧ b = 5) ∨ (a = 5 ∧ b = 6) ∨ (a = 5 ∧ b = 7) ∨ (a = 5 ∧ b = 8) ∨ (a = 5 ∧ b = 9)) (fun _ _ => False) T T := Fr.rf
  rcases ifo h with h | h
  · obtain ⟨z10, ez10, h⟩ := bnd h
    have Fz10 := F0.trans ((fr_X9_takesNumber ez10).mono (fun a b h => False.elim h) (fun a b h => by
    rcases h with h | h | h | h
    · exact (Or.inl h)
    · exact (Or.inr (Or.inr (Or.inr (Or.inr (Or.inr (Or.inl h))))))
    · exact (Or.inr (Or.inr (Or.inr (Or.inr (Or.inr (Or.inr (Or.inl h)))))))
    · exact (Or.inr (Or.inr (Or.inr (Or.inr (Or.inr (Or.inr (Or.inr h)))))))) (fun a b h => False.elim h))
    rcases ifo h with h | h
    · have hq := some_i h
      subst hq
      exact Fz10
    · exact Fz10.trans (fr_X9_takesItem_b86 h)
  · obtain ⟨z12, ez12, h⟩ := bnd h
    have Fz12 := F0.trans ((fr_X9_takesNumber ez12).mono (fun a b h => False.elim h) (fun a b h => by
    rcases h with h | h | h | h
    · exact (Or.inl h)
    · exact (Or.inr (Or.inr (Or.inr (Or.inr (Or.inr (Or.inl h))))))
    · exact (Or.inr (Or.inr (Or.inr (Or.inr (Or.inr (Or.inr (Or.inl h)))))))
    · exact (Or.inr (Or.inr (Or.inr (Or.inr (Or.inr (Or.inr (Or.inr h)))))))) (fun a b h => False.elim h))
    rcases ifo h with h | h
    · have hq := some_i h
      subst hq
      exact Fz12
    · exact Fz12.trans (fr_X9_takesItem_b86 h)
set_option maxHeartbeats 4000000 in
set_option maxRecDepth 100000 in
theorem fr_X9_takesItem_b17 {res : Int32 × TT} {T : TT} {x1 : Int32} {s1 : Int32} (h : m_X9_takesItem_b17 T x1 s1 = some res) : Fr (fun _ _ => False) (fun a b => (a = 5 ∧ b = 2) ∨ (a = 5 ∧ b = 3) ∨ (a = 5 ∧ b = 4) ∨ (a = 5 ∧ b = 5) ∨ (a = 5 ∧ b = 6) ∨ (a = 5 ∧ b = 7) ∨ (a = 5 ∧ b = 8) ∨ (a = 5 ∧ b = 9)) (fun _ _ => False) T res.2 := by
  unfold m_X9_takesItem_b17 at h
  have F0 : Fr (fun _ _ => False) (fun a b => (a = 5 ∧ b = 2) ∨ (a = 5 ∧ b = 3) ∨ (a = 5 ∧ b = 4) ∨ (a = 5 ∧ b = 5) ∨ (a = 5 ∧ b = 6) ∨ (a = 5 ∧ b = 7) ∨ (a = 5 ∧ b = 8) ∨ (a = 5 ∧ b = 9)) (fun _ _ => False) T T := Fr.rf
  obtain ⟨gi, h⟩ := gd h
  obtain ⟨T3, eT3, h⟩ := bTe h
  have FT3 := (F0.wI eT3 (Or.inr (Or.inl ⟨rfl, rfl⟩)))
  obtain ⟨z4, ez4, h⟩ := bnd h
  obtain ⟨gi, h⟩ := gd h
  obtain ⟨T5, eT5, h⟩ := bTe h
  have FT5 := (FT3.wI eT5 (Or.inr (Or.inr (Or.inl ⟨rfl, rfl⟩))))
  rcases ifo h with h | h
  · obtain ⟨z6, ez6, h⟩ := bnd h
    rcases ifo h with h | h
    · have hq := some_i h
      subst hq
      exact FT5
    · exact FT5.trans (fr_X9_takesItem_b55 h)
  · rcases ifo h with h | h
    · exact FT5.trans (fr_X9_takesItem_b55 h)
    · have hq := some_i h
      subst hq
      exact FT5
set_option maxHeartbeats 4000000 in
set_option maxRecDepth 100000 in
theorem fr_X9_takesItem {T : TT} {x1 : Int32} {res : Int32 × TT} (h : m_X9_takesItem T x1 = some res) : Fr (fun _ _ => False) (fun a b => (a = 5 ∧ b = 2) ∨ (a = 5 ∧ b = 3) ∨ (a = 5 ∧ b = 4) ∨ (a = 5 ∧ b = 5) ∨ (a = 5 ∧ b = 6) ∨ (a = 5 ∧ b = 7) ∨ (a = 5 ∧ b = 8) ∨ (a = 5 ∧ b = 9)) (fun _ _ => False) T res.2 := by
  unfold m_X9_takesItem at h
  have F0 : Fr (fun _ _ => False) (fun a b => (a = 5 ∧ b = 2) ∨ (a = 5 ∧ b = 3) ∨ (a = 5 ∧ b = 4) ∨ (a = 5 ∧ b = 5) ∨ (a = 5 ∧ b = 6) ∨ (a = 5 ∧ b = 7) ∨ (a = 5 ∧ b = 8) ∨ (a = 5 ∧ b = 9)) (fun _ _ => False) T T := Fr.rf
  obtain ⟨z1, ez1, h⟩ := bnd h
  have Fz1 := F0.trans ((fr_X9_advance ez1).mono (fun a b h => False.elim h) (fun a b h => by
    rcases h with h | h | h | h
    · exact (Or.inl h)
    · exact (Or.inr (Or.inr (Or.inr (Or.inr (Or.inr (Or.inl h))))))
    · exact (Or.inr (Or.inr (Or.inr (Or.inr (Or.inr (Or.inr (Or.inl h)))))))
    · exact (Or.inr (Or.inr (Or.inr (Or.inr (Or.inr (Or.inr (Or.inr h)))))))) (fun a b h => False.elim h))
  rcases ifo h with h | h
  · exact Fz1.trans (fr_X9_takesItem_b17 h)
  · exact Fz1.trans (fr_X9_takesItem_b17 h)
set_option maxHeartbeats 4000000 in
set_option maxRecDepth 100000 in
theorem fr_X10_rank {T : TT} {res : Int32 × TT} (h : m_X10_rank T = some res) : Fr (fun _ _ => False) (fun a b => (a = 0 ∧ b = 10) ∨ (a = 0 ∧ b = 11) ∨ (a = 0 ∧ b = 7) ∨ (a = 0 ∧ b = 8) ∨ (a = 0 ∧ b = 9)) (fun _ _ => False) T res.2 := by
  unfold m_X10_rank at h
  have F0 : Fr (fun _ _ => False) (fun a b => (a = 0 ∧ b = 10) ∨ (a = 0 ∧ b = 11) ∨ (a = 0 ∧ b = 7) ∨ (a = 0 ∧ b = 8) ∨ (a = 0 ∧ b = 9)) (fun _ _ => False) T T := Fr.rf
  obtain ⟨y1, ey1, h⟩ := bTe h
  obtain ⟨z2, ez2, h⟩ := bnd h
  have Fz2 := F0.trans ((fr_X4_reset ez2).mono (fun a b h => False.elim h) (fun a b h => h) (fun a b h => False.elim h))
  have hq := some_i h
  subst hq
  exact Fz2
set_option maxHeartbeats 4000000 in
set_option maxRecDepth 100000 in
theorem fr_X10_refuse {T : TT} {x1 : Int32} {res : Int32 × TT} (h : m_X10_refuse T x1 = some res) : Fr (fun a b => (a = 4 ∧ b = 4)) (fun _ _ => False) (fun _ _ => False) T res.2 := by
  unfold m_X10_refuse at h
  have F0 : Fr (fun a b => (a = 4 ∧ b = 4)) (fun _ _ => False) (fun _ _ => False) T T := Fr.rf
  obtain ⟨y1, ey1, h⟩ := bTe h
  rcases ifo h with h | h
  · have hq := some_i h
    subst hq
    exact F0
  · rcases ifo h with h | h
    · have hq := some_i h
      subst hq
      exact F0
    · obtain ⟨gi, h⟩ := gd h
      obtain ⟨gi, h⟩ := gd h
      obtain ⟨T2, eT2, h⟩ := bTe h
      have FT2 := (F0.wA eT2 ⟨rfl, rfl⟩)
      have hq := some_i h
      subst hq
      exact FT2
set_option maxHeartbeats 4000000 in
set_option maxRecDepth 100000 in
theorem fr_X10_refuseIfFull {T : TT} {x1 : Int32} {res : Int32 × TT} (h : m_X10_refuseIfFull T x1 = some res) : Fr (fun a b => (a = 4 ∧ b = 4)) (fun _ _ => False) (fun _ _ => False) T res.2 := by
  unfold m_X10_refuseIfFull at h
  have F0 : Fr (fun a b => (a = 4 ∧ b = 4)) (fun _ _ => False) (fun _ _ => False) T T := Fr.rf
  rcases ifo h with h | h
  · obtain ⟨z1, ez1, h⟩ := bnd h
    have Fz1 := F0.trans ((fr_X10_refuse ez1).mono (fun a b h => h) (fun a b h => False.elim h) (fun a b h => False.elim h))
    have hq := some_i h
    subst hq
    exact Fz1
  · have hq := some_i h
    subst hq
    exact F0
set_option maxHeartbeats 4000000 in
set_option maxRecDepth 100000 in
theorem fr_X10_driver_b19 {res : Int32 × TT} {T : TT} (h : m_X10_driver_b19 T = some res) : Fr (fun a b => (a = 0 ∧ b = 2) ∨ (a = 0 ∧ b = 3) ∨ (a = 0 ∧ b = 4) ∨ (a = 4 ∧ b = 4)) (fun a b => (a = 0 ∧ b = 11) ∨ (a = 0 ∧ b = 7)) (fun _ _ => False) T res.2 := by
  unfold m_X10_driver_b19 at h
  have F0 : Fr (fun a b => (a = 0 ∧ b = 2) ∨ (a = 0 ∧ b = 3) ∨ (a = 0 ∧ b = 4) ∨ (a = 4 ∧ b = 4)) (fun a b => (a = 0 ∧ b = 11) ∨ (a = 0 ∧ b = 7)) (fun _ _ => False) T T := Fr.rf
  obtain ⟨z7, ez7, h⟩ := bnd h
  have Fz7 := F0.trans ((fr_X10_refuse ez7).mono (fun a b h => (Or.inr (Or.inr (Or.inr h)))) (fun a b h => False.elim h) (fun a b h => False.elim h))
  have hq := some_i h
  subst hq
  exact Fz7
set_option maxHeartbeats 4000000 in
set_option maxRecDepth 100000 in
theorem fr_X10_driver {T : TT} {x1 : Int32} {x2 : Int32} {res : Int32 × TT} (h : m_X10_driver T x1 x2 = some res) : Fr (fun a b => (a = 0 ∧ b = 2) ∨ (a = 0 ∧ b = 3) ∨ (a = 0 ∧ b = 4) ∨ (a = 4 ∧ b = 4)) (fun a b => (a = 0 ∧ b = 11) ∨ (a = 0 ∧ b = 7)) (fun _ _ => False) T res.2 := by
  unfold m_X10_driver at h
  have F0 : Fr (fun a b => (a = 0 ∧ b = 2) ∨ (a = 0 ∧ b = 3) ∨ (a = 0 ∧ b = 4) ∨ (a = 4 ∧ b = 4)) (fun a b => (a = 0 ∧ b = 11) ∨ (a = 0 ∧ b = 7)) (fun _ _ => False) T T := Fr.rf
  obtain ⟨z1, ez1, h⟩ := bnd h
  rcases ifo h with h | h
  · exact F0.trans (fr_X10_driver_b19 h)
  · obtain ⟨z2, ez2, h⟩ := bnd h
    rcases ifo h with h | h
    · exact F0.trans (fr_X10_driver_b19 h)
    · obtain ⟨z3, ez3, h⟩ := bnd h
      have Fz3 := F0.trans ((fr_X4_addDriver ez3).mono (fun a b h => by
    rcases h with h | h | h
    · exact (Or.inl h)
    · exact (Or.inr (Or.inl h))
    · exact (Or.inr (Or.inr (Or.inl h)))) (fun a b h => h) (fun a b h => False.elim h))
      obtain ⟨z4, ez4, h⟩ := bnd h
      have Fz4 := Fz3.trans ((fr_X10_refuseIfFull ez4).mono (fun a b h => (Or.inr (Or.inr (Or.inr h)))) (fun a b h => False.elim h) (fun a b h => False.elim h))
      have hq := some_i h
      subst hq
      exact Fz4
set_option maxHeartbeats 4000000 in
set_option maxRecDepth 100000 in
theorem fr_X10_type {T : TT} {x1 : Int32} {res : Int32 × TT} (h : m_X10_type T x1 = some res) : Fr (fun a b => (a = 4 ∧ b = 4) ∨ (a = 5 ∧ b = 1)) (fun a b => (a = 5 ∧ b = 1)) (fun _ _ => False) T res.2 := by
  unfold m_X10_type at h
  have F0 : Fr (fun a b => (a = 4 ∧ b = 4) ∨ (a = 5 ∧ b = 1)) (fun a b => (a = 5 ∧ b = 1)) (fun _ _ => False) T T := Fr.rf
  obtain ⟨z1, ez1, h⟩ := bnd h
  rcases ifo h with h | h
  · obtain ⟨z4, ez4, h⟩ := bnd h
    have Fz4 := F0.trans ((fr_X10_refuse ez4).mono (fun a b h => (Or.inl h)) (fun a b h => False.elim h) (fun a b h => False.elim h))
    have hq := some_i h
    subst hq
    exact Fz4
  · obtain ⟨z2, ez2, h⟩ := bnd h
    have Fz2 := F0.trans ((fr_X9_append ez2).mono (fun a b h => (Or.inr h)) (fun a b h => h) (fun a b h => False.elim h))
    obtain ⟨z3, ez3, h⟩ := bnd h
    have Fz3 := Fz2.trans ((fr_X10_refuseIfFull ez3).mono (fun a b h => (Or.inl h)) (fun a b h => False.elim h) (fun a b h => False.elim h))
    have hq := some_i h
    subst hq
    exact Fz3
set_option maxHeartbeats 4000000 in
set_option maxRecDepth 100000 in
theorem fr_X10_clear {T : TT} {res : Int32 × TT} (h : m_X10_clear T = some res) : Fr (fun _ _ => False) (fun a b => (a = 5 ∧ b = 1)) (fun _ _ => False) T res.2 := by
  unfold m_X10_clear at h
  have F0 : Fr (fun _ _ => False) (fun a b => (a = 5 ∧ b = 1)) (fun _ _ => False) T T := Fr.rf
  obtain ⟨y1, ey1, h⟩ := bTe h
  obtain ⟨T2, eT2, h⟩ := bTe h
  have FT2 := (F0.wI eT2 ⟨rfl, rfl⟩)
  have hq := some_i h
  subst hq
  exact FT2
set_option maxHeartbeats 4000000 in
set_option maxRecDepth 100000 in
theorem fr_X10_read_b115 {res : Int32 × TT} {T : TT} {x1 : Int32} (h : m_X10_read_b115 T x1 = some res) : Fr (fun a b => (a = 0 ∧ b = 2) ∨ (a = 0 ∧ b = 3) ∨ (a = 0 ∧ b = 4) ∨ (a = 0 ∧ b = 5) ∨ (a = 0 ∧ b = 6) ∨ (a = 0 ∧ b = 7) ∨ (a = 1 ∧ b = 2) ∨ (a = 1 ∧ b = 3) ∨ (a = 1 ∧ b = 4)) (fun a b => (a = 0 ∧ b = 10) ∨ (a = 0 ∧ b = 11) ∨ (a = 0 ∧ b = 7) ∨ (a = 0 ∧ b = 8) ∨ (a = 0 ∧ b = 9) ∨ (a = 1 ∧ b = 10) ∨ (a = 1 ∧ b = 11) ∨ (a = 1 ∧ b = 7) ∨ (a = 1 ∧ b = 8) ∨ (a = 1 ∧ b = 9) ∨ (a = 5 ∧ b = 2) ∨ (a = 5 ∧ b = 3) ∨ (a = 5 ∧ b = 4) ∨ (a = 5 ∧ b = 5) ∨ (a = 5 ∧ b = 6) ∨ (a = 5 ∧ b = 7) ∨ (a = 5 ∧ b = 8) ∨ (a = 5 ∧ b = 9)) (fun _ _ => False) T res.2 := by
  unfold m_X10_read_b115 at h
  have F0 : Fr (fun a b => (a = 0 ∧ b = 2) ∨ (a = 0 ∧ b = 3) ∨ (a = 0 ∧ b = 4) ∨ (a = 0 ∧ b = 5) ∨ (a = 0 ∧ b = 6) ∨ (a = 0 ∧ b = 7) ∨ (a = 1 ∧ b = 2) ∨ (a = 1 ∧ b = 3) ∨ (a = 1 ∧ b = 4)) (fun a b => (a = 0 ∧ b = 10) ∨ (a = 0 ∧ b = 11) ∨ (a = 0 ∧ b = 7) ∨ (a = 0 ∧ b = 8) ∨ (a = 0 ∧ b = 9) ∨ (a = 1 ∧ b = 10) ∨ (a = 1 ∧ b = 11) ∨ (a = 1 ∧ b = 7) ∨ (a = 1 ∧ b = 8) ∨ (a = 1 ∧ b = 9) ∨ (a = 5 ∧ b = 2) ∨ (a = 5 ∧ b = 3) ∨ (a = 5 ∧ b = 4) ∨ (a = 5 ∧ b = 5) ∨ (a = 5 ∧ b = 6) ∨ (a = 5 ∧ b = 7) ∨ (a = 5 ∧ b = 8) ∨ (a = 5 ∧ b = 9)) (fun _ _ => False) T T := Fr.rf
  rcases ifo h with h | h
  · have hq := some_i h
    subst hq
    exact F0
  · obtain ⟨z13, ez13, h⟩ := bnd h
    have Fz13 := F0.trans ((fr_X4_copyFrom ez13).mono (fun a b h => by
    rcases h with h | h | h | h | h | h
    · exact (Or.inl h)
    · exact (Or.inr (Or.inl h))
    · exact (Or.inr (Or.inr (Or.inl h)))
    · exact (Or.inr (Or.inr (Or.inr (Or.inl h))))
    · exact (Or.inr (Or.inr (Or.inr (Or.inr (Or.inl h)))))
    · exact (Or.inr (Or.inr (Or.inr (Or.inr (Or.inr (Or.inl h))))))) (fun a b h => by
    rcases h with h | h | h | h | h
    · exact (Or.inl h)
    · exact (Or.inr (Or.inl h))
    · exact (Or.inr (Or.inr (Or.inl h)))
    · exact (Or.inr (Or.inr (Or.inr (Or.inl h))))
    · exact (Or.inr (Or.inr (Or.inr (Or.inr (Or.inl h)))))) (fun a b h => False.elim h))
    have hq := some_i h
    subst hq
    exact Fz13
set_option maxHeartbeats 4000000 in
set_option maxRecDepth 100000 in
theorem fr_X10_read_h23 {rec23 : TT → Int32 → Option (Int32 × TT)} {res : Int32 × TT} (hrec23 : ∀ {T : TT} {x1 : Int32}, rec23 T x1 = some res → Fr (fun a b => (a = 0 ∧ b = 2) ∨ (a = 0 ∧ b = 3) ∨ (a = 0 ∧ b = 4) ∨ (a = 0 ∧ b = 5) ∨ (a = 0 ∧ b = 6) ∨ (a = 0 ∧ b = 7) ∨ (a = 1 ∧ b = 2) ∨ (a = 1 ∧ b = 3) ∨ (a = 1 ∧ b = 4)) (fun a b => (a = 0 ∧ b = 10) ∨ (a = 0 ∧ b = 11) ∨ (a = 0 ∧ b = 7) ∨ (a = 0 ∧ b = 8) ∨ (a = 0 ∧ b = 9) ∨ (a = 1 ∧ b = 10) ∨ (a = 1 ∧ b = 11) ∨ (a = 1 ∧ b = 7) ∨ (a = 1 ∧ b = 8) ∨ (a = 1 ∧ b = 9) ∨ (a = 5 ∧ b = 2) ∨ (a = 5 ∧ b = 3) ∨ (a = 5 ∧ b = 4) ∨ (a = 5 ∧ b = 5) ∨ (a = 5 ∧ b = 6) ∨ (a = 5 ∧ b = 7) ∨ (a = 5 ∧ b = 8) ∨ (a = 5 ∧ b = 9)) (fun _ _ => False) T res.2) {T : TT} {x1 : Int32} (h : m_X10_read_h23 rec23 T x1 = some res) : Fr (fun a b => (a = 0 ∧ b = 2) ∨ (a = 0 ∧ b = 3) ∨ (a = 0 ∧ b = 4) ∨ (a = 0 ∧ b = 5) ∨ (a = 0 ∧ b = 6) ∨ (a = 0 ∧ b = 7) ∨ (a = 1 ∧ b = 2) ∨ (a = 1 ∧ b = 3) ∨ (a = 1 ∧ b = 4)) (fun a b => (a = 0 ∧ b = 10) ∨ (a = 0 ∧ b = 11) ∨ (a = 0 ∧ b = 7) ∨ (a = 0 ∧ b = 8) ∨ (a = 0 ∧ b = 9) ∨ (a = 1 ∧ b = 10) ∨ (a = 1 ∧ b = 11) ∨ (a = 1 ∧ b = 7) ∨ (a = 1 ∧ b = 8) ∨ (a = 1 ∧ b = 9) ∨ (a = 5 ∧ b = 2) ∨ (a = 5 ∧ b = 3) ∨ (a = 5 ∧ b = 4) ∨ (a = 5 ∧ b = 5) ∨ (a = 5 ∧ b = 6) ∨ (a = 5 ∧ b = 7) ∨ (a = 5 ∧ b = 8) ∨ (a = 5 ∧ b = 9)) (fun _ _ => False) T res.2 := by
  unfold m_X10_read_h23 at h
  have F0 : Fr (fun a b => (a = 0 ∧ b = 2) ∨ (a = 0 ∧ b = 3) ∨ (a = 0 ∧ b = 4) ∨ (a = 0 ∧ b = 5) ∨ (a = 0 ∧ b = 6) ∨ (a = 0 ∧ b = 7) ∨ (a = 1 ∧ b = 2) ∨ (a = 1 ∧ b = 3) ∨ (a = 1 ∧ b = 4)) (fun a b => (a = 0 ∧ b = 10) ∨ (a = 0 ∧ b = 11) ∨ (a = 0 ∧ b = 7) ∨ (a = 0 ∧ b = 8) ∨ (a = 0 ∧ b = 9) ∨ (a = 1 ∧ b = 10) ∨ (a = 1 ∧ b = 11) ∨ (a = 1 ∧ b = 7) ∨ (a = 1 ∧ b = 8) ∨ (a = 1 ∧ b = 9) ∨ (a = 5 ∧ b = 2) ∨ (a = 5 ∧ b = 3) ∨ (a = 5 ∧ b = 4) ∨ (a = 5 ∧ b = 5) ∨ (a = 5 ∧ b = 6) ∨ (a = 5 ∧ b = 7) ∨ (a = 5 ∧ b = 8) ∨ (a = 5 ∧ b = 9)) (fun _ _ => False) T T := Fr.rf
  rcases ifo h with h | h
  · exact F0.trans (fr_X10_read_b115 h)
  · rcases ifo h with h | h
    · exact F0.trans (fr_X10_read_b115 h)
    · obtain ⟨z4, ez4, h⟩ := bnd h
      obtain ⟨z5, ez5, h⟩ := bnd h
      have Fz5 := F0.trans ((fr_X9_takesItem ez5).mono (fun a b h => False.elim h) (fun a b h => by
    rcases h with h | h | h | h | h | h | h | h
    · exact (Or.inr (Or.inr (Or.inr (Or.inr (Or.inr (Or.inr (Or.inr (Or.inr (Or.inr (Or.inr (Or.inl h)))))))))))
    · exact (Or.inr (Or.inr (Or.inr (Or.inr (Or.inr (Or.inr (Or.inr (Or.inr (Or.inr (Or.inr (Or.inr (Or.inl h))))))))))))
    · exact (Or.inr (Or.inr (Or.inr (Or.inr (Or.inr (Or.inr (Or.inr (Or.inr (Or.inr (Or.inr (Or.inr (Or.inr (Or.inl h)))))))))))))
    · exact (Or.inr (Or.inr (Or.inr (Or.inr (Or.inr (Or.inr (Or.inr (Or.inr (Or.inr (Or.inr (Or.inr (Or.inr (Or.inr (Or.inl h))))))))))))))
    · exact (Or.inr (Or.inr (Or.inr (Or.inr (Or.inr (Or.inr (Or.inr (Or.inr (Or.inr (Or.inr (Or.inr (Or.inr (Or.inr (Or.inr (Or.inl h)))))))))))))))
    · exact (Or.inr (Or.inr (Or.inr (Or.inr (Or.inr (Or.inr (Or.inr (Or.inr (Or.inr (Or.inr (Or.inr (Or.inr (Or.inr (Or.inr (Or.inr (Or.inl h))))))))))))))))
    · exact (Or.inr (Or.inr (Or.inr (Or.inr (Or.inr (Or.inr (Or.inr (Or.inr (Or.inr (Or.inr (Or.inr (Or.inr (Or.inr (Or.inr (Or.inr (Or.inr (Or.inl h)))))))))))))))))
    · exact (Or.inr (Or.inr (Or.inr (Or.inr (Or.inr (Or.inr (Or.inr (Or.inr (Or.inr (Or.inr (Or.inr (Or.inr (Or.inr (Or.inr (Or.inr (Or.inr (Or.inr h)))))))))))))))))) (fun a b h => False.elim h))
      rcases ifo h with h | h
      · exact Fz5.trans (fr_X10_read_b115 h)
      · obtain ⟨y6, ey6, h⟩ := bTe h
        rcases ifo h with h | h
        · obtain ⟨z7, ez7, h⟩ := bnd h
          have Fz7 := Fz5.trans ((fr_X4_passDays ez7).mono (fun a b h => by
    rcases h with h | h
    · exact (Or.inr (Or.inr (Or.inr (Or.inr (Or.inr (Or.inr (Or.inr (Or.inl h))))))))
    · exact (Or.inr (Or.inr (Or.inr (Or.inr (Or.inr (Or.inr (Or.inr (Or.inr h))))))))) (fun a b h => (Or.inr (Or.inr (Or.inr (Or.inr (Or.inr (Or.inr (Or.inr (Or.inr (Or.inl h)))))))))) (fun a b h => False.elim h))
          exact Fz7.trans (hrec23 h)
        · obtain ⟨z8, ez8, h⟩ := bnd h
          have Fz8 := Fz5.trans ((fr_X4_addDriver ez8).mono (fun a b h => by
    rcases h with h | h | h
    · exact (Or.inr (Or.inr (Or.inr (Or.inr (Or.inr (Or.inr (Or.inl h)))))))
    · exact (Or.inr (Or.inr (Or.inr (Or.inr (Or.inr (Or.inr (Or.inr (Or.inl h))))))))
    · exact (Or.inr (Or.inr (Or.inr (Or.inr (Or.inr (Or.inr (Or.inr (Or.inr h))))))))) (fun a b h => by
    rcases h with h | h
    · exact (Or.inr (Or.inr (Or.inr (Or.inr (Or.inr (Or.inr (Or.inl h)))))))
    · exact (Or.inr (Or.inr (Or.inr (Or.inr (Or.inr (Or.inr (Or.inr (Or.inl h))))))))) (fun a b h => False.elim h))
          exact Fz8.trans (hrec23 h)
set_option maxHeartbeats 4000000 in
set_option maxRecDepth 100000 in
theorem fr_X10_read_l23 {res : Int32 × TT} : ∀ (n : Nat) {T : TT} {x1 : Int32} (h : m_X10_read_l23 n T x1 = some res), Fr (fun a b => (a = 0 ∧ b = 2) ∨ (a = 0 ∧ b = 3) ∨ (a = 0 ∧ b = 4) ∨ (a = 0 ∧ b = 5) ∨ (a = 0 ∧ b = 6) ∨ (a = 0 ∧ b = 7) ∨ (a = 1 ∧ b = 2) ∨ (a = 1 ∧ b = 3) ∨ (a = 1 ∧ b = 4)) (fun a b => (a = 0 ∧ b = 10) ∨ (a = 0 ∧ b = 11) ∨ (a = 0 ∧ b = 7) ∨ (a = 0 ∧ b = 8) ∨ (a = 0 ∧ b = 9) ∨ (a = 1 ∧ b = 10) ∨ (a = 1 ∧ b = 11) ∨ (a = 1 ∧ b = 7) ∨ (a = 1 ∧ b = 8) ∨ (a = 1 ∧ b = 9) ∨ (a = 5 ∧ b = 2) ∨ (a = 5 ∧ b = 3) ∨ (a = 5 ∧ b = 4) ∨ (a = 5 ∧ b = 5) ∨ (a = 5 ∧ b = 6) ∨ (a = 5 ∧ b = 7) ∨ (a = 5 ∧ b = 8) ∨ (a = 5 ∧ b = 9)) (fun _ _ => False) T res.2 := by
  intro n
  induction n with
  | zero =>
    intro T x1 h
    exact no_some h
  | succ n ih =>
    intro T x1 h
    have h : m_X10_read_h23 (m_X10_read_l23 n) T x1 = some res := h
    exact fr_X10_read_h23 (rec23 := m_X10_read_l23 n) (fun h => ih h) h
set_option maxHeartbeats 4000000 in
set_option maxRecDepth 100000 in
theorem fr_X10_read_b22 {res : Int32 × TT} {T : TT} {s0 : Int32} (h : m_X10_read_b22 T s0 = some res) : Fr (fun a b => (a = 0 ∧ b = 2) ∨ (a = 0 ∧ b = 3) ∨ (a = 0 ∧ b = 4) ∨ (a = 0 ∧ b = 5) ∨ (a = 0 ∧ b = 6) ∨ (a = 0 ∧ b = 7) ∨ (a = 1 ∧ b = 2) ∨ (a = 1 ∧ b = 3) ∨ (a = 1 ∧ b = 4)) (fun a b => (a = 0 ∧ b = 10) ∨ (a = 0 ∧ b = 11) ∨ (a = 0 ∧ b = 7) ∨ (a = 0 ∧ b = 8) ∨ (a = 0 ∧ b = 9) ∨ (a = 1 ∧ b = 10) ∨ (a = 1 ∧ b = 11) ∨ (a = 1 ∧ b = 7) ∨ (a = 1 ∧ b = 8) ∨ (a = 1 ∧ b = 9) ∨ (a = 5 ∧ b = 2) ∨ (a = 5 ∧ b = 3) ∨ (a = 5 ∧ b = 4) ∨ (a = 5 ∧ b = 5) ∨ (a = 5 ∧ b = 6) ∨ (a = 5 ∧ b = 7) ∨ (a = 5 ∧ b = 8) ∨ (a = 5 ∧ b = 9)) (fun _ _ => False) T res.2 := by
  unfold m_X10_read_b22 at h
  have F0 : Fr (fun a b => (a = 0 ∧ b = 2) ∨ (a = 0 ∧ b = 3) ∨ (a = 0 ∧ b = 4) ∨ (a = 0 ∧ b = 5) ∨ (a = 0 ∧ b = 6) ∨ (a = 0 ∧ b = 7) ∨ (a = 1 ∧ b = 2) ∨ (a = 1 ∧ b = 3) ∨ (a = 1 ∧ b = 4)) (fun a b => (a = 0 ∧ b = 10) ∨ (a = 0 ∧ b = 11) ∨ (a = 0 ∧ b = 7) ∨ (a = 0 ∧ b = 8) ∨ (a = 0 ∧ b = 9) ∨ (a = 1 ∧ b = 10) ∨ (a = 1 ∧ b = 11) ∨ (a = 1 ∧ b = 7) ∨ (a = 1 ∧ b = 8) ∨ (a = 1 ∧ b = 9) ∨ (a = 5 ∧ b = 2) ∨ (a = 5 ∧ b = 3) ∨ (a = 5 ∧ b = 4) ∨ (a = 5 ∧ b = 5) ∨ (a = 5 ∧ b = 6) ∨ (a = 5 ∧ b = 7) ∨ (a = 5 ∧ b = 8) ∨ (a = 5 ∧ b = 9)) (fun _ _ => False) T T := Fr.rf
  exact F0.trans (fr_X10_read_l23 _ h)
set_option maxHeartbeats 4000000 in
set_option maxRecDepth 100000 in
theorem fr_X10_read {T : TT} {res : Int32 × TT} (h : m_X10_read T = some res) : Fr (fun a b => (a = 0 ∧ b = 2) ∨ (a = 0 ∧ b = 3) ∨ (a = 0 ∧ b = 4) ∨ (a = 0 ∧ b = 5) ∨ (a = 0 ∧ b = 6) ∨ (a = 0 ∧ b = 7) ∨ (a = 1 ∧ b = 2) ∨ (a = 1 ∧ b = 3) ∨ (a = 1 ∧ b = 4)) (fun a b => (a = 0 ∧ b = 10) ∨ (a = 0 ∧ b = 11) ∨ (a = 0 ∧ b = 7) ∨ (a = 0 ∧ b = 8) ∨ (a = 0 ∧ b = 9) ∨ (a = 1 ∧ b = 10) ∨ (a = 1 ∧ b = 11) ∨ (a = 1 ∧ b = 7) ∨ (a = 1 ∧ b = 8) ∨ (a = 1 ∧ b = 9) ∨ (a = 5 ∧ b = 2) ∨ (a = 5 ∧ b = 3) ∨ (a = 5 ∧ b = 4) ∨ (a = 5 ∧ b = 5) ∨ (a = 5 ∧ b = 6) ∨ (a = 5 ∧ b = 7) ∨ (a = 5 ∧ b = 8) ∨ (a = 5 ∧ b = 9)) (fun _ _ => False) T res.2 := by
  unfold m_X10_read at h
  have F0 : Fr (fun a b => (a = 0 ∧ b = 2) ∨ (a = 0 ∧ b = 3) ∨ (a = 0 ∧ b = 4) ∨ (a = 0 ∧ b = 5) ∨ (a = 0 ∧ b = 6) ∨ (a = 0 ∧ b = 7) ∨ (a = 1 ∧ b = 2) ∨ (a = 1 ∧ b = 3) ∨ (a = 1 ∧ b = 4)) (fun a b => (a = 0 ∧ b = 10) ∨ (a = 0 ∧ b = 11) ∨ (a = 0 ∧ b = 7) ∨ (a = 0 ∧ b = 8) ∨ (a = 0 ∧ b = 9) ∨ (a = 1 ∧ b = 10) ∨ (a = 1 ∧ b = 11) ∨ (a = 1 ∧ b = 7) ∨ (a = 1 ∧ b = 8) ∨ (a = 1 ∧ b = 9) ∨ (a = 5 ∧ b = 2) ∨ (a = 5 ∧ b = 3) ∨ (a = 5 ∧ b = 4) ∨ (a = 5 ∧ b = 5) ∨ (a = 5 ∧ b = 6) ∨ (a = 5 ∧ b = 7) ∨ (a = 5 ∧ b = 8) ∨ (a = 5 ∧ b = 9)) (fun _ _ => False) T T := Fr.rf
  obtain ⟨z1, ez1, h⟩ := bnd h
  have Fz1 := F0.trans ((fr_X4_reset ez1).mono (fun a b h => False.elim h) (fun a b h => by
    rcases h with h | h | h | h | h
    · exact (Or.inr (Or.inr (Or.inr (Or.inr (Or.inr (Or.inl h))))))
    · exact (Or.inr (Or.inr (Or.inr (Or.inr (Or.inr (Or.inr (Or.inl h)))))))
    · exact (Or.inr (Or.inr (Or.inr (Or.inr (Or.inr (Or.inr (Or.inr (Or.inl h))))))))
    · exact (Or.inr (Or.inr (Or.inr (Or.inr (Or.inr (Or.inr (Or.inr (Or.inr (Or.inl h)))))))))
    · exact (Or.inr (Or.inr (Or.inr (Or.inr (Or.inr (Or.inr (Or.inr (Or.inr (Or.inr (Or.inl h))))))))))) (fun a b h => False.elim h))
  obtain ⟨z2, ez2, h⟩ := bnd h
  have Fz2 := Fz1.trans ((fr_X9_takesRank ez2).mono (fun a b h => False.elim h) (fun a b h => by
    rcases h with h | h | h | h | h
    · exact (Or.inr (Or.inr (Or.inr (Or.inr (Or.inr (Or.inr (Or.inr (Or.inr (Or.inr (Or.inr (Or.inl h)))))))))))
    · exact (Or.inr (Or.inr (Or.inr (Or.inr (Or.inr (Or.inr (Or.inr (Or.inr (Or.inr (Or.inr (Or.inr (Or.inl h))))))))))))
    · exact (Or.inr (Or.inr (Or.inr (Or.inr (Or.inr (Or.inr (Or.inr (Or.inr (Or.inr (Or.inr (Or.inr (Or.inr (Or.inr (Or.inr (Or.inr (Or.inl h))))))))))))))))
    · exact (Or.inr (Or.inr (Or.inr (Or.inr (Or.inr (Or.inr (Or.inr (Or.inr (Or.inr (Or.inr (Or.inr (Or.inr (Or.inr (Or.inr (Or.inr (Or.inr (Or.inl h)))))))))))))))))
    · exact (Or.inr (Or.inr (Or.inr (Or.inr (Or.inr (Or.inr (Or.inr (Or.inr (Or.inr (Or.inr (Or.inr (Or.inr (Or.inr (Or.inr (Or.inr (Or.inr (Or.inr h)))))))))))))))))) (fun a b h => False.elim h))
  rcases ifo h with h | h
  · exact Fz2.trans (fr_X10_read_b22 h)
  · exact Fz2.trans (fr_X10_read_b22 h)
set_option maxHeartbeats 4000000 in
set_option maxRecDepth 100000 in
theorem fr_X10_days_b17 {res : Int32 × TT} {T : TT} (h : m_X10_days_b17 T = some res) : Fr (fun a b => (a = 0 ∧ b = 3) ∨ (a = 0 ∧ b = 4) ∨ (a = 0 ∧ b = 7) ∨ (a = 4 ∧ b = 4)) (fun a b => (a = 0 ∧ b = 11) ∨ (a = 0 ∧ b = 8)) (fun _ _ => False) T res.2 := by
  unfold m_X10_days_b17 at h
  have F0 : Fr (fun a b => (a = 0 ∧ b = 3) ∨ (a = 0 ∧ b = 4) ∨ (a = 0 ∧ b = 7) ∨ (a = 4 ∧ b = 4)) (fun a b => (a = 0 ∧ b = 11) ∨ (a = 0 ∧ b = 8)) (fun _ _ => False) T T := Fr.rf
  obtain ⟨z7, ez7, h⟩ := bnd h
  have Fz7 := F0.trans ((fr_X10_refuse ez7).mono (fun a b h => (Or.inr (Or.inr (Or.inr h)))) (fun a b h => False.elim h) (fun a b h => False.elim h))
  have hq := some_i h
  subst hq
  exact Fz7
set_option maxHeartbeats 4000000 in
set_option maxRecDepth 100000 in
theorem fr_X10_days {T : TT} {x1 : Int32} {x2 : Int32} {res : Int32 × TT} (h : m_X10_days T x1 x2 = some res) : Fr (fun a b => (a = 0 ∧ b = 3) ∨ (a = 0 ∧ b = 4) ∨ (a = 0 ∧ b = 7) ∨ (a = 4 ∧ b = 4)) (fun a b => (a = 0 ∧ b = 11) ∨ (a = 0 ∧ b = 8)) (fun _ _ => False) T res.2 := by
  unfold m_X10_days at h
  have F0 : Fr (fun a b => (a = 0 ∧ b = 3) ∨ (a = 0 ∧ b = 4) ∨ (a = 0 ∧ b = 7) ∨ (a = 4 ∧ b = 4)) (fun a b => (a = 0 ∧ b = 11) ∨ (a = 0 ∧ b = 8)) (fun _ _ => False) T T := Fr.rf
  obtain ⟨z1, ez1, h⟩ := bnd h
  rcases ifo h with h | h
  · exact F0.trans (fr_X10_days_b17 h)
  · obtain ⟨z2, ez2, h⟩ := bnd h
    rcases ifo h with h | h
    · exact F0.trans (fr_X10_days_b17 h)
    · obtain ⟨z3, ez3, h⟩ := bnd h
      have Fz3 := F0.trans ((fr_X4_remember ez3).mono (fun a b h => (Or.inr (Or.inr (Or.inl h)))) (fun a b h => (Or.inl h)) (fun a b h => False.elim h))
      obtain ⟨z4, ez4, h⟩ := bnd h
      have Fz4 := Fz3.trans ((fr_X4_passDays ez4).mono (fun a b h => by
    rcases h with h | h
    · exact (Or.inl h)
    · exact (Or.inr (Or.inl h))) (fun a b h => (Or.inr h)) (fun a b h => False.elim h))
      have hq := some_i h
      subst hq
      exact Fz4
set_option maxHeartbeats 4000000 in
set_option maxRecDepth 100000 in
theorem fr_X10_day_b18 {res : Int32 × TT} {T : TT} (h : m_X10_day_b18 T = some res) : Fr (fun a b => (a = 0 ∧ b = 3) ∨ (a = 0 ∧ b = 4) ∨ (a = 0 ∧ b = 7) ∨ (a = 4 ∧ b = 4)) (fun a b => (a = 0 ∧ b = 11) ∨ (a = 0 ∧ b = 8)) (fun _ _ => False) T res.2 := by
  unfold m_X10_day_b18 at h
  have F0 : Fr (fun a b => (a = 0 ∧ b = 3) ∨ (a = 0 ∧ b = 4) ∨ (a = 0 ∧ b = 7) ∨ (a = 4 ∧ b = 4)) (fun a b => (a = 0 ∧ b = 11) ∨ (a = 0 ∧ b = 8)) (fun _ _ => False) T T := Fr.rf
  obtain ⟨z7, ez7, h⟩ := bnd h
  have Fz7 := F0.trans ((fr_X10_refuse ez7).mono (fun a b h => (Or.inr (Or.inr (Or.inr h)))) (fun a b h => False.elim h) (fun a b h => False.elim h))
  have hq := some_i h
  subst hq
  exact Fz7
set_option maxHeartbeats 4000000 in
set_option maxRecDepth 100000 in
theorem fr_X10_day {T : TT} {x1 : Int32} {x2 : Int32} {res : Int32 × TT} (h : m_X10_day T x1 x2 = some res) : Fr (fun a b => (a = 0 ∧ b = 3) ∨ (a = 0 ∧ b = 4) ∨ (a = 0 ∧ b = 7) ∨ (a = 4 ∧ b = 4)) (fun a b => (a = 0 ∧ b = 11) ∨ (a = 0 ∧ b = 8)) (fun _ _ => False) T res.2 := by
  unfold m_X10_day at h
  have F0 : Fr (fun a b => (a = 0 ∧ b = 3) ∨ (a = 0 ∧ b = 4) ∨ (a = 0 ∧ b = 7) ∨ (a = 4 ∧ b = 4)) (fun a b => (a = 0 ∧ b = 11) ∨ (a = 0 ∧ b = 8)) (fun _ _ => False) T T := Fr.rf
  obtain ⟨z1, ez1, h⟩ := bnd h
  rcases ifo h with h | h
  · exact F0.trans (fr_X10_day_b18 h)
  · obtain ⟨z2, ez2, h⟩ := bnd h
    rcases ifo h with h | h
    · exact F0.trans (fr_X10_day_b18 h)
    · obtain ⟨z3, ez3, h⟩ := bnd h
      have Fz3 := F0.trans ((fr_X4_remember ez3).mono (fun a b h => (Or.inr (Or.inr (Or.inl h)))) (fun a b h => (Or.inl h)) (fun a b h => False.elim h))
      obtain ⟨z4, ez4, h⟩ := bnd h
      have Fz4 := Fz3.trans ((fr_X4_passDays ez4).mono (fun a b h => by
    rcases h with h | h
    · exact (Or.inl h)
    · exact (Or.inr (Or.inl h))) (fun a b h => (Or.inr h)) (fun a b h => False.elim h))
      have hq := some_i h
      subst hq
      exact Fz4
set_option maxHeartbeats 4000000 in
set_option maxRecDepth 100000 in
theorem fr_X10_undo {T : TT} {res : Int32 × TT} (h : m_X10_undo T = some res) : Fr (fun a b => (a = 0 ∧ b = 3) ∨ (a = 0 ∧ b = 4) ∨ (a = 4 ∧ b = 4)) (fun a b => (a = 0 ∧ b = 11) ∨ (a = 0 ∧ b = 8)) (fun _ _ => False) T res.2 := by
  unfold m_X10_undo at h
  have F0 : Fr (fun a b => (a = 0 ∧ b = 3) ∨ (a = 0 ∧ b = 4) ∨ (a = 4 ∧ b = 4)) (fun a b => (a = 0 ∧ b = 11) ∨ (a = 0 ∧ b = 8)) (fun _ _ => False) T T := Fr.rf
  rcases ifo h with h | h
  · obtain ⟨z1, ez1, h⟩ := bnd h
    have Fz1 := F0.trans ((fr_X4_takeBack ez1).mono (fun a b h => by
    rcases h with h | h
    · exact (Or.inl h)
    · exact (Or.inr (Or.inl h))) (fun a b h => h) (fun a b h => False.elim h))
    have hq := some_i h
    subst hq
    exact Fz1
  · obtain ⟨z2, ez2, h⟩ := bnd h
    have Fz2 := F0.trans ((fr_X10_refuse ez2).mono (fun a b h => (Or.inr (Or.inr h))) (fun a b h => False.elim h) (fun a b h => False.elim h))
    have hq := some_i h
    subst hq
    exact Fz2
set_option maxHeartbeats 4000000 in
set_option maxRecDepth 100000 in
theorem fr_X10_of {T : TT} {x1 : Int32} {x2 : Int32} {res : Int32 × TT} (h : m_X10_of T x1 x2 = some res) : Fr (fun a b => (a = 4 ∧ b = 4)) (fun _ _ => False) (fun _ _ => False) T res.2 := by
  unfold m_X10_of at h
  have F0 : Fr (fun a b => (a = 4 ∧ b = 4)) (fun _ _ => False) (fun _ _ => False) T T := Fr.rf
  obtain ⟨z1, ez1, h⟩ := bnd h
  rcases ifo h with h | h
  · obtain ⟨z6, ez6, h⟩ := bnd h
    have Fz6 := F0.trans ((fr_X10_refuse ez6).mono (fun a b h => h) (fun a b h => False.elim h) (fun a b h => False.elim h))
    have hq := some_i h
    subst hq
    exact Fz6
  · rcases ifo h with h | h
    · obtain ⟨gi, h⟩ := gd h
      have hq := some_i h
      subst hq
      exact F0
    · rcases ifo h with h | h
      · obtain ⟨gi, h⟩ := gd h
        have hq := some_i h
        subst hq
        exact F0
      · rcases ifo h with h | h
        · obtain ⟨gi, h⟩ := gd h
          have hq := some_i h
          subst hq
          exact F0
        · obtain ⟨z5, ez5, h⟩ := bnd h
          have Fz5 := F0.trans ((fr_X10_refuse ez5).mono (fun a b h => h) (fun a b h => False.elim h) (fun a b h => False.elim h))
          have hq := some_i h
          subst hq
          exact Fz5
set_option maxHeartbeats 4000000 in
set_option maxRecDepth 100000 in
theorem fr_X10_today_b30 {res : Int32 × TT} {T : TT} {x1 : Int32} {x2 : Int32} (h : m_X10_today_b30 T x1 x2 = some res) : Fr (fun a b => (a = 4 ∧ b = 4)) (fun _ _ => False) (fun _ _ => False) T res.2 := by
  unfold m_X10_today_b30 at h
  have F0 : Fr (fun a b => (a = 4 ∧ b = 4)) (fun _ _ => False) (fun _ _ => False) T T := Fr.rf
  obtain ⟨z6, ez6, h⟩ := bnd h
  obtain ⟨gi, h⟩ := gd h
  obtain ⟨y7, ey7, h⟩ := bTe h
  rcases ifo h with h | h
  · obtain ⟨z9, ez9, h⟩ := bnd h
    obtain ⟨z10, ez10, h⟩ := bnd h
    have hq := some_i h
    subst hq
    exact F0
  · obtain ⟨z8, ez8, h⟩ := bnd h
    have hq := some_i h
    subst hq
    exact F0
set_option maxHeartbeats 4000000 in
set_option maxRecDepth 100000 in
theorem fr_X10_today_b23 {res : Int32 × TT} {T : TT} (h : m_X10_today_b23 T = some res) : Fr (fun a b => (a = 4 ∧ b = 4)) (fun _ _ => False) (fun _ _ => False) T res.2 := by
  unfold m_X10_today_b23 at h
  have F0 : Fr (fun a b => (a = 4 ∧ b = 4)) (fun _ _ => False) (fun _ _ => False) T T := Fr.rf
  obtain ⟨z12, ez12, h⟩ := bnd h
  have Fz12 := F0.trans ((fr_X10_refuse ez12).mono (fun a b h => h) (fun a b h => False.elim h) (fun a b h => False.elim h))
  have hq := some_i h
  subst hq
  exact Fz12
set_option maxHeartbeats 4000000 in
set_option maxRecDepth 100000 in
theorem fr_X10_today {T : TT} {x1 : Int32} {x2 : Int32} {res : Int32 × TT} (h : m_X10_today T x1 x2 = some res) : Fr (fun a b => (a = 4 ∧ b = 4)) (fun _ _ => False) (fun _ _ => False) T res.2 := by
  unfold m_X10_today at h
  have F0 : Fr (fun a b => (a = 4 ∧ b = 4)) (fun _ _ => False) (fun _ _ => False) T T := Fr.rf
  obtain ⟨z1, ez1, h⟩ := bnd h
  rcases ifo h with h | h
  · exact F0.trans (fr_X10_today_b23 h)
  · rcases ifo h with h | h
    · exact F0.trans (fr_X10_today_b30 h)
    · obtain ⟨z2, ez2, h⟩ := bnd h
      rcases ifo h with h | h
      · exact F0.trans (fr_X10_today_b23 h)
      · exact F0.trans (fr_X10_today_b30 h)
set_option maxHeartbeats 4000000 in
set_option maxRecDepth 100000 in
theorem fr_X10_then_b116 {rec80 : TT → Int32 → Int32 → Int32 → (Nat × Nat) → Int32 → Int32 → Int32 → Option (Int32 × TT)} {res : Int32 × TT} (hrec80 : ∀ {T : TT} {x2 : Int32} {x3 : Int32} {x4 : Int32} {hx5 : Nat × Nat} {x6 : Int32} {x7 : Int32} {x8 : Int32}, rec80 T x2 x3 x4 hx5 x6 x7 x8 = some res → Fr (fun a b => (a = 4 ∧ b = 4)) (fun _ _ => False) (fun _ _ => False) T res.2) {T : TT} {x2 : Int32} {x3 : Int32} {x4 : Int32} {hx5 : Nat × Nat} {x6 : Int32} {x8 : Int32} {s0 : Int32} {s1 : Int32} (h : m_X10_then_b116 rec80 T x2 x3 x4 hx5 x6 x8 s0 s1 = some res) : Fr (fun a b => (a = 4 ∧ b = 4)) (fun _ _ => False) (fun _ _ => False) T res.2 := by
  unfold m_X10_then_b116 at h
  have F0 : Fr (fun a b => (a = 4 ∧ b = 4)) (fun _ _ => False) (fun _ _ => False) T T := Fr.rf
  obtain ⟨y17, ey17, h⟩ := bTe h
  obtain ⟨z18, ez18, h⟩ := bnd h
  obtain ⟨y19, ey19, h⟩ := bTe h
  exact F0.trans (hrec80 h)
set_option maxHeartbeats 4000000 in
set_option maxRecDepth 100000 in
theorem fr_X10_then_h80 {rec80 : TT → Int32 → Int32 → Int32 → (Nat × Nat) → Int32 → Int32 → Int32 → Option (Int32 × TT)} {res : Int32 × TT} (hrec80 : ∀ {T : TT} {x2 : Int32} {x3 : Int32} {x4 : Int32} {hx5 : Nat × Nat} {x6 : Int32} {x7 : Int32} {x8 : Int32}, rec80 T x2 x3 x4 hx5 x6 x7 x8 = some res → Fr (fun a b => (a = 4 ∧ b = 4)) (fun _ _ => False) (fun _ _ => False) T res.2) {T : TT} {x2 : Int32} {x3 : Int32} {x4 : Int32} {hx5 : Nat × Nat} {x6 : Int32} {x7 : Int32} {x8 : Int32} (h : m_X10_then_h80 rec80 T x2 x3 x4 hx5 x6 x7 x8 = some res) : Fr (fun a b => (a = 4 ∧ b = 4)) (fun _ _ => False) (fun _ _ => False) T res.2 := by
  unfold m_X10_then_h80 at h
  have F0 : Fr (fun a b => (a = 4 ∧ b = 4)) (fun _ _ => False) (fun _ _ => False) T T := Fr.rf
  rcases ifo h with h | h
  · rcases ifo h with h | h
    · have hq := some_i h
      subst hq
      exact F0
    · have hq := some_i h
      subst hq
      exact F0
  · rcases ifo h with h | h
    · obtain ⟨z13, ez13, h⟩ := bnd h
      obtain ⟨z14, ez14, h⟩ := bnd h
      exact F0.trans (fr_X10_then_b116 hrec80 h)
    · exact F0.trans (fr_X10_then_b116 hrec80 h)
set_option maxHeartbeats 4000000 in
set_option maxRecDepth 100000 in
theorem fr_X10_then_l80 {res : Int32 × TT} : ∀ (n : Nat) {T : TT} {x2 : Int32} {x3 : Int32} {x4 : Int32} {hx5 : Nat × Nat} {x6 : Int32} {x7 : Int32} {x8 : Int32} (h : m_X10_then_l80 n T x2 x3 x4 hx5 x6 x7 x8 = some res), Fr (fun a b => (a = 4 ∧ b = 4)) (fun _ _ => False) (fun _ _ => False) T res.2 := by
  intro n
  induction n with
  | zero =>
    intro T x2 x3 x4 hx5 x6 x7 x8 h
    exact no_some h
  | succ n ih =>
    intro T x2 x3 x4 hx5 x6 x7 x8 h
    have h : m_X10_then_h80 (m_X10_then_l80 n) T x2 x3 x4 hx5 x6 x7 x8 = some res := h
    exact fr_X10_then_h80 (rec80 := m_X10_then_l80 n) (fun h => ih h) h
set_option maxHeartbeats 4000000 in
set_option maxRecDepth 100000 in
theorem fr_X10_then_b38 {res : Int32 × TT} {T : TT} (h : m_X10_then_b38 T = some res) : Fr (fun a b => (a = 4 ∧ b = 4)) (fun _ _ => False) (fun _ _ => False) T res.2 := by
  unfold m_X10_then_b38 at h
  have F0 : Fr (fun a b => (a = 4 ∧ b = 4)) (fun _ _ => False) (fun _ _ => False) T T := Fr.rf
  obtain ⟨z20, ez20, h⟩ := bnd h
  have Fz20 := F0.trans ((fr_X10_refuse ez20).mono (fun a b h => h) (fun a b h => False.elim h) (fun a b h => False.elim h))
  have hq := some_i h
  subst hq
  exact Fz20
set_option maxHeartbeats 4000000 in
set_option maxRecDepth 100000 in
theorem fr_X10_then {T : TT} {x1 : Int32} {x2 : Int32} {x3 : Int32} {x4 : Int32} {res : Int32 × TT} (h : m_X10_then T x1 x2 x3 x4 = some res) : Fr (fun a b => (a = 4 ∧ b = 4)) (fun _ _ => False) (fun _ _ => False) T res.2 := by
  unfold m_X10_then at h
  have F0 : Fr (fun a b => (a = 4 ∧ b = 4)) (fun _ _ => False) (fun _ _ => False) T T := Fr.rf
  obtain ⟨z1, ez1, h⟩ := bnd h
  rcases ifo h with h | h
  · exact F0.trans (fr_X10_then_b38 h)
  · obtain ⟨z2, ez2, h⟩ := bnd h
    rcases ifo h with h | h
    · exact F0.trans (fr_X10_then_b38 h)
    · obtain ⟨z3, ez3, h⟩ := bnd h
      rcases ifo h with h | h
      · exact F0.trans (fr_X10_then_b38 h)
      · obtain ⟨z4, ez4, h⟩ := bnd h
        rcases ifo h with h | h
        · exact F0.trans (fr_X10_then_b38 h)
        · obtain ⟨z5, ez5, h⟩ := bnd h
          obtain ⟨gi, h⟩ := gd h
          obtain ⟨y6, ey6, h⟩ := bTe h
          obtain ⟨gi, h⟩ := gd h
          obtain ⟨y7, ey7, h⟩ := bTe h
          exact F0.trans (fr_X10_then_l80 _ h)
set_option maxHeartbeats 4000000 in
set_option maxRecDepth 100000 in
theorem fr_X10_over_h40 {rec40 : TT → (Nat × Nat) → Int32 → Int32 → Option (Int32 × TT)} {res : Int32 × TT} (hrec40 : ∀ {T : TT} {hx2 : Nat × Nat} {x3 : Int32} {x4 : Int32}, rec40 T hx2 x3 x4 = some res → Fr (fun a b => (a = 4 ∧ b = 4)) (fun _ _ => False) (fun _ _ => False) T res.2) {T : TT} {hx2 : Nat × Nat} {x3 : Int32} {x4 : Int32} (h : m_X10_over_h40 rec40 T hx2 x3 x4 = some res) : Fr (fun a b => (a = 4 ∧ b = 4)) (fun _ _ => False) (fun _ _ => False) T res.2 := by
  unfold m_X10_over_h40 at h
  have F0 : Fr (fun a b => (a = 4 ∧ b = 4)) (fun _ _ => False) (fun _ _ => False) T T := Fr.rf
  rcases ifo h with h | h
  · have hq := some_i h
    subst hq
    exact F0
  · rcases ifo h with h | h
    · have hq := some_i h
      subst hq
      exact F0
    · obtain ⟨z6, ez6, h⟩ := bnd h
      obtain ⟨y7, ey7, h⟩ := bTe h
      exact F0.trans (hrec40 h)
set_option maxHeartbeats 4000000 in
set_option maxRecDepth 100000 in
theorem fr_X10_over_l40 {res : Int32 × TT} : ∀ (n : Nat) {T : TT} {hx2 : Nat × Nat} {x3 : Int32} {x4 : Int32} (h : m_X10_over_l40 n T hx2 x3 x4 = some res), Fr (fun a b => (a = 4 ∧ b = 4)) (fun _ _ => False) (fun _ _ => False) T res.2 := by
  intro n
  induction n with
  | zero =>
    intro T hx2 x3 x4 h
    exact no_some h
  | succ n ih =>
    intro T hx2 x3 x4 h
    have h : m_X10_over_h40 (m_X10_over_l40 n) T hx2 x3 x4 = some res := h
    exact fr_X10_over_h40 (rec40 := m_X10_over_l40 n) (fun h => ih h) h
set_option maxHeartbeats 4000000 in
set_option maxRecDepth 100000 in
theorem fr_X10_over {T : TT} {x1 : Int32} {res : Int32 × TT} (h : m_X10_over T x1 = some res) : Fr (fun a b => (a = 4 ∧ b = 4)) (fun _ _ => False) (fun _ _ => False) T res.2 := by
  unfold m_X10_over at h
  have F0 : Fr (fun a b => (a = 4 ∧ b = 4)) (fun _ _ => False) (fun _ _ => False) T T := Fr.rf
  obtain ⟨z1, ez1, h⟩ := bnd h
  rcases ifo h with h | h
  · obtain ⟨z4, ez4, h⟩ := bnd h
    have Fz4 := F0.trans ((fr_X10_refuse ez4).mono (fun a b h => h) (fun a b h => False.elim h) (fun a b h => False.elim h))
    have hq := some_i h
    subst hq
    exact Fz4
  · obtain ⟨z2, ez2, h⟩ := bnd h
    obtain ⟨gi, h⟩ := gd h
    obtain ⟨y3, ey3, h⟩ := bTe h
    exact F0.trans (fr_X10_over_l40 _ h)
set_option maxHeartbeats 4000000 in
set_option maxRecDepth 100000 in
theorem fr_X10_most_b26 {res : Int32 × TT} {T : TT} (h : m_X10_most_b26 T = some res) : Fr (fun a b => (a = 4 ∧ b = 4) ∨ a = 8 ∨ a = 9) (fun a b => (a = 6 ∧ b = 3) ∨ (a = 6 ∧ b = 4) ∨ (a = 6 ∧ b = 5)) (fun _ _ => False) T res.2 := by
  unfold m_X10_most_b26 at h
  have F0 : Fr (fun a b => (a = 4 ∧ b = 4) ∨ a = 8 ∨ a = 9) (fun a b => (a = 6 ∧ b = 3) ∨ (a = 6 ∧ b = 4) ∨ (a = 6 ∧ b = 5)) (fun _ _ => False) T T := Fr.rf
  obtain ⟨z11, ez11, h⟩ := bnd h
  have Fz11 := F0.trans ((fr_X10_refuse ez11).mono (fun a b h => (Or.inl h)) (fun a b h => False.elim h) (fun a b h => False.elim h))
  have hq := some_i h
  subst hq
  exact Fz11
set_option maxHeartbeats 4000000 in
set_option maxRecDepth 100000 in
theorem fr_X10_most {T : TT} {x1 : Int32} {x2 : Int32} {x3 : Int32} {res : Int32 × TT} (h : m_X10_most T x1 x2 x3 = some res) : Fr (fun a b => (a = 4 ∧ b = 4) ∨ a = 8 ∨ a = 9) (fun a b => (a = 6 ∧ b = 3) ∨ (a = 6 ∧ b = 4) ∨ (a = 6 ∧ b = 5)) (fun _ _ => False) T res.2 := by
  unfold m_X10_most at h
  have F0 : Fr (fun a b => (a = 4 ∧ b = 4) ∨ a = 8 ∨ a = 9) (fun a b => (a = 6 ∧ b = 3) ∨ (a = 6 ∧ b = 4) ∨ (a = 6 ∧ b = 5)) (fun _ _ => False) T T := Fr.rf
  obtain ⟨z1, ez1, h⟩ := bnd h
  rcases ifo h with h | h
  · exact F0.trans (fr_X10_most_b26 h)
  · obtain ⟨z2, ez2, h⟩ := bnd h
    rcases ifo h with h | h
    · exact F0.trans (fr_X10_most_b26 h)
    · rcases ifo h with h | h
      · rcases ifo h with h | h
        · obtain ⟨z3, ez3, h⟩ := bnd h
          have Fz3 := F0.trans ((fr_X5_reckon ez3).mono (fun a b h => by
    rcases h with h | h
    · exact (Or.inr (Or.inl h))
    · exact (Or.inr (Or.inr h))) (fun a b h => h) (fun a b h => False.elim h))
          rcases ifo h with h | h
          · obtain ⟨z5, ez5, h⟩ := bnd h
            have hq := some_i h
            subst hq
            exact Fz3
          · obtain ⟨z4, ez4, h⟩ := bnd h
            have hq := some_i h
            subst hq
            exact Fz3
        · have hq := some_i h
          subst hq
          exact F0
      · exact F0.trans (fr_X10_most_b26 h)
set_option maxHeartbeats 4000000 in
set_option maxRecDepth 100000 in
theorem fr_X10_soonest_b22 {res : Int32 × TT} {T : TT} (h : m_X10_soonest_b22 T = some res) : Fr (fun a b => (a = 4 ∧ b = 4) ∨ a = 8 ∨ a = 9) (fun a b => (a = 6 ∧ b = 3) ∨ (a = 6 ∧ b = 4) ∨ (a = 6 ∧ b = 5)) (fun _ _ => False) T res.2 := by
  unfold m_X10_soonest_b22 at h
  have F0 : Fr (fun a b => (a = 4 ∧ b = 4) ∨ a = 8 ∨ a = 9) (fun a b => (a = 6 ∧ b = 3) ∨ (a = 6 ∧ b = 4) ∨ (a = 6 ∧ b = 5)) (fun _ _ => False) T T := Fr.rf
  obtain ⟨z7, ez7, h⟩ := bnd h
  have Fz7 := F0.trans ((fr_X10_refuse ez7).mono (fun a b h => (Or.inl h)) (fun a b h => False.elim h) (fun a b h => False.elim h))
  have hq := some_i h
  subst hq
  exact Fz7
set_option maxHeartbeats 4000000 in
set_option maxRecDepth 100000 in
theorem fr_X10_soonest {T : TT} {x1 : Int32} {x2 : Int32} {res : Int32 × TT} (h : m_X10_soonest T x1 x2 = some res) : Fr (fun a b => (a = 4 ∧ b = 4) ∨ a = 8 ∨ a = 9) (fun a b => (a = 6 ∧ b = 3) ∨ (a = 6 ∧ b = 4) ∨ (a = 6 ∧ b = 5)) (fun _ _ => False) T res.2 := by
  unfold m_X10_soonest at h
  have F0 : Fr (fun a b => (a = 4 ∧ b = 4) ∨ a = 8 ∨ a = 9) (fun a b => (a = 6 ∧ b = 3) ∨ (a = 6 ∧ b = 4) ∨ (a = 6 ∧ b = 5)) (fun _ _ => False) T T := Fr.rf
  obtain ⟨z1, ez1, h⟩ := bnd h
  rcases ifo h with h | h
  · exact F0.trans (fr_X10_soonest_b22 h)
  · obtain ⟨z2, ez2, h⟩ := bnd h
    rcases ifo h with h | h
    · exact F0.trans (fr_X10_soonest_b22 h)
    · obtain ⟨z3, ez3, h⟩ := bnd h
      have Fz3 := F0.trans ((fr_X5_reckon ez3).mono (fun a b h => by
    rcases h with h | h
    · exact (Or.inr (Or.inl h))
    · exact (Or.inr (Or.inr h))) (fun a b h => h) (fun a b h => False.elim h))
      obtain ⟨z4, ez4, h⟩ := bnd h
      have hq := some_i h
      subst hq
      exact Fz3
set_option maxHeartbeats 4000000 in
set_option maxRecDepth 100000 in
theorem fr_X10_home_b30 {res : Int32 × TT} {T : TT} (h : m_X10_home_b30 T = some res) : Fr (fun a b => (a = 4 ∧ b = 4) ∨ a = 8 ∨ a = 9) (fun a b => (a = 6 ∧ b = 3) ∨ (a = 6 ∧ b = 4) ∨ (a = 6 ∧ b = 5)) (fun _ _ => False) T res.2 := by
  unfold m_X10_home_b30 at h
  have F0 : Fr (fun a b => (a = 4 ∧ b = 4) ∨ a = 8 ∨ a = 9) (fun a b => (a = 6 ∧ b = 3) ∨ (a = 6 ∧ b = 4) ∨ (a = 6 ∧ b = 5)) (fun _ _ => False) T T := Fr.rf
  obtain ⟨z12, ez12, h⟩ := bnd h
  have Fz12 := F0.trans ((fr_X10_refuse ez12).mono (fun a b h => (Or.inl h)) (fun a b h => False.elim h) (fun a b h => False.elim h))
  have hq := some_i h
  subst hq
  exact Fz12
set_option maxHeartbeats 4000000 in
set_option maxRecDepth 100000 in
theorem fr_X10_home {T : TT} {x1 : Int32} {x2 : Int32} {x3 : Int32} {res : Int32 × TT} (h : m_X10_home T x1 x2 x3 = some res) : Fr (fun a b => (a = 4 ∧ b = 4) ∨ a = 8 ∨ a = 9) (fun a b => (a = 6 ∧ b = 3) ∨ (a = 6 ∧ b = 4) ∨ (a = 6 ∧ b = 5)) (fun _ _ => False) T res.2 := by
  unfold m_X10_home at h
  have F0 : Fr (fun a b => (a = 4 ∧ b = 4) ∨ a = 8 ∨ a = 9) (fun a b => (a = 6 ∧ b = 3) ∨ (a = 6 ∧ b = 4) ∨ (a = 6 ∧ b = 5)) (fun _ _ => False) T T := Fr.rf
  obtain ⟨z1, ez1, h⟩ := bnd h
  rcases ifo h with h | h
  · exact F0.trans (fr_X10_home_b30 h)
  · obtain ⟨z2, ez2, h⟩ := bnd h
    rcases ifo h with h | h
    · exact F0.trans (fr_X10_home_b30 h)
    · obtain ⟨z3, ez3, h⟩ := bnd h
      rcases ifo h with h | h
      · exact F0.trans (fr_X10_home_b30 h)
      · obtain ⟨z4, ez4, h⟩ := bnd h
        have Fz4 := F0.trans ((fr_X5_reckon ez4).mono (fun a b h => by
    rcases h with h | h
    · exact (Or.inr (Or.inl h))
    · exact (Or.inr (Or.inr h))) (fun a b h => h) (fun a b h => False.elim h))
        rcases ifo h with h | h
        · obtain ⟨z7, ez7, h⟩ := bnd h
          have hq := some_i h
          subst hq
          exact Fz4
        · obtain ⟨z5, ez5, h⟩ := bnd h
          obtain ⟨z6, ez6, h⟩ := bnd h
          have hq := some_i h
          subst hq
          exact Fz4
set_option maxHeartbeats 4000000 in
set_option maxRecDepth 100000 in
theorem fr_X10_tell_b26 {res : Int32 × TT} {T : TT} {x1 : Int32} (h : m_X10_tell_b26 T x1 = some res) : Fr (fun a b => (a = 4 ∧ b = 4) ∨ (a = 7 ∧ b = 1) ∨ (a = 7 ∧ b = 2)) (fun a b => (a = 7 ∧ b = 1)) (fun _ _ => False) T res.2 := by
  unfold m_X10_tell_b26 at h
  have F0 : Fr (fun a b => (a = 4 ∧ b = 4) ∨ (a = 7 ∧ b = 1) ∨ (a = 7 ∧ b = 2)) (fun a b => (a = 7 ∧ b = 1)) (fun _ _ => False) T T := Fr.rf
  obtain ⟨z5, ez5, h⟩ := bnd h
  have Fz5 := F0.trans ((fr_X2_reckon ez5).mono (fun a b h => by
    rcases h with h | h
    · exact (Or.inr (Or.inl h))
    · exact (Or.inr (Or.inr h))) (fun a b h => h) (fun a b h => False.elim h))
  rcases ifo h with h | h
  · have hq := some_i h
    subst hq
    exact Fz5
  · obtain ⟨gi, h⟩ := gd h
    have hq := some_i h
    subst hq
    exact Fz5
set_option maxHeartbeats 4000000 in
set_option maxRecDepth 100000 in
theorem fr_X10_tell {T : TT} {x1 : Int32} {res : Int32 × TT} (h : m_X10_tell T x1 = some res) : Fr (fun a b => (a = 4 ∧ b = 4) ∨ (a = 7 ∧ b = 1) ∨ (a = 7 ∧ b = 2)) (fun a b => (a = 7 ∧ b = 1)) (fun _ _ => False) T res.2 := by
  unfold m_X10_tell at h
  have F0 : Fr (fun a b => (a = 4 ∧ b = 4) ∨ (a = 7 ∧ b = 1) ∨ (a = 7 ∧ b = 2)) (fun a b => (a = 7 ∧ b = 1)) (fun _ _ => False) T T := Fr.rf
  rcases ifo h with h | h
  · exact F0.trans (fr_X10_tell_b26 h)
  · obtain ⟨z1, ez1, h⟩ := bnd h
    rcases ifo h with h | h
    · obtain ⟨z2, ez2, h⟩ := bnd h
      have Fz2 := F0.trans ((fr_X10_refuse ez2).mono (fun a b h => (Or.inl h)) (fun a b h => False.elim h) (fun a b h => False.elim h))
      have hq := some_i h
      subst hq
      exact Fz2
    · exact F0.trans (fr_X10_tell_b26 h)
set_option maxHeartbeats 4000000 in
set_option maxRecDepth 100000 in
theorem fr_X10_note_b73 {res : Int32 × TT} {T : TT} (h : m_X10_note_b73 T = some res) : Fr (fun a b => (a = 0 ∧ b = 5) ∨ (a = 4 ∧ b = 4)) (fun a b => (a = 0 ∧ b = 9)) (fun _ _ => False) T res.2 := by
  unfold m_X10_note_b73 at h
  have F0 : Fr (fun a b => (a = 0 ∧ b = 5) ∨ (a = 4 ∧ b = 4)) (fun a b => (a = 0 ∧ b = 9)) (fun _ _ => False) T T := Fr.rf
  obtain ⟨z16, ez16, h⟩ := bnd h
  have Fz16 := F0.trans ((fr_X10_refuse ez16).mono (fun a b h => (Or.inr h)) (fun a b h => False.elim h) (fun a b h => False.elim h))
  have hq := some_i h
  subst hq
  exact Fz16
set_option maxHeartbeats 4000000 in
set_option maxRecDepth 100000 in
theorem fr_X10_note_b35 {res : Int32 × TT} {T : TT} {x1 : Int32} {x2 : Int32} {x3 : Int32} {x4 : Int32} {x5 : Int32} {x6 : Int32} {s0 : Int32} (h : m_X10_note_b35 T x1 x2 x3 x4 x5 x6 s0 = some res) : Fr (fun a b => (a = 0 ∧ b = 5) ∨ (a = 4 ∧ b = 4)) (fun a b => (a = 0 ∧ b = 9)) (fun _ _ => False) T res.2 := by
  unfold m_X10_note_b35 at h
  have F0 : Fr (fun a b => (a = 0 ∧ b = 5) ∨ (a = 4 ∧ b = 4)) (fun a b => (a = 0 ∧ b = 9)) (fun _ _ => False) T T := Fr.rf
  rcases ifo h with h | h
  · exact F0.trans (fr_X10_note_b73 h)
  · obtain ⟨z7, ez7, h⟩ := bnd h
    rcases ifo h with h | h
    · exact F0.trans (fr_X10_note_b73 h)
    · obtain ⟨z8, ez8, h⟩ := bnd h
      rcases ifo h with h | h
      · exact F0.trans (fr_X10_note_b73 h)
      · obtain ⟨z9, ez9, h⟩ := bnd h
        rcases ifo h with h | h
        · exact F0.trans (fr_X10_note_b73 h)
        · obtain ⟨z10, ez10, h⟩ := bnd h
          have Fz10 := F0.trans ((fr_X4_addNote ez10).mono (fun a b h => (Or.inl h)) (fun a b h => h) (fun a b h => False.elim h))
          obtain ⟨z11, ez11, h⟩ := bnd h
          have Fz11 := Fz10.trans ((fr_X10_refuseIfFull ez11).mono (fun a b h => (Or.inr h)) (fun a b h => False.elim h) (fun a b h => False.elim h))
          have hq := some_i h
          subst hq
          exact Fz11
set_option maxHeartbeats 4000000 in
set_option maxRecDepth 100000 in
theorem fr_X10_note_b34 {res : Int32 × TT} {T : TT} {x1 : Int32} {x2 : Int32} {x3 : Int32} {x4 : Int32} {x5 : Int32} {x6 : Int32} (h : m_X10_note_b34 T x1 x2 x3 x4 x5 x6 = some res) : Fr (fun a b => (a = 0 ∧ b = 5) ∨ (a = 4 ∧ b = 4)) (fun a b => (a = 0 ∧ b = 9)) (fun _ _ => False) T res.2 := by
  unfold m_X10_note_b34 at h
  have F0 : Fr (fun a b => (a = 0 ∧ b = 5) ∨ (a = 4 ∧ b = 4)) (fun a b => (a = 0 ∧ b = 9)) (fun _ _ => False) T T := Fr.rf
  exact F0.trans (fr_X10_note_b35 h)
set_option maxHeartbeats 4000000 in
set_option maxRecDepth 100000 in
theorem fr_X10_note {T : TT} {x1 : Int32} {x2 : Int32} {x3 : Int32} {x4 : Int32} {x5 : Int32} {x6 : Int32} {res : Int32 × TT} (h : m_X10_note T x1 x2 x3 x4 x5 x6 = some res) : Fr (fun a b => (a = 0 ∧ b = 5) ∨ (a = 4 ∧ b = 4)) (fun a b => (a = 0 ∧ b = 9)) (fun _ _ => False) T res.2 := by
  unfold m_X10_note at h
  have F0 : Fr (fun a b => (a = 0 ∧ b = 5) ∨ (a = 4 ∧ b = 4)) (fun a b => (a = 0 ∧ b = 9)) (fun _ _ => False) T T := Fr.rf
  obtain ⟨z1, ez1, h⟩ := bnd h
  rcases ifo h with h | h
  · exact F0.trans (fr_X10_note_b34 h)
  · obtain ⟨z2, ez2, h⟩ := bnd h
    rcases ifo h with h | h
    · exact F0.trans (fr_X10_note_b34 h)
    · obtain ⟨z3, ez3, h⟩ := bnd h
      rcases ifo h with h | h
      · exact F0.trans (fr_X10_note_b34 h)
      · exact F0.trans (fr_X10_note_b35 h)
set_option maxHeartbeats 4000000 in
set_option maxRecDepth 100000 in
theorem fr_X10_gone_b32 {res : Int32 × TT} {T : TT} (h : m_X10_gone_b32 T = some res) : Fr (fun a b => (a = 0 ∧ b = 6) ∨ (a = 4 ∧ b = 4)) (fun a b => (a = 0 ∧ b = 10)) (fun _ _ => False) T res.2 := by
  unfold m_X10_gone_b32 at h
  have F0 : Fr (fun a b => (a = 0 ∧ b = 6) ∨ (a = 4 ∧ b = 4)) (fun a b => (a = 0 ∧ b = 10)) (fun _ _ => False) T T := Fr.rf
  obtain ⟨z9, ez9, h⟩ := bnd h
  have Fz9 := F0.trans ((fr_X10_refuse ez9).mono (fun a b h => (Or.inr h)) (fun a b h => False.elim h) (fun a b h => False.elim h))
  have hq := some_i h
  subst hq
  exact Fz9
set_option maxHeartbeats 4000000 in
set_option maxRecDepth 100000 in
theorem fr_X10_gone {T : TT} {x1 : Int32} {x2 : Int32} {x3 : Int32} {res : Int32 × TT} (h : m_X10_gone T x1 x2 x3 = some res) : Fr (fun a b => (a = 0 ∧ b = 6) ∨ (a = 4 ∧ b = 4)) (fun a b => (a = 0 ∧ b = 10)) (fun _ _ => False) T res.2 := by
  unfold m_X10_gone at h
  have F0 : Fr (fun a b => (a = 0 ∧ b = 6) ∨ (a = 4 ∧ b = 4)) (fun a b => (a = 0 ∧ b = 10)) (fun _ _ => False) T T := Fr.rf
  obtain ⟨z1, ez1, h⟩ := bnd h
  rcases ifo h with h | h
  · exact F0.trans (fr_X10_gone_b32 h)
  · obtain ⟨z2, ez2, h⟩ := bnd h
    rcases ifo h with h | h
    · exact F0.trans (fr_X10_gone_b32 h)
    · obtain ⟨z3, ez3, h⟩ := bnd h
      rcases ifo h with h | h
      · exact F0.trans (fr_X10_gone_b32 h)
      · obtain ⟨z4, ez4, h⟩ := bnd h
        have Fz4 := F0.trans ((fr_X4_addTrip ez4).mono (fun a b h => (Or.inl h)) (fun a b h => h) (fun a b h => False.elim h))
        obtain ⟨z5, ez5, h⟩ := bnd h
        have Fz5 := Fz4.trans ((fr_X10_refuseIfFull ez5).mono (fun a b h => (Or.inr h)) (fun a b h => False.elim h) (fun a b h => False.elim h))
        have hq := some_i h
        subst hq
        exact Fz5
set_option maxHeartbeats 4000000 in
set_option maxRecDepth 100000 in
theorem fr_X10_forget_b37 {res : Int32 × TT} {T : TT} {x1 : Int32} {s0 : Int32} (h : m_X10_forget_b37 T x1 s0 = some res) : Fr (fun a b => (a = 4 ∧ b = 4)) (fun a b => (a = 0 ∧ b = 10) ∨ (a = 0 ∧ b = 9)) (fun _ _ => False) T res.2 := by
  unfold m_X10_forget_b37 at h
  have F0 : Fr (fun a b => (a = 4 ∧ b = 4)) (fun a b => (a = 0 ∧ b = 10) ∨ (a = 0 ∧ b = 9)) (fun _ _ => False) T T := Fr.rf
  rcases ifo h with h | h
  · obtain ⟨T6, eT6, h⟩ := bTe h
    have FT6 := (F0.wI eT6 (Or.inr ⟨rfl, rfl⟩))
    have hq := some_i h
    subst hq
    exact FT6
  · obtain ⟨T5, eT5, h⟩ := bTe h
    have FT5 := (F0.wI eT5 (Or.inl ⟨rfl, rfl⟩))
    have hq := some_i h
    subst hq
    exact FT5
set_option maxHeartbeats 4000000 in
set_option maxRecDepth 100000 in
theorem fr_X10_forget {T : TT} {x1 : Int32} {res : Int32 × TT} (h : m_X10_forget T x1 = some res) : Fr (fun a b => (a = 4 ∧ b = 4)) (fun a b => (a = 0 ∧ b = 10) ∨ (a = 0 ∧ b = 9)) (fun _ _ => False) T res.2 := by
  unfold m_X10_forget at h
  have F0 : Fr (fun a b => (a = 4 ∧ b = 4)) (fun a b => (a = 0 ∧ b = 10) ∨ (a = 0 ∧ b = 9)) (fun _ _ => False) T T := Fr.rf
  obtain ⟨z1, ez1, h⟩ := bnd h
  rcases ifo h with h | h
  · obtain ⟨z3, ez3, h⟩ := bnd h
    have Fz3 := F0.trans ((fr_X10_refuse ez3).mono (fun a b h => h) (fun a b h => False.elim h) (fun a b h => False.elim h))
    have hq := some_i h
    subst hq
    exact Fz3
  · rcases ifo h with h | h
    · exact F0.trans (fr_X10_forget_b37 h)
    · exact F0.trans (fr_X10_forget_b37 h)
set_option maxHeartbeats 4000000 in
set_option maxRecDepth 100000 in
theorem fr_X10_is {T : TT} {x1 : Int32} {res : Int32 × TT} (h : m_X10_is T x1 = some res) : Fr (fun a b => (a = 4 ∧ b = 4)) (fun _ _ => False) (fun _ _ => False) T res.2 := by
  unfold m_X10_is at h
  have F0 : Fr (fun a b => (a = 4 ∧ b = 4)) (fun _ _ => False) (fun _ _ => False) T T := Fr.rf
  obtain ⟨z1, ez1, h⟩ := bnd h
  rcases ifo h with h | h
  · obtain ⟨z3, ez3, h⟩ := bnd h
    have Fz3 := F0.trans ((fr_X10_refuse ez3).mono (fun a b h => h) (fun a b h => False.elim h) (fun a b h => False.elim h))
    have hq := some_i h
    subst hq
    exact Fz3
  · obtain ⟨z2, ez2, h⟩ := bnd h
    have hq := some_i h
    subst hq
    exact F0
set_option maxHeartbeats 4000000 in
set_option maxRecDepth 100000 in
theorem fr_X10_mostAlike_b109 {rec60 : TT → Int32 → Int32 → Int32 → Option (Int32 × TT)} {rec73 : TT → Int32 → Int32 → Int32 → Int32 → Int32 → Option (Int32 × TT)} {res : Int32 × TT} (hrec60 : ∀ {T : TT} {x1 : Int32} {x5 : Int32} {x6 : Int32}, rec60 T x1 x5 x6 = some res → Fr (fun a b => (a = 4 ∧ b = 3)) (fun _ _ => False) (fun _ _ => False) T res.2) (hrec73 : ∀ {T : TT} {x1 : Int32} {x5 : Int32} {x6 : Int32} {x7 : Int32} {x8 : Int32}, rec73 T x1 x5 x6 x7 x8 = some res → Fr (fun a b => (a = 4 ∧ b = 3)) (fun _ _ => False) (fun _ _ => False) T res.2) {T : TT} {x1 : Int32} {x5 : Int32} {x6 : Int32} {x7 : Int32} {x8 : Int32} (h : m_X10_mostAlike_b109 rec60 rec73 T x1 x5 x6 x7 x8 = some res) : Fr (fun a b => (a = 4 ∧ b = 3)) (fun _ _ => False) (fun _ _ => False) T res.2 := by
  unfold m_X10_mostAlike_b109 at h
  have F0 : Fr (fun a b => (a = 4 ∧ b = 3)) (fun _ _ => False) (fun _ _ => False) T T := Fr.rf
  obtain ⟨y14, ey14, h⟩ := bTe h
  exact F0.trans (hrec73 h)
set_option maxHeartbeats 4000000 in
set_option maxRecDepth 100000 in
theorem fr_X10_mostAlike_h73 {rec60 : TT → Int32 → Int32 → Int32 → Option (Int32 × TT)} {rec73 : TT → Int32 → Int32 → Int32 → Int32 → Int32 → Option (Int32 × TT)} {res : Int32 × TT} (hrec60 : ∀ {T : TT} {x1 : Int32} {x5 : Int32} {x6 : Int32}, rec60 T x1 x5 x6 = some res → Fr (fun a b => (a = 4 ∧ b = 3)) (fun _ _ => False) (fun _ _ => False) T res.2) (hrec73 : ∀ {T : TT} {x1 : Int32} {x5 : Int32} {x6 : Int32} {x7 : Int32} {x8 : Int32}, rec73 T x1 x5 x6 x7 x8 = some res → Fr (fun a b => (a = 4 ∧ b = 3)) (fun _ _ => False) (fun _ _ => False) T res.2) {T : TT} {x1 : Int32} {x5 : Int32} {x6 : Int32} {x7 : Int32} {x8 : Int32} (h : m_X10_mostAlike_h73 rec60 rec73 T x1 x5 x6 x7 x8 = some res) : Fr (fun a b => (a = 4 ∧ b = 3)) (fun _ _ => False) (fun _ _ => False) T res.2 := by
  unfold m_X10_mostAlike_h73 at h
  have F0 : Fr (fun a b => (a = 4 ∧ b = 3)) (fun _ _ => False) (fun _ _ => False) T T := Fr.rf
  rcases ifo h with h | h
  · obtain ⟨y8, ey8, h⟩ := bTe h
    obtain ⟨y9, ey9, h⟩ := bTe h
    exact F0.trans (hrec60 h)
  · rcases ifo h with h | h
    · exact F0.trans (fr_X10_mostAlike_b109 hrec60 hrec73 h)
    · obtain ⟨gi, h⟩ := gd h
      obtain ⟨gi, h⟩ := gd h
      rcases ifo h with h | h
      · obtain ⟨y10, ey10, h⟩ := bTe h
        exact F0.trans (fr_X10_mostAlike_b109 hrec60 hrec73 h)
      · exact F0.trans (fr_X10_mostAlike_b109 hrec60 hrec73 h)
set_option maxHeartbeats 4000000 in
set_option maxRecDepth 100000 in
theorem fr_X10_mostAlike_l73 {rec60 : TT → Int32 → Int32 → Int32 → Option (Int32 × TT)} {res : Int32 × TT} (hrec60 : ∀ {T : TT} {x1 : Int32} {x5 : Int32} {x6 : Int32}, rec60 T x1 x5 x6 = some res → Fr (fun a b => (a = 4 ∧ b = 3)) (fun _ _ => False) (fun _ _ => False) T res.2) : ∀ (n : Nat) {T : TT} {x1 : Int32} {x5 : Int32} {x6 : Int32} {x7 : Int32} {x8 : Int32} (h : m_X10_mostAlike_l73 rec60 n T x1 x5 x6 x7 x8 = some res), Fr (fun a b => (a = 4 ∧ b = 3)) (fun _ _ => False) (fun _ _ => False) T res.2 := by
  intro n
  induction n with
  | zero =>
    intro T x1 x5 x6 x7 x8 h
    exact no_some h
  | succ n ih =>
    intro T x1 x5 x6 x7 x8 h
    have h : m_X10_mostAlike_h73 rec60 (m_X10_mostAlike_l73 rec60 n) T x1 x5 x6 x7 x8 = some res := h
    exact fr_X10_mostAlike_h73 (rec73 := m_X10_mostAlike_l73 rec60 n) hrec60 (fun h => ih h) h
set_option maxHeartbeats 4000000 in
set_option maxRecDepth 100000 in
theorem fr_X10_mostAlike_h60 {rec60 : TT → Int32 → Int32 → Int32 → Option (Int32 × TT)} {res : Int32 × TT} (hrec60 : ∀ {T : TT} {x1 : Int32} {x5 : Int32} {x6 : Int32}, rec60 T x1 x5 x6 = some res → Fr (fun a b => (a = 4 ∧ b = 3)) (fun _ _ => False) (fun _ _ => False) T res.2) {T : TT} {x1 : Int32} {x5 : Int32} {x6 : Int32} (h : m_X10_mostAlike_h60 rec60 T x1 x5 x6 = some res) : Fr (fun a b => (a = 4 ∧ b = 3)) (fun _ _ => False) (fun _ _ => False) T res.2 := by
  unfold m_X10_mostAlike_h60 at h
  have F0 : Fr (fun a b => (a = 4 ∧ b = 3)) (fun _ _ => False) (fun _ _ => False) T T := Fr.rf
  rcases ifo h with h | h
  · have hq := some_i h
    subst hq
    exact F0
  · exact F0.trans (fr_X10_mostAlike_l73 hrec60 _ h)
set_option maxHeartbeats 4000000 in
set_option maxRecDepth 100000 in
theorem fr_X10_mostAlike_l60 {res : Int32 × TT} : ∀ (n : Nat) {T : TT} {x1 : Int32} {x5 : Int32} {x6 : Int32} (h : m_X10_mostAlike_l60 n T x1 x5 x6 = some res), Fr (fun a b => (a = 4 ∧ b = 3)) (fun _ _ => False) (fun _ _ => False) T res.2 := by
  intro n
  induction n with
  | zero =>
    intro T x1 x5 x6 h
    exact no_some h
  | succ n ih =>
    intro T x1 x5 x6 h
    have h : m_X10_mostAlike_h60 (m_X10_mostAlike_l60 n) T x1 x5 x6 = some res := h
    exact fr_X10_mostAlike_h60 (rec60 := m_X10_mostAlike_l60 n) (fun h => ih h) h
