set_option maxHeartbeats 4000000 in
set_option maxRecDepth 100000 in
theorem fr_X10_mostAlike_h3 {rec3 : TT → Int32 → Int32 → Int32 → Int32 → Int32 → Option (Int32 × TT)} {res : Int32 × TT} (hrec3 : ∀ {T : TT} {x1 : Int32} {x2 : Int32} {x3 : Int32} {x4 : Int32} {x5 : Int32}, rec3 T x1 x2 x3 x4 x5 = some res → Fr (fun a b => (a = 4 ∧ b = 3)) (fun _ _ => False) (fun _ _ => False) T res.2) {T : TT} {x1 : Int32} {x2 : Int32} {x3 : Int32} {x4 : Int32} {x5 : Int32} (h : m_X10_mostAlike_h3 rec3 T x1 x2 x3 x4 x5 = some res) : Fr (fun a b => (a = 4 ∧ b = 3)) (fun _ _ => False) (fun _ _ => False) T res.2 := by
  unfold m_X10_mostAlike_h3 at h
  have F0 : Fr (fun a b => (a = 4 ∧ b = 3)) (fun _ _ => False) (fun _ _ => False) T T := Fr.rf
  rcases ifo h with h | h
  · exact F0.trans (fr_X10_mostAlike_l60 _ h)
  · obtain ⟨gi, h⟩ := gd h
    obtain ⟨z2, ez2, h⟩ := bnd h
    obtain ⟨z3, ez3, h⟩ := bnd h
    obtain ⟨gi, h⟩ := gd h
    obtain ⟨T4, eT4, h⟩ := bTe h
    have FT4 := (F0.wA eT4 ⟨rfl, rfl⟩)
    obtain ⟨y5, ey5, h⟩ := bTe h
    exact FT4.trans (hrec3 h)
set_option maxHeartbeats 4000000 in
set_option maxRecDepth 100000 in
theorem fr_X10_mostAlike_l3 {res : Int32 × TT} : ∀ (n : Nat) {T : TT} {x1 : Int32} {x2 : Int32} {x3 : Int32} {x4 : Int32} {x5 : Int32} (h : m_X10_mostAlike_l3 n T x1 x2 x3 x4 x5 = some res), Fr (fun a b => (a = 4 ∧ b = 3)) (fun _ _ => False) (fun _ _ => False) T res.2 := by
  intro n
  induction n with
  | zero =>
    intro T x1 x2 x3 x4 x5 h
    exact no_some h
  | succ n ih =>
    intro T x1 x2 x3 x4 x5 h
    have h : m_X10_mostAlike_h3 (m_X10_mostAlike_l3 n) T x1 x2 x3 x4 x5 = some res := h
    exact fr_X10_mostAlike_h3 (rec3 := m_X10_mostAlike_l3 n) (fun h => ih h) h
set_option maxHeartbeats 4000000 in
set_option maxRecDepth 100000 in
theorem fr_X10_mostAlike {T : TT} {x1 : Int32} {x2 : Int32} {x3 : Int32} {x4 : Int32} {res : Int32 × TT} (h : m_X10_mostAlike T x1 x2 x3 x4 = some res) : Fr (fun a b => (a = 4 ∧ b = 3)) (fun _ _ => False) (fun _ _ => False) T res.2 := by
  unfold m_X10_mostAlike at h
  have F0 : Fr (fun a b => (a = 4 ∧ b = 3)) (fun _ _ => False) (fun _ _ => False) T T := Fr.rf
  exact F0.trans (fr_X10_mostAlike_l3 _ h)
set_option maxHeartbeats 4000000 in
set_option maxRecDepth 100000 in
theorem fr_X10_bestMorning_b55 {rec9 : TT → Int32 → Int32 → Int32 → Int32 → Int32 → Option (Int32 × TT)} {rec18 : TT → Int32 → Int32 → Int32 → Int32 → Int32 → Int32 → Option (Int32 × TT)} {res : Int32 × TT} (hrec9 : ∀ {T : TT} {x1 : Int32} {x2 : Int32} {x3 : Int32} {x4 : Int32} {x5 : Int32}, rec9 T x1 x2 x3 x4 x5 = some res → Fr (fun a b => (a = 4 ∧ b = 3)) (fun _ _ => False) (fun _ _ => False) T res.2) (hrec18 : ∀ {T : TT} {x1 : Int32} {x2 : Int32} {x3 : Int32} {x4 : Int32} {x5 : Int32} {x6 : Int32}, rec18 T x1 x2 x3 x4 x5 x6 = some res → Fr (fun a b => (a = 4 ∧ b = 3)) (fun _ _ => False) (fun _ _ => False) T res.2) {T : TT} {x1 : Int32} {x2 : Int32} {x3 : Int32} {x4 : Int32} {x5 : Int32} {x6 : Int32} (h : m_X10_bestMorning_b55 rec9 rec18 T x1 x2 x3 x4 x5 x6 = some res) : Fr (fun a b => (a = 4 ∧ b = 3)) (fun _ _ => False) (fun _ _ => False) T res.2 := by
  unfold m_X10_bestMorning_b55 at h
  have F0 : Fr (fun a b => (a = 4 ∧ b = 3)) (fun _ _ => False) (fun _ _ => False) T T := Fr.rf
  obtain ⟨y7, ey7, h⟩ := bTe h
  exact F0.trans (hrec18 h)
set_option maxHeartbeats 4000000 in
set_option maxRecDepth 100000 in
theorem fr_X10_bestMorning_h18 {rec9 : TT → Int32 → Int32 → Int32 → Int32 → Int32 → Option (Int32 × TT)} {rec18 : TT → Int32 → Int32 → Int32 → Int32 → Int32 → Int32 → Option (Int32 × TT)} {res : Int32 × TT} (hrec9 : ∀ {T : TT} {x1 : Int32} {x2 : Int32} {x3 : Int32} {x4 : Int32} {x5 : Int32}, rec9 T x1 x2 x3 x4 x5 = some res → Fr (fun a b => (a = 4 ∧ b = 3)) (fun _ _ => False) (fun _ _ => False) T res.2) (hrec18 : ∀ {T : TT} {x1 : Int32} {x2 : Int32} {x3 : Int32} {x4 : Int32} {x5 : Int32} {x6 : Int32}, rec18 T x1 x2 x3 x4 x5 x6 = some res → Fr (fun a b => (a = 4 ∧ b = 3)) (fun _ _ => False) (fun _ _ => False) T res.2) {T : TT} {x1 : Int32} {x2 : Int32} {x3 : Int32} {x4 : Int32} {x5 : Int32} {x6 : Int32} (h : m_X10_bestMorning_h18 rec9 rec18 T x1 x2 x3 x4 x5 x6 = some res) : Fr (fun a b => (a = 4 ∧ b = 3)) (fun _ _ => False) (fun _ _ => False) T res.2 := by
  unfold m_X10_bestMorning_h18 at h
  have F0 : Fr (fun a b => (a = 4 ∧ b = 3)) (fun _ _ => False) (fun _ _ => False) T T := Fr.rf
  rcases ifo h with h | h
  · obtain ⟨y2, ey2, h⟩ := bTe h
    exact F0.trans (hrec9 h)
  · obtain ⟨z3, ez3, h⟩ := bnd h
    have Fz3 := F0.trans ((fr_X10_mostAlike ez3).mono (fun a b h => h) (fun a b h => False.elim h) (fun a b h => False.elim h))
    rcases ifo h with h | h
    · exact Fz3.trans (fr_X10_bestMorning_b55 hrec9 hrec18 h)
    · obtain ⟨y4, ey4, h⟩ := bTe h
      exact Fz3.trans (fr_X10_bestMorning_b55 hrec9 hrec18 h)
set_option maxHeartbeats 4000000 in
set_option maxRecDepth 100000 in
theorem fr_X10_bestMorning_l18 {rec9 : TT → Int32 → Int32 → Int32 → Int32 → Int32 → Option (Int32 × TT)} {res : Int32 × TT} (hrec9 : ∀ {T : TT} {x1 : Int32} {x2 : Int32} {x3 : Int32} {x4 : Int32} {x5 : Int32}, rec9 T x1 x2 x3 x4 x5 = some res → Fr (fun a b => (a = 4 ∧ b = 3)) (fun _ _ => False) (fun _ _ => False) T res.2) : ∀ (n : Nat) {T : TT} {x1 : Int32} {x2 : Int32} {x3 : Int32} {x4 : Int32} {x5 : Int32} {x6 : Int32} (h : m_X10_bestMorning_l18 rec9 n T x1 x2 x3 x4 x5 x6 = some res), Fr (fun a b => (a = 4 ∧ b = 3)) (fun _ _ => False) (fun _ _ => False) T res.2 := by
  intro n
  induction n with
  | zero =>
    intro T x1 x2 x3 x4 x5 x6 h
    exact no_some h
  | succ n ih =>
    intro T x1 x2 x3 x4 x5 x6 h
    have h : m_X10_bestMorning_h18 rec9 (m_X10_bestMorning_l18 rec9 n) T x1 x2 x3 x4 x5 x6 = some res := h
    exact fr_X10_bestMorning_h18 (rec18 := m_X10_bestMorning_l18 rec9 n) hrec9 (fun h => ih h) h
set_option maxHeartbeats 4000000 in
set_option maxRecDepth 100000 in
theorem fr_X10_bestMorning_h9 {rec9 : TT → Int32 → Int32 → Int32 → Int32 → Int32 → Option (Int32 × TT)} {res : Int32 × TT} (hrec9 : ∀ {T : TT} {x1 : Int32} {x2 : Int32} {x3 : Int32} {x4 : Int32} {x5 : Int32}, rec9 T x1 x2 x3 x4 x5 = some res → Fr (fun a b => (a = 4 ∧ b = 3)) (fun _ _ => False) (fun _ _ => False) T res.2) {T : TT} {x1 : Int32} {x2 : Int32} {x3 : Int32} {x4 : Int32} {x5 : Int32} (h : m_X10_bestMorning_h9 rec9 T x1 x2 x3 x4 x5 = some res) : Fr (fun a b => (a = 4 ∧ b = 3)) (fun _ _ => False) (fun _ _ => False) T res.2 := by
  unfold m_X10_bestMorning_h9 at h
  have F0 : Fr (fun a b => (a = 4 ∧ b = 3)) (fun _ _ => False) (fun _ _ => False) T T := Fr.rf
  rcases ifo h with h | h
  · have hq := some_i h
    subst hq
    exact F0
  · exact F0.trans (fr_X10_bestMorning_l18 hrec9 _ h)
set_option maxHeartbeats 4000000 in
set_option maxRecDepth 100000 in
theorem fr_X10_bestMorning_l9 {res : Int32 × TT} : ∀ (n : Nat) {T : TT} {x1 : Int32} {x2 : Int32} {x3 : Int32} {x4 : Int32} {x5 : Int32} (h : m_X10_bestMorning_l9 n T x1 x2 x3 x4 x5 = some res), Fr (fun a b => (a = 4 ∧ b = 3)) (fun _ _ => False) (fun _ _ => False) T res.2 := by
  intro n
  induction n with
  | zero =>
    intro T x1 x2 x3 x4 x5 h
    exact no_some h
  | succ n ih =>
    intro T x1 x2 x3 x4 x5 h
    have h : m_X10_bestMorning_h9 (m_X10_bestMorning_l9 n) T x1 x2 x3 x4 x5 = some res := h
    exact fr_X10_bestMorning_h9 (rec9 := m_X10_bestMorning_l9 n) (fun h => ih h) h
set_option maxHeartbeats 4000000 in
set_option maxRecDepth 100000 in
theorem fr_X10_bestMorning {T : TT} {x1 : Int32} {x2 : Int32} {res : Int32 × TT} (h : m_X10_bestMorning T x1 x2 = some res) : Fr (fun a b => (a = 4 ∧ b = 3)) (fun _ _ => False) (fun _ _ => False) T res.2 := by
  unfold m_X10_bestMorning at h
  have F0 : Fr (fun a b => (a = 4 ∧ b = 3)) (fun _ _ => False) (fun _ _ => False) T T := Fr.rf
  exact F0.trans (fr_X10_bestMorning_l9 _ h)
set_option maxHeartbeats 4000000 in
set_option maxRecDepth 100000 in
theorem fr_X10_look {T : TT} {x1 : Int32} {res : Int32 × TT} (h : m_X10_look T x1 = some res) : Fr (fun a b => (a = 4 ∧ b = 3) ∨ (a = 4 ∧ b = 4)) (fun _ _ => False) (fun _ _ => False) T res.2 := by
  unfold m_X10_look at h
  have F0 : Fr (fun a b => (a = 4 ∧ b = 3) ∨ (a = 4 ∧ b = 4)) (fun _ _ => False) (fun _ _ => False) T T := Fr.rf
  obtain ⟨z1, ez1, h⟩ := bnd h
  rcases ifo h with h | h
  · obtain ⟨z5, ez5, h⟩ := bnd h
    have Fz5 := F0.trans ((fr_X10_refuse ez5).mono (fun a b h => (Or.inr h)) (fun a b h => False.elim h) (fun a b h => False.elim h))
    have hq := some_i h
    subst hq
    exact Fz5
  · obtain ⟨z2, ez2, h⟩ := bnd h
    rcases ifo h with h | h
    · have hq := some_i h
      subst hq
      exact F0
    · obtain ⟨gi, h⟩ := gd h
      obtain ⟨z3, ez3, h⟩ := bnd h
      have Fz3 := F0.trans ((fr_X10_bestMorning ez3).mono (fun a b h => (Or.inl h)) (fun a b h => False.elim h) (fun a b h => False.elim h))
      have hq := some_i h
      subst hq
      exact Fz3
set_option maxHeartbeats 4000000 in
set_option maxRecDepth 100000 in
theorem fr_X10_had_b73 {rec35 : TT → Int32 → Int32 → Int32 → Int32 → Int32 → Option (Int32 × TT)} {res : Int32 × TT} (hrec35 : ∀ {T : TT} {x1 : Int32} {x2 : Int32} {x3 : Int32} {x4 : Int32} {x5 : Int32}, rec35 T x1 x2 x3 x4 x5 = some res → Fr (fun a b => (a = 4 ∧ b = 4)) (fun _ _ => False) (fun _ _ => False) T res.2) {T : TT} {x1 : Int32} {x2 : Int32} {x3 : Int32} {x4 : Int32} {x5 : Int32} (h : m_X10_had_b73 rec35 T x1 x2 x3 x4 x5 = some res) : Fr (fun a b => (a = 4 ∧ b = 4)) (fun _ _ => False) (fun _ _ => False) T res.2 := by
  unfold m_X10_had_b73 at h
  have F0 : Fr (fun a b => (a = 4 ∧ b = 4)) (fun _ _ => False) (fun _ _ => False) T T := Fr.rf
  obtain ⟨y11, ey11, h⟩ := bTe h
  exact F0.trans (hrec35 h)
set_option maxHeartbeats 4000000 in
set_option maxRecDepth 100000 in
theorem fr_X10_had_b71 {rec35 : TT → Int32 → Int32 → Int32 → Int32 → Int32 → Option (Int32 × TT)} {res : Int32 × TT} (hrec35 : ∀ {T : TT} {x1 : Int32} {x2 : Int32} {x3 : Int32} {x4 : Int32} {x5 : Int32}, rec35 T x1 x2 x3 x4 x5 = some res → Fr (fun a b => (a = 4 ∧ b = 4)) (fun _ _ => False) (fun _ _ => False) T res.2) {T : TT} {x1 : Int32} {x2 : Int32} {x3 : Int32} {x5 : Int32} {s0 : Int32} (h : m_X10_had_b71 rec35 T x1 x2 x3 x5 s0 = some res) : Fr (fun a b => (a = 4 ∧ b = 4)) (fun _ _ => False) (fun _ _ => False) T res.2 := by
  unfold m_X10_had_b71 at h
  have F0 : Fr (fun a b => (a = 4 ∧ b = 4)) (fun _ _ => False) (fun _ _ => False) T T := Fr.rf
  exact F0.trans (fr_X10_had_b73 hrec35 h)
set_option maxHeartbeats 4000000 in
set_option maxRecDepth 100000 in
theorem fr_X10_had_h35 {rec35 : TT → Int32 → Int32 → Int32 → Int32 → Int32 → Option (Int32 × TT)} {res : Int32 × TT} (hrec35 : ∀ {T : TT} {x1 : Int32} {x2 : Int32} {x3 : Int32} {x4 : Int32} {x5 : Int32}, rec35 T x1 x2 x3 x4 x5 = some res → Fr (fun a b => (a = 4 ∧ b = 4)) (fun _ _ => False) (fun _ _ => False) T res.2) {T : TT} {x1 : Int32} {x2 : Int32} {x3 : Int32} {x4 : Int32} {x5 : Int32} (h : m_X10_had_h35 rec35 T x1 x2 x3 x4 x5 = some res) : Fr (fun a b => (a = 4 ∧ b = 4)) (fun _ _ => False) (fun _ _ => False) T res.2 := by
  unfold m_X10_had_h35 at h
  have F0 : Fr (fun a b => (a = 4 ∧ b = 4)) (fun _ _ => False) (fun _ _ => False) T T := Fr.rf
  rcases ifo h with h | h
  · rcases ifo h with h | h
    · have hq := some_i h
      subst hq
      exact F0
    · have hq := some_i h
      subst hq
      exact F0
  · obtain ⟨z6, ez6, h⟩ := bnd h
    rcases ifo h with h | h
    · exact F0.trans (fr_X10_had_b73 hrec35 h)
    · obtain ⟨y7, ey7, h⟩ := bTe h
      rcases ifo h with h | h
      · exact F0.trans (fr_X10_had_b71 hrec35 h)
      · exact F0.trans (fr_X10_had_b71 hrec35 h)
set_option maxHeartbeats 4000000 in
set_option maxRecDepth 100000 in
theorem fr_X10_had_l35 {res : Int32 × TT} : ∀ (n : Nat) {T : TT} {x1 : Int32} {x2 : Int32} {x3 : Int32} {x4 : Int32} {x5 : Int32} (h : m_X10_had_l35 n T x1 x2 x3 x4 x5 = some res), Fr (fun a b => (a = 4 ∧ b = 4)) (fun _ _ => False) (fun _ _ => False) T res.2 := by
  intro n
  induction n with
  | zero =>
    intro T x1 x2 x3 x4 x5 h
    exact no_some h
  | succ n ih =>
    intro T x1 x2 x3 x4 x5 h
    have h : m_X10_had_h35 (m_X10_had_l35 n) T x1 x2 x3 x4 x5 = some res := h
    exact fr_X10_had_h35 (rec35 := m_X10_had_l35 n) (fun h => ih h) h
set_option maxHeartbeats 4000000 in
set_option maxRecDepth 100000 in
theorem fr_X10_had_b20 {res : Int32 × TT} {T : TT} (h : m_X10_had_b20 T = some res) : Fr (fun a b => (a = 4 ∧ b = 4)) (fun _ _ => False) (fun _ _ => False) T res.2 := by
  unfold m_X10_had_b20 at h
  have F0 : Fr (fun a b => (a = 4 ∧ b = 4)) (fun _ _ => False) (fun _ _ => False) T T := Fr.rf
  obtain ⟨z12, ez12, h⟩ := bnd h
  have Fz12 := F0.trans ((fr_X10_refuse ez12).mono (fun a b h => h) (fun a b h => False.elim h) (fun a b h => False.elim h))
  have hq := some_i h
  subst hq
  exact Fz12
set_option maxHeartbeats 4000000 in
set_option maxRecDepth 100000 in
theorem fr_X10_had {T : TT} {x1 : Int32} {x2 : Int32} {res : Int32 × TT} (h : m_X10_had T x1 x2 = some res) : Fr (fun a b => (a = 4 ∧ b = 4)) (fun _ _ => False) (fun _ _ => False) T res.2 := by
  unfold m_X10_had at h
  have F0 : Fr (fun a b => (a = 4 ∧ b = 4)) (fun _ _ => False) (fun _ _ => False) T T := Fr.rf
  obtain ⟨z1, ez1, h⟩ := bnd h
  rcases ifo h with h | h
  · exact F0.trans (fr_X10_had_b20 h)
  · obtain ⟨z2, ez2, h⟩ := bnd h
    rcases ifo h with h | h
    · exact F0.trans (fr_X10_had_b20 h)
    · exact F0.trans (fr_X10_had_l35 _ h)
set_option maxHeartbeats 4000000 in
set_option maxRecDepth 100000 in
theorem fr_X10_fares_b104 {rec39 : TT → Int32 → Int32 → Int32 → Int32 → Option (Int32 × TT)} {res : Int32 × TT} (hrec39 : ∀ {T : TT} {x1 : Int32} {x2 : Int32} {x3 : Int32} {x4 : Int32}, rec39 T x1 x2 x3 x4 = some res → Fr (fun a b => (a = 4 ∧ b = 4)) (fun _ _ => False) (fun _ _ => False) T res.2) {T : TT} {x1 : Int32} {x2 : Int32} {x3 : Int32} {x4 : Int32} (h : m_X10_fares_b104 rec39 T x1 x2 x3 x4 = some res) : Fr (fun a b => (a = 4 ∧ b = 4)) (fun _ _ => False) (fun _ _ => False) T res.2 := by
  unfold m_X10_fares_b104 at h
  have F0 : Fr (fun a b => (a = 4 ∧ b = 4)) (fun _ _ => False) (fun _ _ => False) T T := Fr.rf
  obtain ⟨y14, ey14, h⟩ := bTe h
  exact F0.trans (hrec39 h)
set_option maxHeartbeats 4000000 in
set_option maxRecDepth 100000 in
theorem fr_X10_fares_b71 {rec39 : TT → Int32 → Int32 → Int32 → Int32 → Option (Int32 × TT)} {res : Int32 × TT} (hrec39 : ∀ {T : TT} {x1 : Int32} {x2 : Int32} {x3 : Int32} {x4 : Int32}, rec39 T x1 x2 x3 x4 = some res → Fr (fun a b => (a = 4 ∧ b = 4)) (fun _ _ => False) (fun _ _ => False) T res.2) {T : TT} {x1 : Int32} {x2 : Int32} {x3 : Int32} {x4 : Int32} {x5 : Int32} {s0 : Int32} (h : m_X10_fares_b71 rec39 T x1 x2 x3 x4 x5 s0 = some res) : Fr (fun a b => (a = 4 ∧ b = 4)) (fun _ _ => False) (fun _ _ => False) T res.2 := by
  unfold m_X10_fares_b71 at h
  have F0 : Fr (fun a b => (a = 4 ∧ b = 4)) (fun _ _ => False) (fun _ _ => False) T T := Fr.rf
  obtain ⟨z9, ez9, h⟩ := bnd h
  rcases ifo h with h | h
  · exact F0.trans (fr_X10_fares_b104 hrec39 h)
  · obtain ⟨z10, ez10, h⟩ := bnd h
    rcases ifo h with h | h
    · exact F0.trans (fr_X10_fares_b104 hrec39 h)
    · obtain ⟨y11, ey11, h⟩ := bTe h
      exact F0.trans (fr_X10_fares_b104 hrec39 h)
set_option maxHeartbeats 4000000 in
set_option maxRecDepth 100000 in
theorem fr_X10_fares_b57 {rec39 : TT → Int32 → Int32 → Int32 → Int32 → Option (Int32 × TT)} {res : Int32 × TT} (hrec39 : ∀ {T : TT} {x1 : Int32} {x2 : Int32} {x3 : Int32} {x4 : Int32}, rec39 T x1 x2 x3 x4 = some res → Fr (fun a b => (a = 4 ∧ b = 4)) (fun _ _ => False) (fun _ _ => False) T res.2) {T : TT} {x1 : Int32} {x2 : Int32} {x3 : Int32} {x4 : Int32} {s0 : Int32} (h : m_X10_fares_b57 rec39 T x1 x2 x3 x4 s0 = some res) : Fr (fun a b => (a = 4 ∧ b = 4)) (fun _ _ => False) (fun _ _ => False) T res.2 := by
  unfold m_X10_fares_b57 at h
  have F0 : Fr (fun a b => (a = 4 ∧ b = 4)) (fun _ _ => False) (fun _ _ => False) T T := Fr.rf
  rcases ifo h with h | h
  · exact F0.trans (fr_X10_fares_b71 hrec39 h)
  · exact F0.trans (fr_X10_fares_b71 hrec39 h)
set_option maxHeartbeats 4000000 in
set_option maxRecDepth 100000 in
theorem fr_X10_fares_h39 {rec39 : TT → Int32 → Int32 → Int32 → Int32 → Option (Int32 × TT)} {res : Int32 × TT} (hrec39 : ∀ {T : TT} {x1 : Int32} {x2 : Int32} {x3 : Int32} {x4 : Int32}, rec39 T x1 x2 x3 x4 = some res → Fr (fun a b => (a = 4 ∧ b = 4)) (fun _ _ => False) (fun _ _ => False) T res.2) {T : TT} {x1 : Int32} {x2 : Int32} {x3 : Int32} {x4 : Int32} (h : m_X10_fares_h39 rec39 T x1 x2 x3 x4 = some res) : Fr (fun a b => (a = 4 ∧ b = 4)) (fun _ _ => False) (fun _ _ => False) T res.2 := by
  unfold m_X10_fares_h39 at h
  have F0 : Fr (fun a b => (a = 4 ∧ b = 4)) (fun _ _ => False) (fun _ _ => False) T T := Fr.rf
  rcases ifo h with h | h
  · have hq := some_i h
    subst hq
    exact F0
  · rcases ifo h with h | h
    · exact F0.trans (fr_X10_fares_b57 hrec39 h)
    · exact F0.trans (fr_X10_fares_b57 hrec39 h)
set_option maxHeartbeats 4000000 in
set_option maxRecDepth 100000 in
theorem fr_X10_fares_l39 {res : Int32 × TT} : ∀ (n : Nat) {T : TT} {x1 : Int32} {x2 : Int32} {x3 : Int32} {x4 : Int32} (h : m_X10_fares_l39 n T x1 x2 x3 x4 = some res), Fr (fun a b => (a = 4 ∧ b = 4)) (fun _ _ => False) (fun _ _ => False) T res.2 := by
  intro n
  induction n with
  | zero =>
    intro T x1 x2 x3 x4 h
    exact no_some h
  | succ n ih =>
    intro T x1 x2 x3 x4 h
    have h : m_X10_fares_h39 (m_X10_fares_l39 n) T x1 x2 x3 x4 = some res := h
    exact fr_X10_fares_h39 (rec39 := m_X10_fares_l39 n) (fun h => ih h) h
set_option maxHeartbeats 4000000 in
set_option maxRecDepth 100000 in
theorem fr_X10_fares_b27 {res : Int32 × TT} {T : TT} (h : m_X10_fares_b27 T = some res) : Fr (fun a b => (a = 4 ∧ b = 4)) (fun _ _ => False) (fun _ _ => False) T res.2 := by
  unfold m_X10_fares_b27 at h
  have F0 : Fr (fun a b => (a = 4 ∧ b = 4)) (fun _ _ => False) (fun _ _ => False) T T := Fr.rf
  obtain ⟨z15, ez15, h⟩ := bnd h
  have Fz15 := F0.trans ((fr_X10_refuse ez15).mono (fun a b h => h) (fun a b h => False.elim h) (fun a b h => False.elim h))
  have hq := some_i h
  subst hq
  exact Fz15
set_option maxHeartbeats 4000000 in
set_option maxRecDepth 100000 in
theorem fr_X10_fares {T : TT} {x1 : Int32} {x2 : Int32} {res : Int32 × TT} (h : m_X10_fares T x1 x2 = some res) : Fr (fun a b => (a = 4 ∧ b = 4)) (fun _ _ => False) (fun _ _ => False) T res.2 := by
  unfold m_X10_fares at h
  have F0 : Fr (fun a b => (a = 4 ∧ b = 4)) (fun _ _ => False) (fun _ _ => False) T T := Fr.rf
  obtain ⟨z1, ez1, h⟩ := bnd h
  rcases ifo h with h | h
  · exact F0.trans (fr_X10_fares_b27 h)
  · obtain ⟨z2, ez2, h⟩ := bnd h
    rcases ifo h with h | h
    · exact F0.trans (fr_X10_fares_b27 h)
    · rcases ifo h with h | h
      · exact F0.trans (fr_X10_fares_b27 h)
      · exact F0.trans (fr_X10_fares_l39 _ h)
set_option maxHeartbeats 4000000 in
set_option maxRecDepth 100000 in
theorem fr_X10_setFraction {T : TT} {x1 : Int64} {x3 : Int64} {res : TT} (h : m_X10_setFraction T x1 x3 = some res) : Fr (fun _ _ => False) (fun _ _ => False) (fun a b => (a = 4 ∧ b = 10) ∨ (a = 4 ∧ b = 9)) T res := by
  unfold m_X10_setFraction at h
  have F0 : Fr (fun _ _ => False) (fun _ _ => False) (fun a b => (a = 4 ∧ b = 10) ∨ (a = 4 ∧ b = 9)) T T := Fr.rf
  obtain ⟨z1, ez1, h⟩ := bnd h
  rcases ifo h with h | h
  · obtain ⟨-, h⟩ := gdn h
    obtain ⟨T2, eT2, h⟩ := bTe h
    have FT2 := (F0.wL eT2 (Or.inr ⟨rfl, rfl⟩))
    obtain ⟨-, h⟩ := gdn h
    obtain ⟨T3, eT3, h⟩ := bTe h
    have FT3 := (FT2.wL eT3 (Or.inl ⟨rfl, rfl⟩))
    have hq := some_i h
    subst hq
    exact FT3
  · have hq := some_i h
    subst hq
    exact F0
set_option maxHeartbeats 4000000 in
set_option maxRecDepth 100000 in
theorem fr_X10_starts_b31 {res : Int32 × TT} {T : TT} (h : m_X10_starts_b31 T = some res) : Fr (fun a b => (a = 4 ∧ b = 4)) (fun _ _ => False) (fun a b => (a = 4 ∧ b = 10) ∨ (a = 4 ∧ b = 9)) T res.2 := by
  unfold m_X10_starts_b31 at h
  have F0 : Fr (fun a b => (a = 4 ∧ b = 4)) (fun _ _ => False) (fun a b => (a = 4 ∧ b = 10) ∨ (a = 4 ∧ b = 9)) T T := Fr.rf
  obtain ⟨z11, ez11, h⟩ := bnd h
  have Fz11 := F0.trans ((fr_X10_refuse ez11).mono (fun a b h => h) (fun a b h => False.elim h) (fun a b h => False.elim h))
  have hq := some_i h
  subst hq
  exact Fz11
set_option maxHeartbeats 4000000 in
set_option maxRecDepth 100000 in
theorem fr_X10_starts {T : TT} {x1 : Int32} {x2 : Int32} {x3 : Int32} {res : Int32 × TT} (h : m_X10_starts T x1 x2 x3 = some res) : Fr (fun a b => (a = 4 ∧ b = 4)) (fun _ _ => False) (fun a b => (a = 4 ∧ b = 10) ∨ (a = 4 ∧ b = 9)) T res.2 := by
  unfold m_X10_starts at h
  have F0 : Fr (fun a b => (a = 4 ∧ b = 4)) (fun _ _ => False) (fun a b => (a = 4 ∧ b = 10) ∨ (a = 4 ∧ b = 9)) T T := Fr.rf
  obtain ⟨z1, ez1, h⟩ := bnd h
  rcases ifo h with h | h
  · exact F0.trans (fr_X10_starts_b31 h)
  · obtain ⟨z2, ez2, h⟩ := bnd h
    rcases ifo h with h | h
    · exact F0.trans (fr_X10_starts_b31 h)
    · obtain ⟨z3, ez3, h⟩ := bnd h
      rcases ifo h with h | h
      · exact F0.trans (fr_X10_starts_b31 h)
      · obtain ⟨z4, ez4, h⟩ := bnd h
        obtain ⟨gi, h⟩ := gd h
        obtain ⟨z5, ez5, h⟩ := bnd h
        obtain ⟨z6, ez6, h⟩ := bnd h
        obtain ⟨z7, ez7, h⟩ := bnd h
        have Fz7 := F0.trans ((fr_X10_setFraction ez7).mono (fun a b h => False.elim h) (fun a b h => False.elim h) (fun a b h => h))
        have hq := some_i h
        subst hq
        exact Fz7
set_option maxHeartbeats 4000000 in
set_option maxRecDepth 100000 in
theorem fr_X10_years_h56 {rec47 : TT → Int32 → Int64 → Int32 → Int32 → Option (Int32 × TT)} {rec56 : TT → Int32 → Int64 → Int32 → Int32 → Int32 → Option (Int32 × TT)} {res : Int32 × TT} (hrec47 : ∀ {T : TT} {x2 : Int32} {x3 : Int64} {x5 : Int32} {x6 : Int32}, rec47 T x2 x3 x5 x6 = some res → Fr (fun a b => (a = 1 ∧ b = 2) ∨ (a = 1 ∧ b = 3) ∨ (a = 1 ∧ b = 4) ∨ (a = 1 ∧ b = 5) ∨ (a = 1 ∧ b = 6) ∨ (a = 1 ∧ b = 7) ∨ (a = 4 ∧ b = 4)) (fun a b => (a = 1 ∧ b = 10) ∨ (a = 1 ∧ b = 11) ∨ (a = 1 ∧ b = 7) ∨ (a = 1 ∧ b = 8) ∨ (a = 1 ∧ b = 9)) (fun _ _ => False) T res.2) (hrec56 : ∀ {T : TT} {x2 : Int32} {x3 : Int64} {x5 : Int32} {x6 : Int32} {x7 : Int32}, rec56 T x2 x3 x5 x6 x7 = some res → Fr (fun a b => (a = 1 ∧ b = 2) ∨ (a = 1 ∧ b = 3) ∨ (a = 1 ∧ b = 4) ∨ (a = 1 ∧ b = 5) ∨ (a = 1 ∧ b = 6) ∨ (a = 1 ∧ b = 7) ∨ (a = 4 ∧ b = 4)) (fun a b => (a = 1 ∧ b = 10) ∨ (a = 1 ∧ b = 11) ∨ (a = 1 ∧ b = 7) ∨ (a = 1 ∧ b = 8) ∨ (a = 1 ∧ b = 9)) (fun _ _ => False) T res.2) {T : TT} {x2 : Int32} {x3 : Int64} {x5 : Int32} {x6 : Int32} {x7 : Int32} (h : m_X10_years_h56 rec47 rec56 T x2 x3 x5 x6 x7 = some res) : Fr (fun a b => (a = 1 ∧ b = 2) ∨ (a = 1 ∧ b = 3) ∨ (a = 1 ∧ b = 4) ∨ (a = 1 ∧ b = 5) ∨ (a = 1 ∧ b = 6) ∨ (a = 1 ∧ b = 7) ∨ (a = 4 ∧ b = 4)) (fun a b => (a = 1 ∧ b = 10) ∨ (a = 1 ∧ b = 11) ∨ (a = 1 ∧ b = 7) ∨ (a = 1 ∧ b = 8) ∨ (a = 1 ∧ b = 9)) (fun _ _ => False) T res.2 := by
  unfold m_X10_years_h56 at h
  have F0 : Fr (fun a b => (a = 1 ∧ b = 2) ∨ (a = 1 ∧ b = 3) ∨ (a = 1 ∧ b = 4) ∨ (a = 1 ∧ b = 5) ∨ (a = 1 ∧ b = 6) ∨ (a = 1 ∧ b = 7) ∨ (a = 4 ∧ b = 4)) (fun a b => (a = 1 ∧ b = 10) ∨ (a = 1 ∧ b = 11) ∨ (a = 1 ∧ b = 7) ∨ (a = 1 ∧ b = 8) ∨ (a = 1 ∧ b = 9)) (fun _ _ => False) T T := Fr.rf
  rcases ifo h with h | h
  · obtain ⟨T8, eT8, h⟩ := bTe h
    have FT8 := (F0.wI eT8 (Or.inr (Or.inr (Or.inr (Or.inl ⟨rfl, rfl⟩)))))
    obtain ⟨y9, ey9, h⟩ := bTe h
    exact FT8.trans (hrec47 h)
  · obtain ⟨y10, ey10, h⟩ := bTe h
    obtain ⟨z11, ez11, h⟩ := bnd h
    have Fz11 := F0.trans ((fr_X4_act ez11).mono (fun a b h => by
    rcases h with h | h
    · exact (Or.inr (Or.inl h))
    · exact (Or.inr (Or.inr (Or.inl h)))) (fun a b h => False.elim h) (fun a b h => False.elim h))
    obtain ⟨y12, ey12, h⟩ := bTe h
    obtain ⟨y13, ey13, h⟩ := bTe h
    exact Fz11.trans (hrec56 h)
set_option maxHeartbeats 4000000 in
set_option maxRecDepth 100000 in
theorem fr_X10_years_l56 {rec47 : TT → Int32 → Int64 → Int32 → Int32 → Option (Int32 × TT)} {res : Int32 × TT} (hrec47 : ∀ {T : TT} {x2 : Int32} {x3 : Int64} {x5 : Int32} {x6 : Int32}, rec47 T x2 x3 x5 x6 = some res → Fr (fun a b => (a = 1 ∧ b = 2) ∨ (a = 1 ∧ b = 3) ∨ (a = 1 ∧ b = 4) ∨ (a = 1 ∧ b = 5) ∨ (a = 1 ∧ b = 6) ∨ (a = 1 ∧ b = 7) ∨ (a = 4 ∧ b = 4)) (fun a b => (a = 1 ∧ b = 10) ∨ (a = 1 ∧ b = 11) ∨ (a = 1 ∧ b = 7) ∨ (a = 1 ∧ b = 8) ∨ (a = 1 ∧ b = 9)) (fun _ _ => False) T res.2) : ∀ (n : Nat) {T : TT} {x2 : Int32} {x3 : Int64} {x5 : Int32} {x6 : Int32} {x7 : Int32} (h : m_X10_years_l56 rec47 n T x2 x3 x5 x6 x7 = some res), Fr (fun a b => (a = 1 ∧ b = 2) ∨ (a = 1 ∧ b = 3) ∨ (a = 1 ∧ b = 4) ∨ (a = 1 ∧ b = 5) ∨ (a = 1 ∧ b = 6) ∨ (a = 1 ∧ b = 7) ∨ (a = 4 ∧ b = 4)) (fun a b => (a = 1 ∧ b = 10) ∨ (a = 1 ∧ b = 11) ∨ (a = 1 ∧ b = 7) ∨ (a = 1 ∧ b = 8) ∨ (a = 1 ∧ b = 9)) (fun _ _ => False) T res.2 := by
  intro n
  induction n with
  | zero =>
    intro T x2 x3 x5 x6 x7 h
    exact no_some h
  | succ n ih =>
    intro T x2 x3 x5 x6 x7 h
    have h : m_X10_years_h56 rec47 (m_X10_years_l56 rec47 n) T x2 x3 x5 x6 x7 = some res := h
    exact fr_X10_years_h56 (rec56 := m_X10_years_l56 rec47 n) hrec47 (fun h => ih h) h
set_option maxHeartbeats 4000000 in
set_option maxRecDepth 100000 in
theorem fr_X10_years_h47 {rec47 : TT → Int32 → Int64 → Int32 → Int32 → Option (Int32 × TT)} {res : Int32 × TT} (hrec47 : ∀ {T : TT} {x2 : Int32} {x3 : Int64} {x5 : Int32} {x6 : Int32}, rec47 T x2 x3 x5 x6 = some res → Fr (fun a b => (a = 1 ∧ b = 2) ∨ (a = 1 ∧ b = 3) ∨ (a = 1 ∧ b = 4) ∨ (a = 1 ∧ b = 5) ∨ (a = 1 ∧ b = 6) ∨ (a = 1 ∧ b = 7) ∨ (a = 4 ∧ b = 4)) (fun a b => (a = 1 ∧ b = 10) ∨ (a = 1 ∧ b = 11) ∨ (a = 1 ∧ b = 7) ∨ (a = 1 ∧ b = 8) ∨ (a = 1 ∧ b = 9)) (fun _ _ => False) T res.2) {T : TT} {x2 : Int32} {x3 : Int64} {x5 : Int32} {x6 : Int32} (h : m_X10_years_h47 rec47 T x2 x3 x5 x6 = some res) : Fr (fun a b => (a = 1 ∧ b = 2) ∨ (a = 1 ∧ b = 3) ∨ (a = 1 ∧ b = 4) ∨ (a = 1 ∧ b = 5) ∨ (a = 1 ∧ b = 6) ∨ (a = 1 ∧ b = 7) ∨ (a = 4 ∧ b = 4)) (fun a b => (a = 1 ∧ b = 10) ∨ (a = 1 ∧ b = 11) ∨ (a = 1 ∧ b = 7) ∨ (a = 1 ∧ b = 8) ∨ (a = 1 ∧ b = 9)) (fun _ _ => False) T res.2 := by
  unfold m_X10_years_h47 at h
  have F0 : Fr (fun a b => (a = 1 ∧ b = 2) ∨ (a = 1 ∧ b = 3) ∨ (a = 1 ∧ b = 4) ∨ (a = 1 ∧ b = 5) ∨ (a = 1 ∧ b = 6) ∨ (a = 1 ∧ b = 7) ∨ (a = 4 ∧ b = 4)) (fun a b => (a = 1 ∧ b = 10) ∨ (a = 1 ∧ b = 11) ∨ (a = 1 ∧ b = 7) ∨ (a = 1 ∧ b = 8) ∨ (a = 1 ∧ b = 9)) (fun _ _ => False) T T := Fr.rf
  rcases ifo h with h | h
  · have hq := some_i h
    subst hq
    exact F0
  · exact F0.trans (fr_X10_years_l56 hrec47 _ h)
set_option maxHeartbeats 4000000 in
set_option maxRecDepth 100000 in
theorem fr_X10_years_l47 {res : Int32 × TT} : ∀ (n : Nat) {T : TT} {x2 : Int32} {x3 : Int64} {x5 : Int32} {x6 : Int32} (h : m_X10_years_l47 n T x2 x3 x5 x6 = some res), Fr (fun a b => (a = 1 ∧ b = 2) ∨ (a = 1 ∧ b = 3) ∨ (a = 1 ∧ b = 4) ∨ (a = 1 ∧ b = 5) ∨ (a = 1 ∧ b = 6) ∨ (a = 1 ∧ b = 7) ∨ (a = 4 ∧ b = 4)) (fun a b => (a = 1 ∧ b = 10) ∨ (a = 1 ∧ b = 11) ∨ (a = 1 ∧ b = 7) ∨ (a = 1 ∧ b = 8) ∨ (a = 1 ∧ b = 9)) (fun _ _ => False) T res.2 := by
  intro n
  induction n with
  | zero =>
    intro T x2 x3 x5 x6 h
    exact no_some h
  | succ n ih =>
    intro T x2 x3 x5 x6 h
    have h : m_X10_years_h47 (m_X10_years_l47 n) T x2 x3 x5 x6 = some res := h
    exact fr_X10_years_h47 (rec47 := m_X10_years_l47 n) (fun h => ih h) h
set_option maxHeartbeats 4000000 in
set_option maxRecDepth 100000 in
theorem fr_X10_years_b20 {res : Int32 × TT} {T : TT} (h : m_X10_years_b20 T = some res) : Fr (fun a b => (a = 1 ∧ b = 2) ∨ (a = 1 ∧ b = 3) ∨ (a = 1 ∧ b = 4) ∨ (a = 1 ∧ b = 5) ∨ (a = 1 ∧ b = 6) ∨ (a = 1 ∧ b = 7) ∨ (a = 4 ∧ b = 4)) (fun a b => (a = 1 ∧ b = 10) ∨ (a = 1 ∧ b = 11) ∨ (a = 1 ∧ b = 7) ∨ (a = 1 ∧ b = 8) ∨ (a = 1 ∧ b = 9)) (fun _ _ => False) T res.2 := by
  unfold m_X10_years_b20 at h
  have F0 : Fr (fun a b => (a = 1 ∧ b = 2) ∨ (a = 1 ∧ b = 3) ∨ (a = 1 ∧ b = 4) ∨ (a = 1 ∧ b = 5) ∨ (a = 1 ∧ b = 6) ∨ (a = 1 ∧ b = 7) ∨ (a = 4 ∧ b = 4)) (fun a b => (a = 1 ∧ b = 10) ∨ (a = 1 ∧ b = 11) ∨ (a = 1 ∧ b = 7) ∨ (a = 1 ∧ b = 8) ∨ (a = 1 ∧ b = 9)) (fun _ _ => False) T T := Fr.rf
  obtain ⟨z15, ez15, h⟩ := bnd h
  have Fz15 := F0.trans ((fr_X10_refuse ez15).mono (fun a b h => (Or.inr (Or.inr (Or.inr (Or.inr (Or.inr (Or.inr h))))))) (fun a b h => False.elim h) (fun a b h => False.elim h))
  have hq := some_i h
  subst hq
  exact Fz15
set_option maxHeartbeats 4000000 in
set_option maxRecDepth 100000 in
theorem fr_X10_years {T : TT} {x1 : Int32} {x2 : Int32} {res : Int32 × TT} (h : m_X10_years T x1 x2 = some res) : Fr (fun a b => (a = 1 ∧ b = 2) ∨ (a = 1 ∧ b = 3) ∨ (a = 1 ∧ b = 4) ∨ (a = 1 ∧ b = 5) ∨ (a = 1 ∧ b = 6) ∨ (a = 1 ∧ b = 7) ∨ (a = 4 ∧ b = 4)) (fun a b => (a = 1 ∧ b = 10) ∨ (a = 1 ∧ b = 11) ∨ (a = 1 ∧ b = 7) ∨ (a = 1 ∧ b = 8) ∨ (a = 1 ∧ b = 9)) (fun _ _ => False) T res.2 := by
  unfold m_X10_years at h
  have F0 : Fr (fun a b => (a = 1 ∧ b = 2) ∨ (a = 1 ∧ b = 3) ∨ (a = 1 ∧ b = 4) ∨ (a = 1 ∧ b = 5) ∨ (a = 1 ∧ b = 6) ∨ (a = 1 ∧ b = 7) ∨ (a = 4 ∧ b = 4)) (fun a b => (a = 1 ∧ b = 10) ∨ (a = 1 ∧ b = 11) ∨ (a = 1 ∧ b = 7) ∨ (a = 1 ∧ b = 8) ∨ (a = 1 ∧ b = 9)) (fun _ _ => False) T T := Fr.rf
  obtain ⟨z1, ez1, h⟩ := bnd h
  rcases ifo h with h | h
  · exact F0.trans (fr_X10_years_b20 h)
  · obtain ⟨z2, ez2, h⟩ := bnd h
    rcases ifo h with h | h
    · exact F0.trans (fr_X10_years_b20 h)
    · obtain ⟨z3, ez3, h⟩ := bnd h
      have Fz3 := F0.trans ((fr_X4_copyFrom ez3).mono (fun a b h => by
    rcases h with h | h | h | h | h | h
    · exact (Or.inl h)
    · exact (Or.inr (Or.inl h))
    · exact (Or.inr (Or.inr (Or.inl h)))
    · exact (Or.inr (Or.inr (Or.inr (Or.inl h))))
    · exact (Or.inr (Or.inr (Or.inr (Or.inr (Or.inl h)))))
    · exact (Or.inr (Or.inr (Or.inr (Or.inr (Or.inr (Or.inl h))))))) (fun a b h => h) (fun a b h => False.elim h))
      obtain ⟨y4, ey4, h⟩ := bTe h
      exact Fz3.trans (fr_X10_years_l47 _ h)
set_option maxHeartbeats 4000000 in
set_option maxRecDepth 100000 in
theorem fr_X10_part {T : TT} {x1 : Int32} {res : Int64 × TT} (h : m_X10_part T x1 = some res) : Fr (fun a b => (a = 4 ∧ b = 4)) (fun _ _ => False) (fun _ _ => False) T res.2 := by
  unfold m_X10_part at h
  have F0 : Fr (fun a b => (a = 4 ∧ b = 4)) (fun _ _ => False) (fun _ _ => False) T T := Fr.rf
  obtain ⟨z1, ez1, h⟩ := bnd h
  rcases ifo h with h | h
  · obtain ⟨z3, ez3, h⟩ := bnd h
    have Fz3 := F0.trans ((fr_X10_refuse ez3).mono (fun a b h => h) (fun a b h => False.elim h) (fun a b h => False.elim h))
    have hq := some_i h
    subst hq
    exact Fz3
  · rcases ifo h with h | h
    · have hq := some_i h
      subst hq
      exact F0
    · have hq := some_i h
      subst hq
      exact F0
set_option maxHeartbeats 4000000 in
set_option maxRecDepth 100000 in
theorem fr_X10_image {T : TT} {x1 : Int32} {res : Int32 × TT} (h : m_X10_image T x1 = some res) : Fr (fun a b => a = 2 ∨ a = 3 ∨ (a = 4 ∧ b = 2) ∨ (a = 4 ∧ b = 4)) (fun a b => a = 2 ∨ a = 3) (fun _ _ => False) T res.2 := by
  unfold m_X10_image at h
  have F0 : Fr (fun a b => a = 2 ∨ a = 3 ∨ (a = 4 ∧ b = 2) ∨ (a = 4 ∧ b = 4)) (fun a b => a = 2 ∨ a = 3) (fun _ _ => False) T T := Fr.rf
  obtain ⟨z1, ez1, h⟩ := bnd h
  rcases ifo h with h | h
  · obtain ⟨z5, ez5, h⟩ := bnd h
    have Fz5 := F0.trans ((fr_X10_refuse ez5).mono (fun a b h => (Or.inr (Or.inr (Or.inr h)))) (fun a b h => False.elim h) (fun a b h => False.elim h))
    have hq := some_i h
    subst hq
    exact Fz5
  · obtain ⟨gi, h⟩ := gd h
    obtain ⟨z3, ez3, h⟩ := bnd h
    have Fz3 := F0.trans ((fr_X4_copyFrom ez3).mono (fun a b h => by
    have qq := inb_lt gi
    have h1 : a = 2 + (Int32.toNatClampNeg x1) := by
      rcases h with h | h | h | h | h | h <;> exact h.1
    clear h
    omega) (fun a b h => by
    have qq := inb_lt gi
    have h1 : a = 2 + (Int32.toNatClampNeg x1) := by
      rcases h with h | h | h | h | h <;> exact h.1
    clear h
    omega) (fun a b h => False.elim h))
    obtain ⟨gi, h⟩ := gd h
    obtain ⟨T4, eT4, h⟩ := bTe h
    have FT4 := (Fz3.wA eT4 (Or.inr (Or.inr (Or.inl ⟨rfl, rfl⟩))))
    have hq := some_i h
    subst hq
    exact FT4
set_option maxHeartbeats 4000000 in
set_option maxRecDepth 100000 in
theorem fr_X10_from {T : TT} {x1 : Int32} {res : Int32 × TT} (h : m_X10_from T x1 = some res) : Fr (fun a b => (a = 0 ∧ b = 2) ∨ (a = 0 ∧ b = 3) ∨ (a = 0 ∧ b = 4) ∨ (a = 0 ∧ b = 5) ∨ (a = 0 ∧ b = 6) ∨ (a = 0 ∧ b = 7) ∨ (a = 4 ∧ b = 4)) (fun a b => (a = 0 ∧ b = 10) ∨ (a = 0 ∧ b = 11) ∨ (a = 0 ∧ b = 7) ∨ (a = 0 ∧ b = 8) ∨ (a = 0 ∧ b = 9)) (fun _ _ => False) T res.2 := by
  unfold m_X10_from at h
  have F0 : Fr (fun a b => (a = 0 ∧ b = 2) ∨ (a = 0 ∧ b = 3) ∨ (a = 0 ∧ b = 4) ∨ (a = 0 ∧ b = 5) ∨ (a = 0 ∧ b = 6) ∨ (a = 0 ∧ b = 7) ∨ (a = 4 ∧ b = 4)) (fun a b => (a = 0 ∧ b = 10) ∨ (a = 0 ∧ b = 11) ∨ (a = 0 ∧ b = 7) ∨ (a = 0 ∧ b = 8) ∨ (a = 0 ∧ b = 9)) (fun _ _ => False) T T := Fr.rf
  obtain ⟨z1, ez1, h⟩ := bnd h
  rcases ifo h with h | h
  · obtain ⟨z6, ez6, h⟩ := bnd h
    have Fz6 := F0.trans ((fr_X10_refuse ez6).mono (fun a b h => (Or.inr (Or.inr (Or.inr (Or.inr (Or.inr (Or.inr h))))))) (fun a b h => False.elim h) (fun a b h => False.elim h))
    have hq := some_i h
    subst hq
    exact Fz6
  · obtain ⟨gi, h⟩ := gd h
    rcases ifo h with h | h
    · obtain ⟨z4, ez4, h⟩ := bnd h
      have Fz4 := F0.trans ((fr_X10_refuse ez4).mono (fun a b h => (Or.inr (Or.inr (Or.inr (Or.inr (Or.inr (Or.inr h))))))) (fun a b h => False.elim h) (fun a b h => False.elim h))
      have hq := some_i h
      subst hq
      exact Fz4
    · obtain ⟨gi, h⟩ := gd h
      obtain ⟨z3, ez3, h⟩ := bnd h
      have Fz3 := F0.trans ((fr_X4_copyFrom ez3).mono (fun a b h => by
    rcases h with h | h | h | h | h | h
    · exact (Or.inl h)
    · exact (Or.inr (Or.inl h))
    · exact (Or.inr (Or.inr (Or.inl h)))
    · exact (Or.inr (Or.inr (Or.inr (Or.inl h))))
    · exact (Or.inr (Or.inr (Or.inr (Or.inr (Or.inl h)))))
    · exact (Or.inr (Or.inr (Or.inr (Or.inr (Or.inr (Or.inl h))))))) (fun a b h => h) (fun a b h => False.elim h))
      have hq := some_i h
      subst hq
      exact Fz3
set_option maxHeartbeats 4000000 in
set_option maxRecDepth 100000 in
theorem fr_X10_status {T : TT} {x1 : Int32} {res : Int32 × TT} (h : m_X10_status T x1 = some res) : Fr (fun a b => (a = 4 ∧ b = 4)) (fun _ _ => False) (fun _ _ => False) T res.2 := by
  unfold m_X10_status at h
  have F0 : Fr (fun a b => (a = 4 ∧ b = 4)) (fun _ _ => False) (fun _ _ => False) T T := Fr.rf
  obtain ⟨z1, ez1, h⟩ := bnd h
  rcases ifo h with h | h
  · obtain ⟨z2, ez2, h⟩ := bnd h
    have Fz2 := F0.trans ((fr_X10_refuse ez2).mono (fun a b h => h) (fun a b h => False.elim h) (fun a b h => False.elim h))
    have hq := some_i h
    subst hq
    exact Fz2
  · obtain ⟨gi, h⟩ := gd h
    have hq := some_i h
    subst hq
    exact F0
set_option maxHeartbeats 4000000 in
set_option maxRecDepth 100000 in
theorem fr_X10_count {T : TT} {x1 : Int32} {res : Int32 × TT} (h : m_X10_count T x1 = some res) : Fr (fun a b => (a = 4 ∧ b = 4)) (fun _ _ => False) (fun _ _ => False) T res.2 := by
  unfold m_X10_count at h
  have F0 : Fr (fun a b => (a = 4 ∧ b = 4)) (fun _ _ => False) (fun _ _ => False) T T := Fr.rf
  rcases ifo h with h | h
  · have hq := some_i h
    subst hq
    exact F0
  · rcases ifo h with h | h
    · have hq := some_i h
      subst hq
      exact F0
    · rcases ifo h with h | h
      · obtain ⟨z4, ez4, h⟩ := bnd h
        have hq := some_i h
        subst hq
        exact F0
      · rcases ifo h with h | h
        · obtain ⟨z6, ez6, h⟩ := bnd h
          have hq := some_i h
          subst hq
          exact F0
        · rcases ifo h with h | h
          · have hq := some_i h
            subst hq
            exact F0
          · rcases ifo h with h | h
            · have hq := some_i h
              subst hq
              exact F0
            · rcases ifo h with h | h
              · have hq := some_i h
                subst hq
                exact F0
              · rcases ifo h with h | h
                · have hq := some_i h
                  subst hq
                  exact F0
                · obtain ⟨z11, ez11, h⟩ := bnd h
                  have Fz11 := F0.trans ((fr_X10_refuse ez11).mono (fun a b h => h) (fun a b h => False.elim h) (fun a b h => False.elim h))
                  have hq := some_i h
                  subst hq
                  exact Fz11
set_option maxHeartbeats 4000000 in
set_option maxRecDepth 100000 in
theorem fr_X10_digest_b202 {res : Int64 × TT} {T : TT} {x1 : Int64} (h : m_X10_digest_b202 T x1 = some res) : Fr (fun a b => (a = 4 ∧ b = 4)) (fun _ _ => False) (fun _ _ => False) T res.2 := by
  unfold m_X10_digest_b202 at h
  have F0 : Fr (fun a b => (a = 4 ∧ b = 4)) (fun _ _ => False) (fun _ _ => False) T T := Fr.rf
  obtain ⟨y18, ey18, h⟩ := bTe h
  have hq := some_i h
  subst hq
  exact F0
set_option maxHeartbeats 4000000 in
set_option maxRecDepth 100000 in
theorem fr_X10_digest_h154 {rec154 : TT → Int64 → Int32 → Option (Int64 × TT)} {res : Int64 × TT} (hrec154 : ∀ {T : TT} {x1 : Int64} {x3 : Int32}, rec154 T x1 x3 = some res → Fr (fun a b => (a = 4 ∧ b = 4)) (fun _ _ => False) (fun _ _ => False) T res.2) {T : TT} {x1 : Int64} {x3 : Int32} (h : m_X10_digest_h154 rec154 T x1 x3 = some res) : Fr (fun a b => (a = 4 ∧ b = 4)) (fun _ _ => False) (fun _ _ => False) T res.2 := by
  unfold m_X10_digest_h154 at h
  have F0 : Fr (fun a b => (a = 4 ∧ b = 4)) (fun _ _ => False) (fun _ _ => False) T T := Fr.rf
  rcases ifo h with h | h
  · exact F0.trans (fr_X10_digest_b202 h)
  · rcases ifo h with h | h
    · exact F0.trans (fr_X10_digest_b202 h)
    · obtain ⟨gi, h⟩ := gd h
      obtain ⟨y14, ey14, h⟩ := bTe h
      obtain ⟨y15, ey15, h⟩ := bTe h
      exact F0.trans (hrec154 h)
set_option maxHeartbeats 4000000 in
set_option maxRecDepth 100000 in
theorem fr_X10_digest_l154 {res : Int64 × TT} : ∀ (n : Nat) {T : TT} {x1 : Int64} {x3 : Int32} (h : m_X10_digest_l154 n T x1 x3 = some res), Fr (fun a b => (a = 4 ∧ b = 4)) (fun _ _ => False) (fun _ _ => False) T res.2 := by
  intro n
  induction n with
  | zero =>
    intro T x1 x3 h
    exact no_some h
  | succ n ih =>
    intro T x1 x3 h
    have h : m_X10_digest_h154 (m_X10_digest_l154 n) T x1 x3 = some res := h
    exact fr_X10_digest_h154 (rec154 := m_X10_digest_l154 n) (fun h => ih h) h
set_option maxHeartbeats 4000000 in
set_option maxRecDepth 100000 in
theorem fr_X10_digest_b152 {res : Int64 × TT} {T : TT} {x1 : Int64} (h : m_X10_digest_b152 T x1 = some res) : Fr (fun a b => (a = 4 ∧ b = 4)) (fun _ _ => False) (fun _ _ => False) T res.2 := by
  unfold m_X10_digest_b152 at h
  have F0 : Fr (fun a b => (a = 4 ∧ b = 4)) (fun _ _ => False) (fun _ _ => False) T T := Fr.rf
  exact F0.trans (fr_X10_digest_l154 _ h)
set_option maxHeartbeats 4000000 in
set_option maxRecDepth 100000 in
theorem fr_X10_digest_h103 {rec103 : TT → Int64 → Int32 → Option (Int64 × TT)} {res : Int64 × TT} (hrec103 : ∀ {T : TT} {x1 : Int64} {x3 : Int32}, rec103 T x1 x3 = some res → Fr (fun a b => (a = 4 ∧ b = 4)) (fun _ _ => False) (fun _ _ => False) T res.2) {T : TT} {x1 : Int64} {x3 : Int32} (h : m_X10_digest_h103 rec103 T x1 x3 = some res) : Fr (fun a b => (a = 4 ∧ b = 4)) (fun _ _ => False) (fun _ _ => False) T res.2 := by
  unfold m_X10_digest_h103 at h
  have F0 : Fr (fun a b => (a = 4 ∧ b = 4)) (fun _ _ => False) (fun _ _ => False) T T := Fr.rf
  rcases ifo h with h | h
  · exact F0.trans (fr_X10_digest_b152 h)
  · rcases ifo h with h | h
    · exact F0.trans (fr_X10_digest_b152 h)
    · obtain ⟨gi, h⟩ := gd h
      obtain ⟨y10, ey10, h⟩ := bTe h
      obtain ⟨y11, ey11, h⟩ := bTe h
      exact F0.trans (hrec103 h)
set_option maxHeartbeats 4000000 in
set_option maxRecDepth 100000 in
theorem fr_X10_digest_l103 {res : Int64 × TT} : ∀ (n : Nat) {T : TT} {x1 : Int64} {x3 : Int32} (h : m_X10_digest_l103 n T x1 x3 = some res), Fr (fun a b => (a = 4 ∧ b = 4)) (fun _ _ => False) (fun _ _ => False) T res.2 := by
  intro n
  induction n with
  | zero =>
    intro T x1 x3 h
    exact no_some h
  | succ n ih =>
    intro T x1 x3 h
    have h : m_X10_digest_h103 (m_X10_digest_l103 n) T x1 x3 = some res := h
    exact fr_X10_digest_h103 (rec103 := m_X10_digest_l103 n) (fun h => ih h) h
set_option maxHeartbeats 4000000 in
set_option maxRecDepth 100000 in
theorem fr_X10_digest_h33 {rec33 : TT → Int64 → Int32 → Option (Int64 × TT)} {res : Int64 × TT} (hrec33 : ∀ {T : TT} {x1 : Int64} {x3 : Int32}, rec33 T x1 x3 = some res → Fr (fun a b => (a = 4 ∧ b = 4)) (fun _ _ => False) (fun _ _ => False) T res.2) {T : TT} {x1 : Int64} {x3 : Int32} (h : m_X10_digest_h33 rec33 T x1 x3 = some res) : Fr (fun a b => (a = 4 ∧ b = 4)) (fun _ _ => False) (fun _ _ => False) T res.2 := by
  unfold m_X10_digest_h33 at h
  have F0 : Fr (fun a b => (a = 4 ∧ b = 4)) (fun _ _ => False) (fun _ _ => False) T T := Fr.rf
  rcases ifo h with h | h
  · exact F0.trans (fr_X10_digest_l103 _ h)
  · obtain ⟨gi, h⟩ := gd h
    obtain ⟨y5, ey5, h⟩ := bTe h
    obtain ⟨gi, h⟩ := gd h
    obtain ⟨y6, ey6, h⟩ := bTe h
    obtain ⟨gi, h⟩ := gd h
    obtain ⟨y7, ey7, h⟩ := bTe h
    obtain ⟨y8, ey8, h⟩ := bTe h
    exact F0.trans (hrec33 h)
set_option maxHeartbeats 4000000 in
set_option maxRecDepth 100000 in
theorem fr_X10_digest_l33 {res : Int64 × TT} : ∀ (n : Nat) {T : TT} {x1 : Int64} {x3 : Int32} (h : m_X10_digest_l33 n T x1 x3 = some res), Fr (fun a b => (a = 4 ∧ b = 4)) (fun _ _ => False) (fun _ _ => False) T res.2 := by
  intro n
  induction n with
  | zero =>
    intro T x1 x3 h
    exact no_some h
  | succ n ih =>
    intro T x1 x3 h
    have h : m_X10_digest_h33 (m_X10_digest_l33 n) T x1 x3 = some res := h
    exact fr_X10_digest_h33 (rec33 := m_X10_digest_l33 n) (fun h => ih h) h
set_option maxHeartbeats 4000000 in
set_option maxRecDepth 100000 in
theorem fr_X10_digest_h6 {rec6 : TT → Int64 → Int32 → Option (Int64 × TT)} {res : Int64 × TT} (hrec6 : ∀ {T : TT} {x1 : Int64} {x3 : Int32}, rec6 T x1 x3 = some res → Fr (fun a b => (a = 4 ∧ b = 4)) (fun _ _ => False) (fun _ _ => False) T res.2) {T : TT} {x1 : Int64} {x3 : Int32} (h : m_X10_digest_h6 rec6 T x1 x3 = some res) : Fr (fun a b => (a = 4 ∧ b = 4)) (fun _ _ => False) (fun _ _ => False) T res.2 := by
  unfold m_X10_digest_h6 at h
  have F0 : Fr (fun a b => (a = 4 ∧ b = 4)) (fun _ _ => False) (fun _ _ => False) T T := Fr.rf
  rcases ifo h with h | h
  · exact F0.trans (fr_X10_digest_l33 _ h)
  · obtain ⟨z1, ez1, h⟩ := bnd h
    have Fz1 := F0.trans ((fr_X10_count ez1).mono (fun a b h => h) (fun a b h => False.elim h) (fun a b h => False.elim h))
    obtain ⟨y2, ey2, h⟩ := bTe h
    obtain ⟨y3, ey3, h⟩ := bTe h
    exact Fz1.trans (hrec6 h)
set_option maxHeartbeats 4000000 in
set_option maxRecDepth 100000 in
theorem fr_X10_digest_l6 {res : Int64 × TT} : ∀ (n : Nat) {T : TT} {x1 : Int64} {x3 : Int32} (h : m_X10_digest_l6 n T x1 x3 = some res), Fr (fun a b => (a = 4 ∧ b = 4)) (fun _ _ => False) (fun _ _ => False) T res.2 := by
  intro n
  induction n with
  | zero =>
    intro T x1 x3 h
    exact no_some h
  | succ n ih =>
    intro T x1 x3 h
    have h : m_X10_digest_h6 (m_X10_digest_l6 n) T x1 x3 = some res := h
    exact fr_X10_digest_h6 (rec6 := m_X10_digest_l6 n) (fun h => ih h) h
set_option maxHeartbeats 4000000 in
set_option maxRecDepth 100000 in
theorem fr_X10_digest {T : TT} {res : Int64 × TT} (h : m_X10_digest T = some res) : Fr (fun a b => (a = 4 ∧ b = 4)) (fun _ _ => False) (fun _ _ => False) T res.2 := by
  unfold m_X10_digest at h
  have F0 : Fr (fun a b => (a = 4 ∧ b = 4)) (fun _ _ => False) (fun _ _ => False) T T := Fr.rf
  exact F0.trans (fr_X10_digest_l6 _ h)
set_option maxHeartbeats 4000000 in
set_option maxRecDepth 100000 in
theorem fr_X11_bad {T : TT} {x1 : Int32} {res : Int32 × TT} (h : m_X11_bad T x1 = some res) : Fr (fun a b => (a = 10 ∧ b = 4)) (fun _ _ => False) (fun _ _ => False) T res.2 := by
  unfold m_X11_bad at h
  have F0 : Fr (fun a b => (a = 10 ∧ b = 4)) (fun _ _ => False) (fun _ _ => False) T T := Fr.rf
  obtain ⟨T1, eT1, h⟩ := bTe h
  have FT1 := (F0.wA eT1 ⟨rfl, rfl⟩)
  have hq := some_i h
  subst hq
  exact FT1
set_option maxHeartbeats 4000000 in
set_option maxRecDepth 100000 in
theorem fr_X11_no {T : TT} {res : Int32 × TT} (h : m_X11_no T = some res) : Fr (fun a b => (a = 10 ∧ b = 4)) (fun _ _ => False) (fun _ _ => False) T res.2 := by
  unfold m_X11_no at h
  have F0 : Fr (fun a b => (a = 10 ∧ b = 4)) (fun _ _ => False) (fun _ _ => False) T T := Fr.rf
  obtain ⟨T1, eT1, h⟩ := bTe h
  have FT1 := (F0.wA eT1 ⟨rfl, rfl⟩)
  have hq := some_i h
  subst hq
  exact FT1
set_option maxHeartbeats 4000000 in
set_option maxRecDepth 100000 in
theorem fr_X11_full {T : TT} {res : Int32 × TT} (h : m_X11_full T = some res) : Fr (fun a b => (a = 10 ∧ b = 4)) (fun _ _ => False) (fun _ _ => False) T res.2 := by
  unfold m_X11_full at h
  have F0 : Fr (fun a b => (a = 10 ∧ b = 4)) (fun _ _ => False) (fun _ _ => False) T T := Fr.rf
  obtain ⟨T1, eT1, h⟩ := bTe h
  have FT1 := (F0.wA eT1 ⟨rfl, rfl⟩)
  have hq := some_i h
  subst hq
  exact FT1
set_option maxHeartbeats 4000000 in
set_option maxRecDepth 100000 in
theorem fr_X11_begin_h2 {ag af an : Nat} {rec2 : TT → Int32 → Option (TT)} {res : TT} (hrec2 : ∀ {T : TT} {x1 : Int32}, rec2 T x1 = some res → Fr (fun a b => (a = ag ∧ b = af)) (fun _ _ => False) (fun _ _ => False) T res) {T : TT} {x1 : Int32} (h : m_X11_begin_h2 ag af an rec2 T x1 = some res) : Fr (fun a b => (a = ag ∧ b = af)) (fun _ _ => False) (fun _ _ => False) T res := by
  unfold m_X11_begin_h2 at h
  have F0 : Fr (fun a b => (a = ag ∧ b = af)) (fun _ _ => False) (fun _ _ => False) T T := Fr.rf
  rcases ifo h with h | h
  · have hq := some_i h
    subst hq
    exact F0
  · obtain ⟨gi, h⟩ := gd h
    obtain ⟨T1, eT1, h⟩ := bTe h
    have FT1 := (F0.wA eT1 ⟨rfl, rfl⟩)
    obtain ⟨y2, ey2, h⟩ := bTe h
    exact FT1.trans (hrec2 h)
set_option maxHeartbeats 4000000 in
set_option maxRecDepth 100000 in
theorem fr_X11_begin_l2 {ag af an : Nat} {res : TT} : ∀ (n : Nat) {T : TT} {x1 : Int32} (h : m_X11_begin_l2 ag af an n T x1 = some res), Fr (fun a b => (a = ag ∧ b = af)) (fun _ _ => False) (fun _ _ => False) T res := by
  intro n
  induction n with
  | zero =>
    intro T x1 h
    exact no_some h
  | succ n ih =>
    intro T x1 h
    have h : m_X11_begin_h2 ag af an (m_X11_begin_l2 ag af an n) T x1 = some res := h
    exact fr_X11_begin_h2 (rec2 := m_X11_begin_l2 ag af an n) (fun h => ih h) h
set_option maxHeartbeats 4000000 in
set_option maxRecDepth 100000 in
theorem fr_X11_begin {T : TT} {ag af an : Nat} {res : TT} (h : m_X11_begin T ag af an = some res) : Fr (fun a b => (a = ag ∧ b = af)) (fun _ _ => False) (fun _ _ => False) T res := by
  unfold m_X11_begin at h
  have F0 : Fr (fun a b => (a = ag ∧ b = af)) (fun _ _ => False) (fun _ _ => False) T T := Fr.rf
  exact F0.trans (fr_X11_begin_l2 _ h)
set_option maxHeartbeats 4000000 in
set_option maxRecDepth 100000 in
theorem fr_X11_rank {T : TT} {res : Int32 × TT} (h : m_X11_rank T = some res) : Fr (fun a b => (a = 10 ∧ b = 1)) (fun _ _ => False) (fun _ _ => False) T res.2 := by
  unfold m_X11_rank at h
  have F0 : Fr (fun a b => (a = 10 ∧ b = 1)) (fun _ _ => False) (fun _ _ => False) T T := Fr.rf
  obtain ⟨z1, ez1, h⟩ := bnd h
  obtain ⟨z2, ez2, h⟩ := bnd h
  have Fz2 := F0.trans ((fr_X11_begin ez2).mono (fun a b h => h) (fun a b h => False.elim h) (fun a b h => False.elim h))
  have hq := some_i h
  subst hq
  exact Fz2
set_option maxHeartbeats 4000000 in
set_option maxRecDepth 100000 in
theorem fr_X11_layDriver {T : TT} {ag af an : Nat} {x1 : Int32} {x2 : Int32} {res : TT} (h : m_X11_layDriver T ag af an x1 x2 = some res) : Fr (fun a b => (a = ag ∧ b = af)) (fun _ _ => False) (fun _ _ => False) T res := by
  unfold m_X11_layDriver at h
  have F0 : Fr (fun a b => (a = ag ∧ b = af)) (fun _ _ => False) (fun _ _ => False) T T := Fr.rf
  obtain ⟨gi, h⟩ := gd h
  obtain ⟨y1, ey1, h⟩ := bTe h
  obtain ⟨gi, h⟩ := gd h
  obtain ⟨T2, eT2, h⟩ := bTe h
  have FT2 := (F0.wA eT2 ⟨rfl, rfl⟩)
  obtain ⟨gi, h⟩ := gd h
  obtain ⟨T3, eT3, h⟩ := bTe h
  have FT3 := (FT2.wA eT3 ⟨rfl, rfl⟩)
  obtain ⟨gi, h⟩ := gd h
  obtain ⟨T4, eT4, h⟩ := bTe h
  have FT4 := (FT3.wA eT4 ⟨rfl, rfl⟩)
  obtain ⟨gi, h⟩ := gd h
  obtain ⟨gi, h⟩ := gd h
  obtain ⟨T5, eT5, h⟩ := bTe h
  have FT5 := (FT4.wA eT5 ⟨rfl, rfl⟩)
  have hq := some_i h
  subst hq
  exact FT5
set_option maxHeartbeats 4000000 in
set_option maxRecDepth 100000 in
theorem fr_X11_driver_b24 {res : Int32 × TT} {T : TT} (h : m_X11_driver_b24 T = some res) : Fr (fun a b => (a = 10 ∧ b = 1) ∨ (a = 10 ∧ b = 4)) (fun _ _ => False) (fun _ _ => False) T res.2 := by
  unfold m_X11_driver_b24 at h
  have F0 : Fr (fun a b => (a = 10 ∧ b = 1) ∨ (a = 10 ∧ b = 4)) (fun _ _ => False) (fun _ _ => False) T T := Fr.rf
  obtain ⟨z11, ez11, h⟩ := bnd h
  have Fz11 := F0.trans ((fr_X11_bad ez11).mono (fun a b h => (Or.inr h)) (fun a b h => False.elim h) (fun a b h => False.elim h))
  have hq := some_i h
  subst hq
  exact Fz11
set_option maxHeartbeats 4000000 in
set_option maxRecDepth 100000 in
theorem fr_X11_driver {T : TT} {x1 : Int32} {x2 : Int32} {res : Int32 × TT} (h : m_X11_driver T x1 x2 = some res) : Fr (fun a b => (a = 10 ∧ b = 1) ∨ (a = 10 ∧ b = 4)) (fun _ _ => False) (fun _ _ => False) T res.2 := by
  unfold m_X11_driver at h
  have F0 : Fr (fun a b => (a = 10 ∧ b = 1) ∨ (a = 10 ∧ b = 4)) (fun _ _ => False) (fun _ _ => False) T T := Fr.rf
  obtain ⟨z1, ez1, h⟩ := bnd h
  rcases ifo h with h | h
  · exact F0.trans (fr_X11_driver_b24 h)
  · obtain ⟨z2, ez2, h⟩ := bnd h
    rcases ifo h with h | h
    · exact F0.trans (fr_X11_driver_b24 h)
    · obtain ⟨z3, ez3, h⟩ := bnd h
      rcases ifo h with h | h
      · obtain ⟨z7, ez7, h⟩ := bnd h
        have Fz7 := F0.trans ((fr_X11_full ez7).mono (fun a b h => (Or.inr h)) (fun a b h => False.elim h) (fun a b h => False.elim h))
        have hq := some_i h
        subst hq
        exact Fz7
      · obtain ⟨z4, ez4, h⟩ := bnd h
        have Fz4 := F0.trans ((fr_X11_layDriver ez4).mono (fun a b h => (Or.inl h)) (fun a b h => False.elim h) (fun a b h => False.elim h))
        obtain ⟨T5, eT5, h⟩ := bTe h
        have FT5 := (Fz4.wA eT5 (Or.inl ⟨rfl, rfl⟩))
        obtain ⟨z6, ez6, h⟩ := bnd h
        have hq := some_i h
        subst hq
        exact FT5
set_option maxHeartbeats 4000000 in
set_option maxRecDepth 100000 in
theorem fr_X11_goDay_b25 {res : TT} {T : TT} {x1 : Int32} {x3 : Int32} {s1 : Int32} {s2 : Int32} (h : m_X11_goDay_b25 T x1 x3 s1 s2 = some res) : Fr (fun _ _ => False) (fun a b => (a = 10 ∧ b = 6) ∨ (a = 10 ∧ b = 7)) (fun _ _ => False) T res := by
  unfold m_X11_goDay_b25 at h
  have F0 : Fr (fun _ _ => False) (fun a b => (a = 10 ∧ b = 6) ∨ (a = 10 ∧ b = 7)) (fun _ _ => False) T T := Fr.rf
  obtain ⟨T4, eT4, h⟩ := bTe h
  have FT4 := (F0.wI eT4 (Or.inr ⟨rfl, rfl⟩))
  obtain ⟨z5, ez5, h⟩ := bnd h
  obtain ⟨T6, eT6, h⟩ := bTe h
  have FT6 := (FT4.wI eT6 (Or.inl ⟨rfl, rfl⟩))
  have hq := some_i h
  subst hq
  exact FT6
set_option maxHeartbeats 4000000 in
set_option maxRecDepth 100000 in
theorem fr_X11_goDay {T : TT} {x1 : Int32} {x2 : Int32} {x3 : Int32} {res : TT} (h : m_X11_goDay T x1 x2 x3 = some res) : Fr (fun _ _ => False) (fun a b => (a = 10 ∧ b = 6) ∨ (a = 10 ∧ b = 7)) (fun _ _ => False) T res := by
  unfold m_X11_goDay at h
  have F0 : Fr (fun _ _ => False) (fun a b => (a = 10 ∧ b = 6) ∨ (a = 10 ∧ b = 7)) (fun _ _ => False) T T := Fr.rf
  rcases ifo h with h | h
  · obtain ⟨z1, ez1, h⟩ := bnd h
    obtain ⟨z2, ez2, h⟩ := bnd h
    exact F0.trans (fr_X11_goDay_b25 h)
  · exact F0.trans (fr_X11_goDay_b25 h)
set_option maxHeartbeats 4000000 in
set_option maxRecDepth 100000 in
theorem fr_X11_layOne {T : TT} {x1 : Int32} {res : TT} (h : m_X11_layOne T x1 = some res) : Fr (fun _ _ => False) (fun a b => (a = 10 ∧ b = 6) ∨ (a = 10 ∧ b = 7)) (fun _ _ => False) T res := by
  unfold m_X11_layOne at h
  have F0 : Fr (fun _ _ => False) (fun a b => (a = 10 ∧ b = 6) ∨ (a = 10 ∧ b = 7)) (fun _ _ => False) T T := Fr.rf
  obtain ⟨gi, h⟩ := gd h
  obtain ⟨T1, eT1, h⟩ := bTe h
  have FT1 := (F0.wI eT1 (Or.inl ⟨rfl, rfl⟩))
  obtain ⟨T2, eT2, h⟩ := bTe h
  have FT2 := (FT1.wI eT2 (Or.inr ⟨rfl, rfl⟩))
  have hq := some_i h
  subst hq
  exact FT2
set_option maxHeartbeats 4000000 in
set_option maxRecDepth 100000 in
theorem fr_X11_keep_h53 {rec53 : TT → Int32 → Option (TT)} {res : TT} (hrec53 : ∀ {T : TT} {x1 : Int32}, rec53 T x1 = some res → Fr (fun a b => (a = 10 ∧ b = 1)) (fun _ _ => False) (fun _ _ => False) T res) {T : TT} {x1 : Int32} (h : m_X11_keep_h53 rec53 T x1 = some res) : Fr (fun a b => (a = 10 ∧ b = 1)) (fun _ _ => False) (fun _ _ => False) T res := by
  unfold m_X11_keep_h53 at h
  have F0 : Fr (fun a b => (a = 10 ∧ b = 1)) (fun _ _ => False) (fun _ _ => False) T T := Fr.rf
  rcases ifo h with h | h
  · obtain ⟨T6, eT6, h⟩ := bTe h
    have FT6 := (F0.wA eT6 ⟨rfl, rfl⟩)
    have hq := some_i h
    subst hq
    exact FT6
  · obtain ⟨gi, h⟩ := gd h
    obtain ⟨gi, h⟩ := gd h
    obtain ⟨T7, eT7, h⟩ := bTe h
    have FT7 := (F0.wA eT7 ⟨rfl, rfl⟩)
    obtain ⟨y8, ey8, h⟩ := bTe h
    exact FT7.trans (hrec53 h)
set_option maxHeartbeats 4000000 in
set_option maxRecDepth 100000 in
theorem fr_X11_keep_l53 {res : TT} : ∀ (n : Nat) {T : TT} {x1 : Int32} (h : m_X11_keep_l53 n T x1 = some res), Fr (fun a b => (a = 10 ∧ b = 1)) (fun _ _ => False) (fun _ _ => False) T res := by
  intro n
  induction n with
  | zero =>
    intro T x1 h
    exact no_some h
  | succ n ih =>
    intro T x1 h
    have h : m_X11_keep_h53 (m_X11_keep_l53 n) T x1 = some res := h
    exact fr_X11_keep_h53 (rec53 := m_X11_keep_l53 n) (fun h => ih h) h
set_option maxHeartbeats 4000000 in
set_option maxRecDepth 100000 in
theorem fr_X11_keep_b51 {res : TT} {T : TT} (h : m_X11_keep_b51 T = some res) : Fr (fun a b => (a = 10 ∧ b = 1)) (fun _ _ => False) (fun _ _ => False) T res := by
  unfold m_X11_keep_b51 at h
  have F0 : Fr (fun a b => (a = 10 ∧ b = 1)) (fun _ _ => False) (fun _ _ => False) T T := Fr.rf
  exact F0.trans (fr_X11_keep_l53 _ h)
set_option maxHeartbeats 4000000 in
set_option maxRecDepth 100000 in
theorem fr_X11_keep_h13 {rec13 : TT → Int32 → Option (TT)} {res : TT} (hrec13 : ∀ {T : TT} {x1 : Int32}, rec13 T x1 = some res → Fr (fun a b => (a = 10 ∧ b = 1)) (fun _ _ => False) (fun _ _ => False) T res) {T : TT} {x1 : Int32} (h : m_X11_keep_h13 rec13 T x1 = some res) : Fr (fun a b => (a = 10 ∧ b = 1)) (fun _ _ => False) (fun _ _ => False) T res := by
  unfold m_X11_keep_h13 at h
  have F0 : Fr (fun a b => (a = 10 ∧ b = 1)) (fun _ _ => False) (fun _ _ => False) T T := Fr.rf
  rcases ifo h with h | h
  · obtain ⟨T2, eT2, h⟩ := bTe h
    have FT2 := (F0.wA eT2 ⟨rfl, rfl⟩)
    exact FT2.trans (fr_X11_keep_b51 h)
  · obtain ⟨gi, h⟩ := gd h
    obtain ⟨gi, h⟩ := gd h
    obtain ⟨T3, eT3, h⟩ := bTe h
    have FT3 := (F0.wA eT3 ⟨rfl, rfl⟩)
    obtain ⟨y4, ey4, h⟩ := bTe h
    exact FT3.trans (hrec13 h)
set_option maxHeartbeats 4000000 in
set_option maxRecDepth 100000 in
theorem fr_X11_keep_l13 {res : TT} : ∀ (n : Nat) {T : TT} {x1 : Int32} (h : m_X11_keep_l13 n T x1 = some res), Fr (fun a b => (a = 10 ∧ b = 1)) (fun _ _ => False) (fun _ _ => False) T res := by
  intro n
  induction n with
  | zero =>
    intro T x1 h
    exact no_some h
  | succ n ih =>
    intro T x1 h
    have h : m_X11_keep_h13 (m_X11_keep_l13 n) T x1 = some res := h
    exact fr_X11_keep_h13 (rec13 := m_X11_keep_l13 n) (fun h => ih h) h
set_option maxHeartbeats 4000000 in
set_option maxRecDepth 100000 in
theorem fr_X11_keep {T : TT} {res : TT} (h : m_X11_keep T = some res) : Fr (fun a b => (a = 10 ∧ b = 1)) (fun _ _ => False) (fun _ _ => False) T res := by
  unfold m_X11_keep at h
  have F0 : Fr (fun a b => (a = 10 ∧ b = 1)) (fun _ _ => False) (fun _ _ => False) T T := Fr.rf
  rcases ifo h with h | h
  · exact F0.trans (fr_X11_keep_l13 _ h)
  · exact F0.trans (fr_X11_keep_b51 h)
set_option maxHeartbeats 4000000 in
set_option maxRecDepth 100000 in
theorem fr_X11_passDay_b57 {ag af an : Nat} {rec6 : TT → Int32 → Int32 → Int32 → Int32 → Option (Int32 × TT)} {res : Int32 × TT} (hrec6 : ∀ {T : TT} {x2 : Int32} {x3 : Int32} {x4 : Int32} {x5 : Int32}, rec6 T x2 x3 x4 x5 = some res → Fr (fun a b => (a = ag ∧ b = af)) (fun a b => (a = 10 ∧ b = 6) ∨ (a = 10 ∧ b = 7)) (fun _ _ => False) T res.2) {T : TT} {x2 : Int32} {x3 : Int32} {x4 : Int32} {x5 : Int32} {s1 : Int32} {s2 : Int32} {s3 : Int32} (h : m_X11_passDay_b57 ag af an rec6 T x2 x3 x4 x5 s1 s2 s3 = some res) : Fr (fun a b => (a = ag ∧ b = af)) (fun a b => (a = 10 ∧ b = 6) ∨ (a = 10 ∧ b = 7)) (fun _ _ => False) T res.2 := by
  unfold m_X11_passDay_b57 at h
  have F0 : Fr (fun a b => (a = ag ∧ b = af)) (fun a b => (a = 10 ∧ b = 6) ∨ (a = 10 ∧ b = 7)) (fun _ _ => False) T T := Fr.rf
  obtain ⟨z7, ez7, h⟩ := bnd h
  have Fz7 := F0.trans ((fr_X11_goDay ez7).mono (fun a b h => False.elim h) (fun a b h => h) (fun a b h => False.elim h))
  obtain ⟨gi, h⟩ := gd h
  obtain ⟨T8, eT8, h⟩ := bTe h
  have FT8 := (Fz7.wA eT8 ⟨rfl, rfl⟩)
  obtain ⟨gi, h⟩ := gd h
  obtain ⟨gi, h⟩ := gd h
  obtain ⟨T9, eT9, h⟩ := bTe h
  have FT9 := (FT8.wA eT9 ⟨rfl, rfl⟩)
  obtain ⟨y10, ey10, h⟩ := bTe h
  obtain ⟨y11, ey11, h⟩ := bTe h
  exact FT9.trans (hrec6 h)
set_option maxHeartbeats 4000000 in
set_option maxRecDepth 100000 in
theorem fr_X11_passDay_b52 {ag af an : Nat} {rec6 : TT → Int32 → Int32 → Int32 → Int32 → Option (Int32 × TT)} {res : Int32 × TT} (hrec6 : ∀ {T : TT} {x2 : Int32} {x3 : Int32} {x4 : Int32} {x5 : Int32}, rec6 T x2 x3 x4 x5 = some res → Fr (fun a b => (a = ag ∧ b = af)) (fun a b => (a = 10 ∧ b = 6) ∨ (a = 10 ∧ b = 7)) (fun _ _ => False) T res.2) {T : TT} {x2 : Int32} {x3 : Int32} {x4 : Int32} {x5 : Int32} {s1 : Int32} {s2 : Int32} (h : m_X11_passDay_b52 ag af an rec6 T x2 x3 x4 x5 s1 s2 = some res) : Fr (fun a b => (a = ag ∧ b = af)) (fun a b => (a = 10 ∧ b = 6) ∨ (a = 10 ∧ b = 7)) (fun _ _ => False) T res.2 := by
  unfold m_X11_passDay_b52 at h
  have F0 : Fr (fun a b => (a = ag ∧ b = af)) (fun a b => (a = 10 ∧ b = 6) ∨ (a = 10 ∧ b = 7)) (fun _ _ => False) T T := Fr.rf
  exact F0.trans (fr_X11_passDay_b57 hrec6 h)
set_option maxHeartbeats 4000000 in
set_option maxRecDepth 100000 in
theorem fr_X11_passDay_h6 {ag af an : Nat} {rec6 : TT → Int32 → Int32 → Int32 → Int32 → Option (Int32 × TT)} {res : Int32 × TT} (hrec6 : ∀ {T : TT} {x2 : Int32} {x3 : Int32} {x4 : Int32} {x5 : Int32}, rec6 T x2 x3 x4 x5 = some res → Fr (fun a b => (a = ag ∧ b = af)) (fun a b => (a = 10 ∧ b = 6) ∨ (a = 10 ∧ b = 7)) (fun _ _ => False) T res.2) {T : TT} {x2 : Int32} {x3 : Int32} {x4 : Int32} {x5 : Int32} (h : m_X11_passDay_h6 ag af an rec6 T x2 x3 x4 x5 = some res) : Fr (fun a b => (a = ag ∧ b = af)) (fun a b => (a = 10 ∧ b = 6) ∨ (a = 10 ∧ b = 7)) (fun _ _ => False) T res.2 := by
  unfold m_X11_passDay_h6 at h
  have F0 : Fr (fun a b => (a = ag ∧ b = af)) (fun a b => (a = 10 ∧ b = 6) ∨ (a = 10 ∧ b = 7)) (fun _ _ => False) T T := Fr.rf
  obtain ⟨gi, h⟩ := gd h
  rcases ifo h with h | h
  · obtain ⟨gi, h⟩ := gd h
    obtain ⟨gi, h⟩ := gd h
    obtain ⟨T1, eT1, h⟩ := bTe h
    have FT1 := (F0.wA eT1 ⟨rfl, rfl⟩)
    have hq := some_i h
    subst hq
    exact FT1
  · obtain ⟨gi, h⟩ := gd h
    obtain ⟨T2, eT2, h⟩ := bTe h
    have FT2 := (F0.wI eT2 (Or.inl ⟨rfl, rfl⟩))
    obtain ⟨T3, eT3, h⟩ := bTe h
    have FT3 := (FT2.wI eT3 (Or.inr ⟨rfl, rfl⟩))
    obtain ⟨gi, h⟩ := gd h
    obtain ⟨gi, h⟩ := gd h
    rcases ifo h with h | h
    · exact FT3.trans (fr_X11_passDay_b52 hrec6 h)
    · rcases ifo h with h | h
      · exact FT3.trans (fr_X11_passDay_b52 hrec6 h)
      · exact FT3.trans (fr_X11_passDay_b57 hrec6 h)
set_option maxHeartbeats 4000000 in
set_option maxRecDepth 100000 in
theorem fr_X11_passDay_l6 {ag af an : Nat} {res : Int32 × TT} : ∀ (n : Nat) {T : TT} {x2 : Int32} {x3 : Int32} {x4 : Int32} {x5 : Int32} (h : m_X11_passDay_l6 ag af an n T x2 x3 x4 x5 = some res), Fr (fun a b => (a = ag ∧ b = af)) (fun a b => (a = 10 ∧ b = 6) ∨ (a = 10 ∧ b = 7)) (fun _ _ => False) T res.2 := by
  intro n
  induction n with
  | zero =>
    intro T x2 x3 x4 x5 h
    exact no_some h
  | succ n ih =>
    intro T x2 x3 x4 x5 h
    have h : m_X11_passDay_h6 ag af an (m_X11_passDay_l6 ag af an n) T x2 x3 x4 x5 = some res := h
    exact fr_X11_passDay_h6 (rec6 := m_X11_passDay_l6 ag af an n) (fun h => ih h) h
set_option maxHeartbeats 4000000 in
set_option maxRecDepth 100000 in
theorem fr_X11_passDay {T : TT} {ag af an : Nat} {x2 : Int32} {x3 : Int32} {res : Int32 × TT} (h : m_X11_passDay T ag af an x2 x3 = some res) : Fr (fun a b => (a = ag ∧ b = af)) (fun a b => (a = 10 ∧ b = 6) ∨ (a = 10 ∧ b = 7)) (fun _ _ => False) T res.2 := by
  unfold m_X11_passDay at h
  have F0 : Fr (fun a b => (a = ag ∧ b = af)) (fun a b => (a = 10 ∧ b = 6) ∨ (a = 10 ∧ b = 7)) (fun _ _ => False) T T := Fr.rf
  exact F0.trans (fr_X11_passDay_l6 _ h)
set_option maxHeartbeats 4000000 in
set_option maxRecDepth 100000 in
theorem fr_X11_days_h35 {rec35 : TT → Int32 → Int32 → Int32 → Int32 → Option (Int32 × TT)} {res : Int32 × TT} (hrec35 : ∀ {T : TT} {x1 : Int32} {x2 : Int32} {x3 : Int32} {x4 : Int32}, rec35 T x1 x2 x3 x4 = some res → Fr (fun a b => (a = 10 ∧ b = 1) ∨ (a = 10 ∧ b = 4)) (fun a b => (a = 10 ∧ b = 6) ∨ (a = 10 ∧ b = 7)) (fun _ _ => False) T res.2) {T : TT} {x1 : Int32} {x2 : Int32} {x3 : Int32} {x4 : Int32} (h : m_X11_days_h35 rec35 T x1 x2 x3 x4 = some res) : Fr (fun a b => (a = 10 ∧ b = 1) ∨ (a = 10 ∧ b = 4)) (fun a b => (a = 10 ∧ b = 6) ∨ (a = 10 ∧ b = 7)) (fun _ _ => False) T res.2 := by
  unfold m_X11_days_h35 at h
  have F0 : Fr (fun a b => (a = 10 ∧ b = 1) ∨ (a = 10 ∧ b = 4)) (fun a b => (a = 10 ∧ b = 6) ∨ (a = 10 ∧ b = 7)) (fun _ _ => False) T T := Fr.rf
  rcases ifo h with h | h
  · have hq := some_i h
    subst hq
    exact F0
  · rcases ifo h with h | h
    · have hq := some_i h
      subst hq
      exact F0
    · obtain ⟨z6, ez6, h⟩ := bnd h
      have Fz6 := F0.trans ((fr_X11_passDay ez6).mono (fun a b h => (Or.inl h)) (fun a b h => h) (fun a b h => False.elim h))
      obtain ⟨y7, ey7, h⟩ := bTe h
      obtain ⟨y8, ey8, h⟩ := bTe h
      exact Fz6.trans (hrec35 h)
set_option maxHeartbeats 4000000 in
set_option maxRecDepth 100000 in
theorem fr_X11_days_l35 {res : Int32 × TT} : ∀ (n : Nat) {T : TT} {x1 : Int32} {x2 : Int32} {x3 : Int32} {x4 : Int32} (h : m_X11_days_l35 n T x1 x2 x3 x4 = some res), Fr (fun a b => (a = 10 ∧ b = 1) ∨ (a = 10 ∧ b = 4)) (fun a b => (a = 10 ∧ b = 6) ∨ (a = 10 ∧ b = 7)) (fun _ _ => False) T res.2 := by
  intro n
  induction n with
  | zero =>
    intro T x1 x2 x3 x4 h
    exact no_some h
  | succ n ih =>
    intro T x1 x2 x3 x4 h
    have h : m_X11_days_h35 (m_X11_days_l35 n) T x1 x2 x3 x4 = some res := h
    exact fr_X11_days_h35 (rec35 := m_X11_days_l35 n) (fun h => ih h) h
set_option maxHeartbeats 4000000 in
set_option maxRecDepth 100000 in
theorem fr_X11_days_b19 {res : Int32 × TT} {T : TT} (h : m_X11_days_b19 T = some res) : Fr (fun a b => (a = 10 ∧ b = 1) ∨ (a = 10 ∧ b = 4)) (fun a b => (a = 10 ∧ b = 6) ∨ (a = 10 ∧ b = 7)) (fun _ _ => False) T res.2 := by
  unfold m_X11_days_b19 at h
  have F0 : Fr (fun a b => (a = 10 ∧ b = 1) ∨ (a = 10 ∧ b = 4)) (fun a b => (a = 10 ∧ b = 6) ∨ (a = 10 ∧ b = 7)) (fun _ _ => False) T T := Fr.rf
  obtain ⟨z11, ez11, h⟩ := bnd h
  have Fz11 := F0.trans ((fr_X11_bad ez11).mono (fun a b h => (Or.inr h)) (fun a b h => False.elim h) (fun a b h => False.elim h))
  have hq := some_i h
  subst hq
  exact Fz11
set_option maxHeartbeats 4000000 in
set_option maxRecDepth 100000 in
theorem fr_X11_days {T : TT} {x1 : Int32} {x2 : Int32} {res : Int32 × TT} (h : m_X11_days T x1 x2 = some res) : Fr (fun a b => (a = 10 ∧ b = 1) ∨ (a = 10 ∧ b = 4)) (fun a b => (a = 10 ∧ b = 6) ∨ (a = 10 ∧ b = 7)) (fun _ _ => False) T res.2 := by
  unfold m_X11_days at h
  have F0 : Fr (fun a b => (a = 10 ∧ b = 1) ∨ (a = 10 ∧ b = 4)) (fun a b => (a = 10 ∧ b = 6) ∨ (a = 10 ∧ b = 7)) (fun _ _ => False) T T := Fr.rf
  obtain ⟨z1, ez1, h⟩ := bnd h
  rcases ifo h with h | h
  · exact F0.trans (fr_X11_days_b19 h)
  · obtain ⟨z2, ez2, h⟩ := bnd h
    rcases ifo h with h | h
    · exact F0.trans (fr_X11_days_b19 h)
    · obtain ⟨z3, ez3, h⟩ := bnd h
      have Fz3 := F0.trans ((fr_X11_keep ez3).mono (fun a b h => (Or.inl h)) (fun a b h => False.elim h) (fun a b h => False.elim h))
      exact Fz3.trans (fr_X11_days_l35 _ h)
set_option maxHeartbeats 4000000 in
set_option maxRecDepth 100000 in
theorem fr_X11_day_b15 {res : Int32 × TT} {T : TT} (h : m_X11_day_b15 T = some res) : Fr (fun a b => (a = 10 ∧ b = 1) ∨ (a = 10 ∧ b = 4)) (fun a b => (a = 10 ∧ b = 6) ∨ (a = 10 ∧ b = 7)) (fun _ _ => False) T res.2 := by
  unfold m_X11_day_b15 at h
  have F0 : Fr (fun a b => (a = 10 ∧ b = 1) ∨ (a = 10 ∧ b = 4)) (fun a b => (a = 10 ∧ b = 6) ∨ (a = 10 ∧ b = 7)) (fun _ _ => False) T T := Fr.rf
  obtain ⟨z8, ez8, h⟩ := bnd h
  have Fz8 := F0.trans ((fr_X11_bad ez8).mono (fun a b h => (Or.inr h)) (fun a b h => False.elim h) (fun a b h => False.elim h))
  have hq := some_i h
  subst hq
  exact Fz8
set_option maxHeartbeats 4000000 in
set_option maxRecDepth 100000 in
theorem fr_X11_day {T : TT} {x1 : Int32} {x2 : Int32} {res : Int32 × TT} (h : m_X11_day T x1 x2 = some res) : Fr (fun a b => (a = 10 ∧ b = 1) ∨ (a = 10 ∧ b = 4)) (fun a b => (a = 10 ∧ b = 6) ∨ (a = 10 ∧ b = 7)) (fun _ _ => False) T res.2 := by
  unfold m_X11_day at h
  have F0 : Fr (fun a b => (a = 10 ∧ b = 1) ∨ (a = 10 ∧ b = 4)) (fun a b => (a = 10 ∧ b = 6) ∨ (a = 10 ∧ b = 7)) (fun _ _ => False) T T := Fr.rf
  obtain ⟨z1, ez1, h⟩ := bnd h
  rcases ifo h with h | h
  · exact F0.trans (fr_X11_day_b15 h)
  · obtain ⟨z2, ez2, h⟩ := bnd h
    rcases ifo h with h | h
    · exact F0.trans (fr_X11_day_b15 h)
    · obtain ⟨z3, ez3, h⟩ := bnd h
      have Fz3 := F0.trans ((fr_X11_keep ez3).mono (fun a b h => (Or.inl h)) (fun a b h => False.elim h) (fun a b h => False.elim h))
      rcases ifo h with h | h
      · have hq := some_i h
        subst hq
        exact Fz3
      · obtain ⟨z4, ez4, h⟩ := bnd h
        have Fz4 := Fz3.trans ((fr_X11_passDay ez4).mono (fun a b h => (Or.inl h)) (fun a b h => h) (fun a b h => False.elim h))
        have hq := some_i h
        subst hq
        exact Fz4
set_option maxHeartbeats 4000000 in
set_option maxRecDepth 100000 in
theorem fr_X11_undo_h26 {rec26 : TT → Int32 → Option (Int32 × TT)} {res : Int32 × TT} (hrec26 : ∀ {T : TT} {x1 : Int32}, rec26 T x1 = some res → Fr (fun a b => (a = 10 ∧ b = 1) ∨ (a = 10 ∧ b = 4)) (fun _ _ => False) (fun _ _ => False) T res.2) {T : TT} {x1 : Int32} (h : m_X11_undo_h26 rec26 T x1 = some res) : Fr (fun a b => (a = 10 ∧ b = 1) ∨ (a = 10 ∧ b = 4)) (fun _ _ => False) (fun _ _ => False) T res.2 := by
  unfold m_X11_undo_h26 at h
  have F0 : Fr (fun a b => (a = 10 ∧ b = 1) ∨ (a = 10 ∧ b = 4)) (fun _ _ => False) (fun _ _ => False) T T := Fr.rf
  rcases ifo h with h | h
  · have hq := some_i h
    subst hq
    exact F0
  · obtain ⟨gi, h⟩ := gd h
    obtain ⟨gi, h⟩ := gd h
    obtain ⟨T4, eT4, h⟩ := bTe h
    have FT4 := (F0.wA eT4 (Or.inl ⟨rfl, rfl⟩))
    obtain ⟨y5, ey5, h⟩ := bTe h
    exact FT4.trans (hrec26 h)
set_option maxHeartbeats 4000000 in
set_option maxRecDepth 100000 in
theorem fr_X11_undo_l26 {res : Int32 × TT} : ∀ (n : Nat) {T : TT} {x1 : Int32} (h : m_X11_undo_l26 n T x1 = some res), Fr (fun a b => (a = 10 ∧ b = 1) ∨ (a = 10 ∧ b = 4)) (fun _ _ => False) (fun _ _ => False) T res.2 := by
  intro n
  induction n with
  | zero =>
    intro T x1 h
    exact no_some h
  | succ n ih =>
    intro T x1 h
    have h : m_X11_undo_h26 (m_X11_undo_l26 n) T x1 = some res := h
    exact fr_X11_undo_h26 (rec26 := m_X11_undo_l26 n) (fun h => ih h) h
set_option maxHeartbeats 4000000 in
set_option maxRecDepth 100000 in
theorem fr_X11_undo {T : TT} {res : Int32 × TT} (h : m_X11_undo T = some res) : Fr (fun a b => (a = 10 ∧ b = 1) ∨ (a = 10 ∧ b = 4)) (fun _ _ => False) (fun _ _ => False) T res.2 := by
  unfold m_X11_undo at h
  have F0 : Fr (fun a b => (a = 10 ∧ b = 1) ∨ (a = 10 ∧ b = 4)) (fun _ _ => False) (fun _ _ => False) T T := Fr.rf
  rcases ifo h with h | h
  · obtain ⟨z2, ez2, h⟩ := bnd h
    have Fz2 := F0.trans ((fr_X11_no ez2).mono (fun a b h => (Or.inr h)) (fun a b h => False.elim h) (fun a b h => False.elim h))
    have hq := some_i h
    subst hq
    exact Fz2
  · obtain ⟨T1, eT1, h⟩ := bTe h
    have FT1 := (F0.wA eT1 (Or.inl ⟨rfl, rfl⟩))
    exact FT1.trans (fr_X11_undo_l26 _ h)
set_option maxHeartbeats 4000000 in
set_option maxRecDepth 100000 in
theorem fr_X11_of_b20 {res : Int32 × TT} {T : TT} (h : m_X11_of_b20 T = some res) : Fr (fun a b => (a = 10 ∧ b = 4)) (fun _ _ => False) (fun _ _ => False) T res.2 := by
  unfold m_X11_of_b20 at h
  have F0 : Fr (fun a b => (a = 10 ∧ b = 4)) (fun _ _ => False) (fun _ _ => False) T T := Fr.rf
  obtain ⟨z7, ez7, h⟩ := bnd h
  have Fz7 := F0.trans ((fr_X11_bad ez7).mono (fun a b h => h) (fun a b h => False.elim h) (fun a b h => False.elim h))
  have hq := some_i h
  subst hq
  exact Fz7
set_option maxHeartbeats 4000000 in
set_option maxRecDepth 100000 in
theorem fr_X11_of {T : TT} {x1 : Int32} {x2 : Int32} {res : Int32 × TT} (h : m_X11_of T x1 x2 = some res) : Fr (fun a b => (a = 10 ∧ b = 4)) (fun _ _ => False) (fun _ _ => False) T res.2 := by
  unfold m_X11_of at h
  have F0 : Fr (fun a b => (a = 10 ∧ b = 4)) (fun _ _ => False) (fun _ _ => False) T T := Fr.rf
  obtain ⟨z1, ez1, h⟩ := bnd h
  rcases ifo h with h | h
  · exact F0.trans (fr_X11_of_b20 h)
  · obtain ⟨z2, ez2, h⟩ := bnd h
    rcases ifo h with h | h
    · exact F0.trans (fr_X11_of_b20 h)
    · rcases ifo h with h | h
      · obtain ⟨gi, h⟩ := gd h
        have hq := some_i h
        subst hq
        exact F0
      · rcases ifo h with h | h
        · obtain ⟨gi, h⟩ := gd h
          have hq := some_i h
          subst hq
          exact F0
        · obtain ⟨gi, h⟩ := gd h
          have hq := some_i h
          subst hq
          exact F0
set_option maxHeartbeats 4000000 in
set_option maxRecDepth 100000 in
theorem fr_X11_today_b22 {res : Int32 × TT} {T : TT} (h : m_X11_today_b22 T = some res) : Fr (fun a b => (a = 10 ∧ b = 4)) (fun _ _ => False) (fun _ _ => False) T res.2 := by
  unfold m_X11_today_b22 at h
  have F0 : Fr (fun a b => (a = 10 ∧ b = 4)) (fun _ _ => False) (fun _ _ => False) T T := Fr.rf
  obtain ⟨z12, ez12, h⟩ := bnd h
  have Fz12 := F0.trans ((fr_X11_bad ez12).mono (fun a b h => h) (fun a b h => False.elim h) (fun a b h => False.elim h))
  have hq := some_i h
  subst hq
  exact Fz12
set_option maxHeartbeats 4000000 in
set_option maxRecDepth 100000 in
theorem fr_X11_today {T : TT} {x1 : Int32} {x2 : Int32} {res : Int32 × TT} (h : m_X11_today T x1 x2 = some res) : Fr (fun a b => (a = 10 ∧ b = 4)) (fun _ _ => False) (fun _ _ => False) T res.2 := by
  unfold m_X11_today at h
  have F0 : Fr (fun a b => (a = 10 ∧ b = 4)) (fun _ _ => False) (fun _ _ => False) T T := Fr.rf
  obtain ⟨z1, ez1, h⟩ := bnd h
  rcases ifo h with h | h
  · exact F0.trans (fr_X11_today_b22 h)
  · obtain ⟨z2, ez2, h⟩ := bnd h
    rcases ifo h with h | h
    · exact F0.trans (fr_X11_today_b22 h)
    · obtain ⟨gi, h⟩ := gd h
      obtain ⟨y3, ey3, h⟩ := bTe h
      rcases ifo h with h | h
      · obtain ⟨z6, ez6, h⟩ := bnd h
        obtain ⟨z7, ez7, h⟩ := bnd h
        obtain ⟨z8, ez8, h⟩ := bnd h
        have hq := some_i h
        subst hq
        exact F0
      · obtain ⟨z4, ez4, h⟩ := bnd h
        obtain ⟨z5, ez5, h⟩ := bnd h
        have hq := some_i h
        subst hq
        exact F0
set_option maxHeartbeats 4000000 in
set_option maxRecDepth 100000 in
theorem fr_X11_then_h53 {rec53 : TT → Int32 → Int32 → Int32 → Int32 → Int32 → Option (Int32 × TT)} {res : Int32 × TT} (hrec53 : ∀ {T : TT} {x1 : Int32} {x2 : Int32} {x3 : Int32} {x4 : Int32} {x5 : Int32}, rec53 T x1 x2 x3 x4 x5 = some res → Fr (fun a b => (a = 10 ∧ b = 4)) (fun a b => (a = 10 ∧ b = 6) ∨ (a = 10 ∧ b = 7)) (fun _ _ => False) T res.2) {T : TT} {x1 : Int32} {x2 : Int32} {x3 : Int32} {x4 : Int32} {x5 : Int32} (h : m_X11_then_h53 rec53 T x1 x2 x3 x4 x5 = some res) : Fr (fun a b => (a = 10 ∧ b = 4)) (fun a b => (a = 10 ∧ b = 6) ∨ (a = 10 ∧ b = 7)) (fun _ _ => False) T res.2 := by
  unfold m_X11_then_h53 at h
  have F0 : Fr (fun a b => (a = 10 ∧ b = 4)) (fun a b => (a = 10 ∧ b = 6) ∨ (a = 10 ∧ b = 7)) (fun _ _ => False) T T := Fr.rf
  rcases ifo h with h | h
  · rcases ifo h with h | h
    · have hq := some_i h
      subst hq
      exact F0
    · obtain ⟨gi, h⟩ := gd h
      have hq := some_i h
      subst hq
      exact F0
  · obtain ⟨z11, ez11, h⟩ := bnd h
    obtain ⟨z12, ez12, h⟩ := bnd h
    have Fz12 := F0.trans ((fr_X11_goDay ez12).mono (fun a b h => False.elim h) (fun a b h => h) (fun a b h => False.elim h))
    obtain ⟨y13, ey13, h⟩ := bTe h
    exact Fz12.trans (hrec53 h)
set_option maxHeartbeats 4000000 in
set_option maxRecDepth 100000 in
theorem fr_X11_then_l53 {res : Int32 × TT} : ∀ (n : Nat) {T : TT} {x1 : Int32} {x2 : Int32} {x3 : Int32} {x4 : Int32} {x5 : Int32} (h : m_X11_then_l53 n T x1 x2 x3 x4 x5 = some res), Fr (fun a b => (a = 10 ∧ b = 4)) (fun a b => (a = 10 ∧ b = 6) ∨ (a = 10 ∧ b = 7)) (fun _ _ => False) T res.2 := by
  intro n
  induction n with
  | zero =>
    intro T x1 x2 x3 x4 x5 h
    exact no_some h
  | succ n ih =>
    intro T x1 x2 x3 x4 x5 h
    have h : m_X11_then_h53 (m_X11_then_l53 n) T x1 x2 x3 x4 x5 = some res := h
    exact fr_X11_then_h53 (rec53 := m_X11_then_l53 n) (fun h => ih h) h
set_option maxHeartbeats 4000000 in
set_option maxRecDepth 100000 in
theorem fr_X11_then_b38 {res : Int32 × TT} {T : TT} (h : m_X11_then_b38 T = some res) : Fr (fun a b => (a = 10 ∧ b = 4)) (fun a b => (a = 10 ∧ b = 6) ∨ (a = 10 ∧ b = 7)) (fun _ _ => False) T res.2 := by
  unfold m_X11_then_b38 at h
  have F0 : Fr (fun a b => (a = 10 ∧ b = 4)) (fun a b => (a = 10 ∧ b = 6) ∨ (a = 10 ∧ b = 7)) (fun _ _ => False) T T := Fr.rf
  obtain ⟨z15, ez15, h⟩ := bnd h
  have Fz15 := F0.trans ((fr_X11_bad ez15).mono (fun a b h => h) (fun a b h => False.elim h) (fun a b h => False.elim h))
  have hq := some_i h
  subst hq
  exact Fz15
set_option maxHeartbeats 4000000 in
set_option maxRecDepth 100000 in
theorem fr_X11_then {T : TT} {x1 : Int32} {x2 : Int32} {x3 : Int32} {x4 : Int32} {res : Int32 × TT} (h : m_X11_then T x1 x2 x3 x4 = some res) : Fr (fun a b => (a = 10 ∧ b = 4)) (fun a b => (a = 10 ∧ b = 6) ∨ (a = 10 ∧ b = 7)) (fun _ _ => False) T res.2 := by
  unfold m_X11_then at h
  have F0 : Fr (fun a b => (a = 10 ∧ b = 4)) (fun a b => (a = 10 ∧ b = 6) ∨ (a = 10 ∧ b = 7)) (fun _ _ => False) T T := Fr.rf
  obtain ⟨z1, ez1, h⟩ := bnd h
  rcases ifo h with h | h
  · exact F0.trans (fr_X11_then_b38 h)
  · obtain ⟨z2, ez2, h⟩ := bnd h
    rcases ifo h with h | h
    · exact F0.trans (fr_X11_then_b38 h)
    · obtain ⟨z3, ez3, h⟩ := bnd h
      rcases ifo h with h | h
      · exact F0.trans (fr_X11_then_b38 h)
      · obtain ⟨z4, ez4, h⟩ := bnd h
        rcases ifo h with h | h
        · exact F0.trans (fr_X11_then_b38 h)
        · obtain ⟨z5, ez5, h⟩ := bnd h
          have Fz5 := F0.trans ((fr_X11_layOne ez5).mono (fun a b h => False.elim h) (fun a b h => h) (fun a b h => False.elim h))
          exact Fz5.trans (fr_X11_then_l53 _ h)
set_option maxHeartbeats 4000000 in
set_option maxRecDepth 100000 in
theorem fr_X11_over_h22 {rec22 : TT → Int32 → Int32 → Option (Int32 × TT)} {res : Int32 × TT} (hrec22 : ∀ {T : TT} {x1 : Int32} {x2 : Int32}, rec22 T x1 x2 = some res → Fr (fun a b => (a = 10 ∧ b = 4)) (fun a b => (a = 10 ∧ b = 6) ∨ (a = 10 ∧ b = 7)) (fun _ _ => False) T res.2) {T : TT} {x1 : Int32} {x2 : Int32} (h : m_X11_over_h22 rec22 T x1 x2 = some res) : Fr (fun a b => (a = 10 ∧ b = 4)) (fun a b => (a = 10 ∧ b = 6) ∨ (a = 10 ∧ b = 7)) (fun _ _ => False) T res.2 := by
  unfold m_X11_over_h22 at h
  have F0 : Fr (fun a b => (a = 10 ∧ b = 4)) (fun a b => (a = 10 ∧ b = 6) ∨ (a = 10 ∧ b = 7)) (fun _ _ => False) T T := Fr.rf
  rcases ifo h with h | h
  · have hq := some_i h
    subst hq
    exact F0
  · rcases ifo h with h | h
    · have hq := some_i h
      subst hq
      exact F0
    · obtain ⟨z5, ez5, h⟩ := bnd h
      obtain ⟨z6, ez6, h⟩ := bnd h
      have Fz6 := F0.trans ((fr_X11_goDay ez6).mono (fun a b h => False.elim h) (fun a b h => h) (fun a b h => False.elim h))
      obtain ⟨y7, ey7, h⟩ := bTe h
      exact Fz6.trans (hrec22 h)
set_option maxHeartbeats 4000000 in
set_option maxRecDepth 100000 in
theorem fr_X11_over_l22 {res : Int32 × TT} : ∀ (n : Nat) {T : TT} {x1 : Int32} {x2 : Int32} (h : m_X11_over_l22 n T x1 x2 = some res), Fr (fun a b => (a = 10 ∧ b = 4)) (fun a b => (a = 10 ∧ b = 6) ∨ (a = 10 ∧ b = 7)) (fun _ _ => False) T res.2 := by
  intro n
  induction n with
  | zero =>
    intro T x1 x2 h
    exact no_some h
  | succ n ih =>
    intro T x1 x2 h
    have h : m_X11_over_h22 (m_X11_over_l22 n) T x1 x2 = some res := h
    exact fr_X11_over_h22 (rec22 := m_X11_over_l22 n) (fun h => ih h) h
set_option maxHeartbeats 4000000 in
set_option maxRecDepth 100000 in
theorem fr_X11_over {T : TT} {x1 : Int32} {res : Int32 × TT} (h : m_X11_over T x1 = some res) : Fr (fun a b => (a = 10 ∧ b = 4)) (fun a b => (a = 10 ∧ b = 6) ∨ (a = 10 ∧ b = 7)) (fun _ _ => False) T res.2 := by
  unfold m_X11_over at h
  have F0 : Fr (fun a b => (a = 10 ∧ b = 4)) (fun a b => (a = 10 ∧ b = 6) ∨ (a = 10 ∧ b = 7)) (fun _ _ => False) T T := Fr.rf
  obtain ⟨z1, ez1, h⟩ := bnd h
  rcases ifo h with h | h
  · obtain ⟨z3, ez3, h⟩ := bnd h
    have Fz3 := F0.trans ((fr_X11_bad ez3).mono (fun a b h => h) (fun a b h => False.elim h) (fun a b h => False.elim h))
    have hq := some_i h
    subst hq
    exact Fz3
  · obtain ⟨z2, ez2, h⟩ := bnd h
    have Fz2 := F0.trans ((fr_X11_layOne ez2).mono (fun a b h => False.elim h) (fun a b h => h) (fun a b h => False.elim h))
    exact Fz2.trans (fr_X11_over_l22 _ h)
set_option maxHeartbeats 4000000 in
set_option maxRecDepth 100000 in
theorem fr_X11_milesBy_b34 {rec11 : TT → Int32 → Int32 → Int32 → Int32 → Int32 → Int32 → Int32 → Option (Int32 × TT)} {res : Int32 × TT} (hrec11 : ∀ {T : TT} {x1 : Int32} {x2 : Int32} {x3 : Int32} {x4 : Int32} {x5 : Int32} {x6 : Int32} {x7 : Int32}, rec11 T x1 x2 x3 x4 x5 x6 x7 = some res → Fr (fun _ _ => False) (fun a b => (a = 10 ∧ b = 6) ∨ (a = 10 ∧ b = 7)) (fun _ _ => False) T res.2) {T : TT} {x1 : Int32} {x2 : Int32} {x3 : Int32} {x4 : Int32} {x5 : Int32} {x7 : Int32} {s0 : Int32} (h : m_X11_milesBy_b34 rec11 T x1 x2 x3 x4 x5 x7 s0 = some res) : Fr (fun _ _ => False) (fun a b => (a = 10 ∧ b = 6) ∨ (a = 10 ∧ b = 7)) (fun _ _ => False) T res.2 := by
  unfold m_X11_milesBy_b34 at h
  have F0 : Fr (fun _ _ => False) (fun a b => (a = 10 ∧ b = 6) ∨ (a = 10 ∧ b = 7)) (fun _ _ => False) T T := Fr.rf
  obtain ⟨z4, ez4, h⟩ := bnd h
  obtain ⟨z5, ez5, h⟩ := bnd h
  obtain ⟨-, h⟩ := gdn h
  obtain ⟨z6, ez6, h⟩ := bnd h
  have Fz6 := F0.trans ((fr_X11_goDay ez6).mono (fun a b h => False.elim h) (fun a b h => h) (fun a b h => False.elim h))
  obtain ⟨y7, ey7, h⟩ := bTe h
  exact Fz6.trans (hrec11 h)
set_option maxHeartbeats 4000000 in
set_option maxRecDepth 100000 in
theorem fr_X11_milesBy_h11 {rec11 : TT → Int32 → Int32 → Int32 → Int32 → Int32 → Int32 → Int32 → Option (Int32 × TT)} {res : Int32 × TT} (hrec11 : ∀ {T : TT} {x1 : Int32} {x2 : Int32} {x3 : Int32} {x4 : Int32} {x5 : Int32} {x6 : Int32} {x7 : Int32}, rec11 T x1 x2 x3 x4 x5 x6 x7 = some res → Fr (fun _ _ => False) (fun a b => (a = 10 ∧ b = 6) ∨ (a = 10 ∧ b = 7)) (fun _ _ => False) T res.2) {T : TT} {x1 : Int32} {x2 : Int32} {x3 : Int32} {x4 : Int32} {x5 : Int32} {x6 : Int32} {x7 : Int32} (h : m_X11_milesBy_h11 rec11 T x1 x2 x3 x4 x5 x6 x7 = some res) : Fr (fun _ _ => False) (fun a b => (a = 10 ∧ b = 6) ∨ (a = 10 ∧ b = 7)) (fun _ _ => False) T res.2 := by
  unfold m_X11_milesBy_h11 at h
  have F0 : Fr (fun _ _ => False) (fun a b => (a = 10 ∧ b = 6) ∨ (a = 10 ∧ b = 7)) (fun _ _ => False) T T := Fr.rf
  rcases ifo h with h | h
  · have hq := some_i h
    subst hq
    exact F0
  · rcases ifo h with h | h
    · exact F0.trans (fr_X11_milesBy_b34 hrec11 h)
    · exact F0.trans (fr_X11_milesBy_b34 hrec11 h)
set_option maxHeartbeats 4000000 in
set_option maxRecDepth 100000 in
theorem fr_X11_milesBy_l11 {res : Int32 × TT} : ∀ (n : Nat) {T : TT} {x1 : Int32} {x2 : Int32} {x3 : Int32} {x4 : Int32} {x5 : Int32} {x6 : Int32} {x7 : Int32} (h : m_X11_milesBy_l11 n T x1 x2 x3 x4 x5 x6 x7 = some res), Fr (fun _ _ => False) (fun a b => (a = 10 ∧ b = 6) ∨ (a = 10 ∧ b = 7)) (fun _ _ => False) T res.2 := by
  intro n
  induction n with
  | zero =>
    intro T x1 x2 x3 x4 x5 x6 x7 h
    exact no_some h
  | succ n ih =>
    intro T x1 x2 x3 x4 x5 x6 x7 h
    have h : m_X11_milesBy_h11 (m_X11_milesBy_l11 n) T x1 x2 x3 x4 x5 x6 x7 = some res := h
    exact fr_X11_milesBy_h11 (rec11 := m_X11_milesBy_l11 n) (fun h => ih h) h
set_option maxHeartbeats 4000000 in
set_option maxRecDepth 100000 in
theorem fr_X11_milesBy {T : TT} {x1 : Int32} {x2 : Int32} {x3 : Int32} {x4 : Int32} {x5 : Int32} {res : Int32 × TT} (h : m_X11_milesBy T x1 x2 x3 x4 x5 = some res) : Fr (fun _ _ => False) (fun a b => (a = 10 ∧ b = 6) ∨ (a = 10 ∧ b = 7)) (fun _ _ => False) T res.2 := by
  unfold m_X11_milesBy at h
  have F0 : Fr (fun _ _ => False) (fun a b => (a = 10 ∧ b = 6) ∨ (a = 10 ∧ b = 7)) (fun _ _ => False) T T := Fr.rf
  obtain ⟨z1, ez1, h⟩ := bnd h
  have Fz1 := F0.trans ((fr_X11_layOne ez1).mono (fun a b h => False.elim h) (fun a b h => h) (fun a b h => False.elim h))
  exact Fz1.trans (fr_X11_milesBy_l11 _ h)
set_option maxHeartbeats 4000000 in
set_option maxRecDepth 100000 in
theorem fr_X11_mostIn_b57 {rec5 : TT → Int32 → Int32 → Int32 → Int32 → Option (Int32 × TT)} {res : Int32 × TT} (hrec5 : ∀ {T : TT} {x1 : Int32} {x2 : Int32} {x3 : Int32} {x4 : Int32}, rec5 T x1 x2 x3 x4 = some res → Fr (fun _ _ => False) (fun a b => (a = 10 ∧ b = 6) ∨ (a = 10 ∧ b = 7) ∨ (a = 10 ∧ b = 8)) (fun _ _ => False) T res.2) {T : TT} {x1 : Int32} {x2 : Int32} {x4 : Int32} {s0 : Int32} (h : m_X11_mostIn_b57 rec5 T x1 x2 x4 s0 = some res) : Fr (fun _ _ => False) (fun a b => (a = 10 ∧ b = 6) ∨ (a = 10 ∧ b = 7) ∨ (a = 10 ∧ b = 8)) (fun _ _ => False) T res.2 := by
  unfold m_X11_mostIn_b57 at h
  have F0 : Fr (fun _ _ => False) (fun a b => (a = 10 ∧ b = 6) ∨ (a = 10 ∧ b = 7) ∨ (a = 10 ∧ b = 8)) (fun _ _ => False) T T := Fr.rf
  obtain ⟨y7, ey7, h⟩ := bTe h
  exact F0.trans (hrec5 h)
set_option maxHeartbeats 4000000 in
set_option maxRecDepth 100000 in
theorem fr_X11_mostIn_b42 {rec5 : TT → Int32 → Int32 → Int32 → Int32 → Option (Int32 × TT)} {res : Int32 × TT} (hrec5 : ∀ {T : TT} {x1 : Int32} {x2 : Int32} {x3 : Int32} {x4 : Int32}, rec5 T x1 x2 x3 x4 = some res → Fr (fun _ _ => False) (fun a b => (a = 10 ∧ b = 6) ∨ (a = 10 ∧ b = 7) ∨ (a = 10 ∧ b = 8)) (fun _ _ => False) T res.2) {T : TT} {x1 : Int32} {x2 : Int32} {x3 : Int32} {x4 : Int32} {x5 : Int32} {s1 : Int32} (h : m_X11_mostIn_b42 rec5 T x1 x2 x3 x4 x5 s1 = some res) : Fr (fun _ _ => False) (fun a b => (a = 10 ∧ b = 6) ∨ (a = 10 ∧ b = 7) ∨ (a = 10 ∧ b = 8)) (fun _ _ => False) T res.2 := by
  unfold m_X11_mostIn_b42 at h
  have F0 : Fr (fun _ _ => False) (fun a b => (a = 10 ∧ b = 6) ∨ (a = 10 ∧ b = 7) ∨ (a = 10 ∧ b = 8)) (fun _ _ => False) T T := Fr.rf
  obtain ⟨T5, eT5, h⟩ := bTe h
  have FT5 := (F0.wI eT5 (Or.inr (Or.inr ⟨rfl, rfl⟩)))
  rcases ifo h with h | h
  · exact FT5.trans (fr_X11_mostIn_b57 hrec5 h)
  · exact FT5.trans (fr_X11_mostIn_b57 hrec5 h)
set_option maxHeartbeats 4000000 in
set_option maxRecDepth 100000 in
theorem fr_X11_mostIn_h5 {rec5 : TT → Int32 → Int32 → Int32 → Int32 → Option (Int32 × TT)} {res : Int32 × TT} (hrec5 : ∀ {T : TT} {x1 : Int32} {x2 : Int32} {x3 : Int32} {x4 : Int32}, rec5 T x1 x2 x3 x4 = some res → Fr (fun _ _ => False) (fun a b => (a = 10 ∧ b = 6) ∨ (a = 10 ∧ b = 7) ∨ (a = 10 ∧ b = 8)) (fun _ _ => False) T res.2) {T : TT} {x1 : Int32} {x2 : Int32} {x3 : Int32} {x4 : Int32} (h : m_X11_mostIn_h5 rec5 T x1 x2 x3 x4 = some res) : Fr (fun _ _ => False) (fun a b => (a = 10 ∧ b = 6) ∨ (a = 10 ∧ b = 7) ∨ (a = 10 ∧ b = 8)) (fun _ _ => False) T res.2 := by
  unfold m_X11_mostIn_h5 at h
  have F0 : Fr (fun _ _ => False) (fun a b => (a = 10 ∧ b = 6) ∨ (a = 10 ∧ b = 7) ∨ (a = 10 ∧ b = 8)) (fun _ _ => False) T T := Fr.rf
  obtain ⟨z1, ez1, h⟩ := bnd h
  rcases ifo h with h | h
  · have hq := some_i h
    subst hq
    exact F0
  · obtain ⟨z2, ez2, h⟩ := bnd h
    have Fz2 := F0.trans ((fr_X11_milesBy ez2).mono (fun a b h => False.elim h) (fun a b h => by
    rcases h with h | h
    · exact (Or.inl h)
    · exact (Or.inr (Or.inl h))) (fun a b h => False.elim h))
    rcases ifo h with h | h
    · exact Fz2.trans (fr_X11_mostIn_b42 hrec5 h)
    · exact Fz2.trans (fr_X11_mostIn_b42 hrec5 h)
set_option maxHeartbeats 4000000 in
set_option maxRecDepth 100000 in
theorem fr_X11_mostIn_l5 {res : Int32 × TT} : ∀ (n : Nat) {T : TT} {x1 : Int32} {x2 : Int32} {x3 : Int32} {x4 : Int32} (h : m_X11_mostIn_l5 n T x1 x2 x3 x4 = some res), Fr (fun _ _ => False) (fun a b => (a = 10 ∧ b = 6) ∨ (a = 10 ∧ b = 7) ∨ (a = 10 ∧ b = 8)) (fun _ _ => False) T res.2 := by
  intro n
  induction n with
  | zero =>
    intro T x1 x2 x3 x4 h
    exact no_some h
  | succ n ih =>
    intro T x1 x2 x3 x4 h
    have h : m_X11_mostIn_h5 (m_X11_mostIn_l5 n) T x1 x2 x3 x4 = some res := h
    exact fr_X11_mostIn_h5 (rec5 := m_X11_mostIn_l5 n) (fun h => ih h) h
set_option maxHeartbeats 4000000 in
set_option maxRecDepth 100000 in
theorem fr_X11_mostIn {T : TT} {x1 : Int32} {x2 : Int32} {res : Int32 × TT} (h : m_X11_mostIn T x1 x2 = some res) : Fr (fun _ _ => False) (fun a b => (a = 10 ∧ b = 6) ∨ (a = 10 ∧ b = 7) ∨ (a = 10 ∧ b = 8)) (fun _ _ => False) T res.2 := by
  unfold m_X11_mostIn at h
  have F0 : Fr (fun _ _ => False) (fun a b => (a = 10 ∧ b = 6) ∨ (a = 10 ∧ b = 7) ∨ (a = 10 ∧ b = 8)) (fun _ _ => False) T T := Fr.rf
  exact F0.trans (fr_X11_mostIn_l5 _ h)
set_option maxHeartbeats 4000000 in
set_option maxRecDepth 100000 in
theorem fr_X11_most_b25 {res : Int32 × TT} {T : TT} (h : m_X11_most_b25 T = some res) : Fr (fun a b => (a = 10 ∧ b = 4)) (fun a b => (a = 10 ∧ b = 6) ∨ (a = 10 ∧ b = 7) ∨ (a = 10 ∧ b = 8)) (fun _ _ => False) T res.2 := by
  unfold m_X11_most_b25 at h
  have F0 : Fr (fun a b => (a = 10 ∧ b = 4)) (fun a b => (a = 10 ∧ b = 6) ∨ (a = 10 ∧ b = 7) ∨ (a = 10 ∧ b = 8)) (fun _ _ => False) T T := Fr.rf
  obtain ⟨z10, ez10, h⟩ := bnd h
  have Fz10 := F0.trans ((fr_X11_bad ez10).mono (fun a b h => h) (fun a b h => False.elim h) (fun a b h => False.elim h))
  have hq := some_i h
  subst hq
  exact Fz10
set_option maxHeartbeats 4000000 in
set_option maxRecDepth 100000 in
theorem fr_X11_most {T : TT} {x1 : Int32} {x2 : Int32} {x3 : Int32} {res : Int32 × TT} (h : m_X11_most T x1 x2 x3 = some res) : Fr (fun a b => (a = 10 ∧ b = 4)) (fun a b => (a = 10 ∧ b = 6) ∨ (a = 10 ∧ b = 7) ∨ (a = 10 ∧ b = 8)) (fun _ _ => False) T res.2 := by
  unfold m_X11_most at h
  have F0 : Fr (fun a b => (a = 10 ∧ b = 4)) (fun a b => (a = 10 ∧ b = 6) ∨ (a = 10 ∧ b = 7) ∨ (a = 10 ∧ b = 8)) (fun _ _ => False) T T := Fr.rf
  obtain ⟨z1, ez1, h⟩ := bnd h
  rcases ifo h with h | h
  · exact F0.trans (fr_X11_most_b25 h)
  · obtain ⟨z2, ez2, h⟩ := bnd h
    rcases ifo h with h | h
    · exact F0.trans (fr_X11_most_b25 h)
    · rcases ifo h with h | h
      · obtain ⟨z3, ez3, h⟩ := bnd h
        have Fz3 := F0.trans ((fr_X11_mostIn ez3).mono (fun a b h => False.elim h) (fun a b h => h) (fun a b h => False.elim h))
        rcases ifo h with h | h
        · have hq := some_i h
          subst hq
          exact Fz3
        · rcases ifo h with h | h
          · obtain ⟨z4, ez4, h⟩ := bnd h
            obtain ⟨-, h⟩ := gdn h
            have hq := some_i h
            subst hq
            exact Fz3
          · have hq := some_i h
            subst hq
            exact Fz3
      · exact F0.trans (fr_X11_most_b25 h)
set_option maxHeartbeats 4000000 in
set_option maxRecDepth 100000 in
theorem fr_X11_soonest_h29 {rec29 : TT → Int32 → Int32 → Int32 → Option (Int32 × TT)} {res : Int32 × TT} (hrec29 : ∀ {T : TT} {x1 : Int32} {x2 : Int32} {x3 : Int32}, rec29 T x1 x2 x3 = some res → Fr (fun a b => (a = 10 ∧ b = 4)) (fun a b => (a = 10 ∧ b = 6) ∨ (a = 10 ∧ b = 7) ∨ (a = 10 ∧ b = 8)) (fun _ _ => False) T res.2) {T : TT} {x1 : Int32} {x2 : Int32} {x3 : Int32} (h : m_X11_soonest_h29 rec29 T x1 x2 x3 = some res) : Fr (fun a b => (a = 10 ∧ b = 4)) (fun a b => (a = 10 ∧ b = 6) ∨ (a = 10 ∧ b = 7) ∨ (a = 10 ∧ b = 8)) (fun _ _ => False) T res.2 := by
  unfold m_X11_soonest_h29 at h
  have F0 : Fr (fun a b => (a = 10 ∧ b = 4)) (fun a b => (a = 10 ∧ b = 6) ∨ (a = 10 ∧ b = 7) ∨ (a = 10 ∧ b = 8)) (fun _ _ => False) T T := Fr.rf
  rcases ifo h with h | h
  · have hq := some_i h
    subst hq
    exact F0
  · obtain ⟨z5, ez5, h⟩ := bnd h
    have Fz5 := F0.trans ((fr_X11_mostIn ez5).mono (fun a b h => False.elim h) (fun a b h => h) (fun a b h => False.elim h))
    rcases ifo h with h | h
    · obtain ⟨y6, ey6, h⟩ := bTe h
      exact Fz5.trans (hrec29 h)
    · have hq := some_i h
      subst hq
      exact Fz5
set_option maxHeartbeats 4000000 in
set_option maxRecDepth 100000 in
theorem fr_X11_soonest_l29 {res : Int32 × TT} : ∀ (n : Nat) {T : TT} {x1 : Int32} {x2 : Int32} {x3 : Int32} (h : m_X11_soonest_l29 n T x1 x2 x3 = some res), Fr (fun a b => (a = 10 ∧ b = 4)) (fun a b => (a = 10 ∧ b = 6) ∨ (a = 10 ∧ b = 7) ∨ (a = 10 ∧ b = 8)) (fun _ _ => False) T res.2 := by
  intro n
  induction n with
  | zero =>
    intro T x1 x2 x3 h
    exact no_some h
  | succ n ih =>
    intro T x1 x2 x3 h
    have h : m_X11_soonest_h29 (m_X11_soonest_l29 n) T x1 x2 x3 = some res := h
    exact fr_X11_soonest_h29 (rec29 := m_X11_soonest_l29 n) (fun h => ih h) h
set_option maxHeartbeats 4000000 in
set_option maxRecDepth 100000 in
theorem fr_X11_soonest_b20 {res : Int32 × TT} {T : TT} (h : m_X11_soonest_b20 T = some res) : Fr (fun a b => (a = 10 ∧ b = 4)) (fun a b => (a = 10 ∧ b = 6) ∨ (a = 10 ∧ b = 7) ∨ (a = 10 ∧ b = 8)) (fun _ _ => False) T res.2 := by
  unfold m_X11_soonest_b20 at h
  have F0 : Fr (fun a b => (a = 10 ∧ b = 4)) (fun a b => (a = 10 ∧ b = 6) ∨ (a = 10 ∧ b = 7) ∨ (a = 10 ∧ b = 8)) (fun _ _ => False) T T := Fr.rf
  obtain ⟨z9, ez9, h⟩ := bnd h
  have Fz9 := F0.trans ((fr_X11_bad ez9).mono (fun a b h => h) (fun a b h => False.elim h) (fun a b h => False.elim h))
  have hq := some_i h
  subst hq
  exact Fz9
set_option maxHeartbeats 4000000 in
set_option maxRecDepth 100000 in
theorem fr_X11_soonest {T : TT} {x1 : Int32} {x2 : Int32} {res : Int32 × TT} (h : m_X11_soonest T x1 x2 = some res) : Fr (fun a b => (a = 10 ∧ b = 4)) (fun a b => (a = 10 ∧ b = 6) ∨ (a = 10 ∧ b = 7) ∨ (a = 10 ∧ b = 8)) (fun _ _ => False) T res.2 := by
  unfold m_X11_soonest at h
  have F0 : Fr (fun a b => (a = 10 ∧ b = 4)) (fun a b => (a = 10 ∧ b = 6) ∨ (a = 10 ∧ b = 7) ∨ (a = 10 ∧ b = 8)) (fun _ _ => False) T T := Fr.rf
  obtain ⟨z1, ez1, h⟩ := bnd h
  rcases ifo h with h | h
  · exact F0.trans (fr_X11_soonest_b20 h)
  · obtain ⟨z2, ez2, h⟩ := bnd h
    rcases ifo h with h | h
    · exact F0.trans (fr_X11_soonest_b20 h)
    · exact F0.trans (fr_X11_soonest_l29 _ h)
set_option maxHeartbeats 4000000 in
set_option maxRecDepth 100000 in
theorem fr_X11_home_b138 {rec48 : TT → Int32 → Int32 → Int32 → Int32 → Int32 → Int32 → Option (Int32 × TT)} {rec57 : TT → Int32 → Int32 → Int32 → Int32 → Int32 → Int32 → Int32 → Option (Int32 × TT)} {res : Int32 × TT} (hrec48 : ∀ {T : TT} {x1 : Int32} {x2 : Int32} {x3 : Int32} {x4 : Int32} {x5 : Int32} {x6 : Int32}, rec48 T x1 x2 x3 x4 x5 x6 = some res → Fr (fun a b => (a = 10 ∧ b = 4)) (fun a b => (a = 10 ∧ b = 6) ∨ (a = 10 ∧ b = 7)) (fun _ _ => False) T res.2) (hrec57 : ∀ {T : TT} {x1 : Int32} {x2 : Int32} {x3 : Int32} {x4 : Int32} {x5 : Int32} {x6 : Int32} {x7 : Int32}, rec57 T x1 x2 x3 x4 x5 x6 x7 = some res → Fr (fun a b => (a = 10 ∧ b = 4)) (fun a b => (a = 10 ∧ b = 6) ∨ (a = 10 ∧ b = 7)) (fun _ _ => False) T res.2) {T : TT} {x1 : Int32} {x2 : Int32} {x3 : Int32} {x5 : Int32} {x6 : Int32} {x7 : Int32} {s0 : Int32} (h : m_X11_home_b138 rec48 rec57 T x1 x2 x3 x5 x6 x7 s0 = some res) : Fr (fun a b => (a = 10 ∧ b = 4)) (fun a b => (a = 10 ∧ b = 6) ∨ (a = 10 ∧ b = 7)) (fun _ _ => False) T res.2 := by
  unfold m_X11_home_b138 at h
  have F0 : Fr (fun a b => (a = 10 ∧ b = 4)) (fun a b => (a = 10 ∧ b = 6) ∨ (a = 10 ∧ b = 7)) (fun _ _ => False) T T := Fr.rf
  obtain ⟨y17, ey17, h⟩ := bTe h
  exact F0.trans (hrec57 h)
set_option maxHeartbeats 4000000 in
set_option maxRecDepth 100000 in
theorem fr_X11_home_b122 {rec48 : TT → Int32 → Int32 → Int32 → Int32 → Int32 → Int32 → Option (Int32 × TT)} {rec57 : TT → Int32 → Int32 → Int32 → Int32 → Int32 → Int32 → Int32 → Option (Int32 × TT)} {res : Int32 × TT} (hrec48 : ∀ {T : TT} {x1 : Int32} {x2 : Int32} {x3 : Int32} {x4 : Int32} {x5 : Int32} {x6 : Int32}, rec48 T x1 x2 x3 x4 x5 x6 = some res → Fr (fun a b => (a = 10 ∧ b = 4)) (fun a b => (a = 10 ∧ b = 6) ∨ (a = 10 ∧ b = 7)) (fun _ _ => False) T res.2) (hrec57 : ∀ {T : TT} {x1 : Int32} {x2 : Int32} {x3 : Int32} {x4 : Int32} {x5 : Int32} {x6 : Int32} {x7 : Int32}, rec57 T x1 x2 x3 x4 x5 x6 x7 = some res → Fr (fun a b => (a = 10 ∧ b = 4)) (fun a b => (a = 10 ∧ b = 6) ∨ (a = 10 ∧ b = 7)) (fun _ _ => False) T res.2) {T : TT} {x1 : Int32} {x2 : Int32} {x3 : Int32} {x4 : Int32} {x6 : Int32} {x7 : Int32} {x10 : Int32} {s0 : Int32} (h : m_X11_home_b122 rec48 rec57 T x1 x2 x3 x4 x6 x7 x10 s0 = some res) : Fr (fun a b => (a = 10 ∧ b = 4)) (fun a b => (a = 10 ∧ b = 6) ∨ (a = 10 ∧ b = 7)) (fun _ _ => False) T res.2 := by
  unfold m_X11_home_b122 at h
  have F0 : Fr (fun a b => (a = 10 ∧ b = 4)) (fun a b => (a = 10 ∧ b = 6) ∨ (a = 10 ∧ b = 7)) (fun _ _ => False) T T := Fr.rf
  rcases ifo h with h | h
  · exact F0.trans (fr_X11_home_b138 hrec48 hrec57 h)
  · exact F0.trans (fr_X11_home_b138 hrec48 hrec57 h)
set_option maxHeartbeats 4000000 in
set_option maxRecDepth 100000 in
theorem fr_X11_home_b106 {rec48 : TT → Int32 → Int32 → Int32 → Int32 → Int32 → Int32 → Option (Int32 × TT)} {rec57 : TT → Int32 → Int32 → Int32 → Int32 → Int32 → Int32 → Int32 → Option (Int32 × TT)} {res : Int32 × TT} (hrec48 : ∀ {T : TT} {x1 : Int32} {x2 : Int32} {x3 : Int32} {x4 : Int32} {x5 : Int32} {x6 : Int32}, rec48 T x1 x2 x3 x4 x5 x6 = some res → Fr (fun a b => (a = 10 ∧ b = 4)) (fun a b => (a = 10 ∧ b = 6) ∨ (a = 10 ∧ b = 7)) (fun _ _ => False) T res.2) (hrec57 : ∀ {T : TT} {x1 : Int32} {x2 : Int32} {x3 : Int32} {x4 : Int32} {x5 : Int32} {x6 : Int32} {x7 : Int32}, rec57 T x1 x2 x3 x4 x5 x6 x7 = some res → Fr (fun a b => (a = 10 ∧ b = 4)) (fun a b => (a = 10 ∧ b = 6) ∨ (a = 10 ∧ b = 7)) (fun _ _ => False) T res.2) {T : TT} {x1 : Int32} {x2 : Int32} {x3 : Int32} {x4 : Int32} {x5 : Int32} {x6 : Int32} {x7 : Int32} {s0 : Int32} (h : m_X11_home_b106 rec48 rec57 T x1 x2 x3 x4 x5 x6 x7 s0 = some res) : Fr (fun a b => (a = 10 ∧ b = 4)) (fun a b => (a = 10 ∧ b = 6) ∨ (a = 10 ∧ b = 7)) (fun _ _ => False) T res.2 := by
  unfold m_X11_home_b106 at h
  have F0 : Fr (fun a b => (a = 10 ∧ b = 4)) (fun a b => (a = 10 ∧ b = 6) ∨ (a = 10 ∧ b = 7)) (fun _ _ => False) T T := Fr.rf
  rcases ifo h with h | h
  · exact F0.trans (fr_X11_home_b122 hrec48 hrec57 h)
  · exact F0.trans (fr_X11_home_b122 hrec48 hrec57 h)
set_option maxHeartbeats 4000000 in
set_option maxRecDepth 100000 in
theorem fr_X11_home_h57 {rec48 : TT → Int32 → Int32 → Int32 → Int32 → Int32 → Int32 → Option (Int32 × TT)} {rec57 : TT → Int32 → Int32 → Int32 → Int32 → Int32 → Int32 → Int32 → Option (Int32 × TT)} {res : Int32 × TT} (hrec48 : ∀ {T : TT} {x1 : Int32} {x2 : Int32} {x3 : Int32} {x4 : Int32} {x5 : Int32} {x6 : Int32}, rec48 T x1 x2 x3 x4 x5 x6 = some res → Fr (fun a b => (a = 10 ∧ b = 4)) (fun a b => (a = 10 ∧ b = 6) ∨ (a = 10 ∧ b = 7)) (fun _ _ => False) T res.2) (hrec57 : ∀ {T : TT} {x1 : Int32} {x2 : Int32} {x3 : Int32} {x4 : Int32} {x5 : Int32} {x6 : Int32} {x7 : Int32}, rec57 T x1 x2 x3 x4 x5 x6 x7 = some res → Fr (fun a b => (a = 10 ∧ b = 4)) (fun a b => (a = 10 ∧ b = 6) ∨ (a = 10 ∧ b = 7)) (fun _ _ => False) T res.2) {T : TT} {x1 : Int32} {x2 : Int32} {x3 : Int32} {x4 : Int32} {x5 : Int32} {x6 : Int32} {x7 : Int32} (h : m_X11_home_h57 rec48 rec57 T x1 x2 x3 x4 x5 x6 x7 = some res) : Fr (fun a b => (a = 10 ∧ b = 4)) (fun a b => (a = 10 ∧ b = 6) ∨ (a = 10 ∧ b = 7)) (fun _ _ => False) T res.2 := by
  unfold m_X11_home_h57 at h
  have F0 : Fr (fun a b => (a = 10 ∧ b = 4)) (fun a b => (a = 10 ∧ b = 6) ∨ (a = 10 ∧ b = 7)) (fun _ _ => False) T T := Fr.rf
  obtain ⟨z9, ez9, h⟩ := bnd h
  rcases ifo h with h | h
  · obtain ⟨y10, ey10, h⟩ := bTe h
    exact F0.trans (hrec48 h)
  · obtain ⟨z11, ez11, h⟩ := bnd h
    have Fz11 := F0.trans ((fr_X11_milesBy ez11).mono (fun a b h => False.elim h) (fun a b h => h) (fun a b h => False.elim h))
    obtain ⟨z12, ez12, h⟩ := bnd h
    have Fz12 := Fz11.trans ((fr_X11_milesBy ez12).mono (fun a b h => False.elim h) (fun a b h => h) (fun a b h => False.elim h))
    rcases ifo h with h | h
    · exact Fz12.trans (fr_X11_home_b106 hrec48 hrec57 h)
    · exact Fz12.trans (fr_X11_home_b106 hrec48 hrec57 h)
set_option maxHeartbeats 4000000 in
set_option maxRecDepth 100000 in
theorem fr_X11_home_l57 {rec48 : TT → Int32 → Int32 → Int32 → Int32 → Int32 → Int32 → Option (Int32 × TT)} {res : Int32 × TT} (hrec48 : ∀ {T : TT} {x1 : Int32} {x2 : Int32} {x3 : Int32} {x4 : Int32} {x5 : Int32} {x6 : Int32}, rec48 T x1 x2 x3 x4 x5 x6 = some res → Fr (fun a b => (a = 10 ∧ b = 4)) (fun a b => (a = 10 ∧ b = 6) ∨ (a = 10 ∧ b = 7)) (fun _ _ => False) T res.2) : ∀ (n : Nat) {T : TT} {x1 : Int32} {x2 : Int32} {x3 : Int32} {x4 : Int32} {x5 : Int32} {x6 : Int32} {x7 : Int32} (h : m_X11_home_l57 rec48 n T x1 x2 x3 x4 x5 x6 x7 = some res), Fr (fun a b => (a = 10 ∧ b = 4)) (fun a b => (a = 10 ∧ b = 6) ∨ (a = 10 ∧ b = 7)) (fun _ _ => False) T res.2 := by
  intro n
  induction n with
  | zero =>
    intro T x1 x2 x3 x4 x5 x6 x7 h
    exact no_some h
  | succ n ih =>
    intro T x1 x2 x3 x4 x5 x6 x7 h
    have h : m_X11_home_h57 rec48 (m_X11_home_l57 rec48 n) T x1 x2 x3 x4 x5 x6 x7 = some res := h
    exact fr_X11_home_h57 (rec57 := m_X11_home_l57 rec48 n) hrec48 (fun h => ih h) h
set_option maxHeartbeats 4000000 in
set_option maxRecDepth 100000 in
theorem fr_X11_home_h48 {rec48 : TT → Int32 → Int32 → Int32 → Int32 → Int32 → Int32 → Option (Int32 × TT)} {res : Int32 × TT} (hrec48 : ∀ {T : TT} {x1 : Int32} {x2 : Int32} {x3 : Int32} {x4 : Int32} {x5 : Int32} {x6 : Int32}, rec48 T x1 x2 x3 x4 x5 x6 = some res → Fr (fun a b => (a = 10 ∧ b = 4)) (fun a b => (a = 10 ∧ b = 6) ∨ (a = 10 ∧ b = 7)) (fun _ _ => False) T res.2) {T : TT} {x1 : Int32} {x2 : Int32} {x3 : Int32} {x4 : Int32} {x5 : Int32} {x6 : Int32} (h : m_X11_home_h48 rec48 T x1 x2 x3 x4 x5 x6 = some res) : Fr (fun a b => (a = 10 ∧ b = 4)) (fun a b => (a = 10 ∧ b = 6) ∨ (a = 10 ∧ b = 7)) (fun _ _ => False) T res.2 := by
  unfold m_X11_home_h48 at h
  have F0 : Fr (fun a b => (a = 10 ∧ b = 4)) (fun a b => (a = 10 ∧ b = 6) ∨ (a = 10 ∧ b = 7)) (fun _ _ => False) T T := Fr.rf
  rcases ifo h with h | h
  · rcases ifo h with h | h
    · have hq := some_i h
      subst hq
      exact F0
    · have hq := some_i h
      subst hq
      exact F0
  · exact F0.trans (fr_X11_home_l57 hrec48 _ h)
set_option maxHeartbeats 4000000 in
set_option maxRecDepth 100000 in
theorem fr_X11_home_l48 {res : Int32 × TT} : ∀ (n : Nat) {T : TT} {x1 : Int32} {x2 : Int32} {x3 : Int32} {x4 : Int32} {x5 : Int32} {x6 : Int32} (h : m_X11_home_l48 n T x1 x2 x3 x4 x5 x6 = some res), Fr (fun a b => (a = 10 ∧ b = 4)) (fun a b => (a = 10 ∧ b = 6) ∨ (a = 10 ∧ b = 7)) (fun _ _ => False) T res.2 := by
  intro n
  induction n with
  | zero =>
    intro T x1 x2 x3 x4 x5 x6 h
    exact no_some h
  | succ n ih =>
    intro T x1 x2 x3 x4 x5 x6 h
    have h : m_X11_home_h48 (m_X11_home_l48 n) T x1 x2 x3 x4 x5 x6 = some res := h
    exact fr_X11_home_h48 (rec48 := m_X11_home_l48 n) (fun h => ih h) h
set_option maxHeartbeats 4000000 in
set_option maxRecDepth 100000 in
theorem fr_X11_home_b32 {res : Int32 × TT} {T : TT} (h : m_X11_home_b32 T = some res) : Fr (fun a b => (a = 10 ∧ b = 4)) (fun a b => (a = 10 ∧ b = 6) ∨ (a = 10 ∧ b = 7)) (fun _ _ => False) T res.2 := by
  unfold m_X11_home_b32 at h
  have F0 : Fr (fun a b => (a = 10 ∧ b = 4)) (fun a b => (a = 10 ∧ b = 6) ∨ (a = 10 ∧ b = 7)) (fun _ _ => False) T T := Fr.rf
  obtain ⟨z18, ez18, h⟩ := bnd h
  have Fz18 := F0.trans ((fr_X11_bad ez18).mono (fun a b h => h) (fun a b h => False.elim h) (fun a b h => False.elim h))
  have hq := some_i h
  subst hq
  exact Fz18
set_option maxHeartbeats 4000000 in
set_option maxRecDepth 100000 in
theorem fr_X11_home {T : TT} {x1 : Int32} {x2 : Int32} {x3 : Int32} {res : Int32 × TT} (h : m_X11_home T x1 x2 x3 = some res) : Fr (fun a b => (a = 10 ∧ b = 4)) (fun a b => (a = 10 ∧ b = 6) ∨ (a = 10 ∧ b = 7)) (fun _ _ => False) T res.2 := by
  unfold m_X11_home at h
  have F0 : Fr (fun a b => (a = 10 ∧ b = 4)) (fun a b => (a = 10 ∧ b = 6) ∨ (a = 10 ∧ b = 7)) (fun _ _ => False) T T := Fr.rf
  obtain ⟨z1, ez1, h⟩ := bnd h
  rcases ifo h with h | h
  · exact F0.trans (fr_X11_home_b32 h)
  · obtain ⟨z2, ez2, h⟩ := bnd h
    rcases ifo h with h | h
    · exact F0.trans (fr_X11_home_b32 h)
    · obtain ⟨z3, ez3, h⟩ := bnd h
      rcases ifo h with h | h
      · exact F0.trans (fr_X11_home_b32 h)
      · exact F0.trans (fr_X11_home_l48 _ h)
set_option maxHeartbeats 4000000 in
set_option maxRecDepth 100000 in
theorem fr_X11_pairsBy_b191 {rec37 : TT → Int32 → Int32 → Int32 → Int32 → Option (Int32 × TT)} {res : Int32 × TT} (hrec37 : ∀ {T : TT} {x3 : Int32} {x4 : Int32} {x5 : Int32} {x6 : Int32}, rec37 T x3 x4 x5 x6 = some res → Fr (fun a b => (a = 10 ∧ b = 5)) (fun _ _ => False) (fun _ _ => False) T res.2) {T : TT} {x3 : Int32} {x4 : Int32} {x5 : Int32} {x6 : Int32} (h : m_X11_pairsBy_b191 rec37 T x3 x4 x5 x6 = some res) : Fr (fun a b => (a = 10 ∧ b = 5)) (fun _ _ => False) (fun _ _ => False) T res.2 := by
  unfold m_X11_pairsBy_b191 at h
  have F0 : Fr (fun a b => (a = 10 ∧ b = 5)) (fun _ _ => False) (fun _ _ => False) T T := Fr.rf
  obtain ⟨y25, ey25, h⟩ := bTe h
  exact F0.trans (hrec37 h)
set_option maxHeartbeats 4000000 in
set_option maxRecDepth 100000 in
theorem fr_X11_pairsBy_b139 {rec37 : TT → Int32 → Int32 → Int32 → Int32 → Option (Int32 × TT)} {res : Int32 × TT} (hrec37 : ∀ {T : TT} {x3 : Int32} {x4 : Int32} {x5 : Int32} {x6 : Int32}, rec37 T x3 x4 x5 x6 = some res → Fr (fun a b => (a = 10 ∧ b = 5)) (fun _ _ => False) (fun _ _ => False) T res.2) {T : TT} {x3 : Int32} {x4 : Int32} {x5 : Int32} {x6 : Int32} {x7 : Int32} {x8 : Int32} {s0 : Int32} (h : m_X11_pairsBy_b139 rec37 T x3 x4 x5 x6 x7 x8 s0 = some res) : Fr (fun a b => (a = 10 ∧ b = 5)) (fun _ _ => False) (fun _ _ => False) T res.2 := by
  unfold m_X11_pairsBy_b139 at h
  have F0 : Fr (fun a b => (a = 10 ∧ b = 5)) (fun _ _ => False) (fun _ _ => False) T T := Fr.rf
  rcases ifo h with h | h
  · have hq := some_i h
    subst hq
    exact F0
  · rcases ifo h with h | h
    · rcases ifo h with h | h
      · exact F0.trans (fr_X11_pairsBy_b191 hrec37 h)
      · obtain ⟨gi, h⟩ := gd h
        obtain ⟨T18, eT18, h⟩ := bTe h
        have FT18 := (F0.wA eT18 ⟨rfl, rfl⟩)
        obtain ⟨gi, h⟩ := gd h
        obtain ⟨T19, eT19, h⟩ := bTe h
        have FT19 := (FT18.wA eT19 ⟨rfl, rfl⟩)
        obtain ⟨z20, ez20, h⟩ := bnd h
        obtain ⟨y21, ey21, h⟩ := bTe h
        exact FT19.trans (fr_X11_pairsBy_b191 hrec37 h)
    · exact F0.trans (fr_X11_pairsBy_b191 hrec37 h)
set_option maxHeartbeats 4000000 in
set_option maxRecDepth 100000 in
theorem fr_X11_pairsBy_b138 {rec37 : TT → Int32 → Int32 → Int32 → Int32 → Option (Int32 × TT)} {res : Int32 × TT} (hrec37 : ∀ {T : TT} {x3 : Int32} {x4 : Int32} {x5 : Int32} {x6 : Int32}, rec37 T x3 x4 x5 x6 = some res → Fr (fun a b => (a = 10 ∧ b = 5)) (fun _ _ => False) (fun _ _ => False) T res.2) {T : TT} {x3 : Int32} {x4 : Int32} {x5 : Int32} {x6 : Int32} {x7 : Int32} {x8 : Int32} (h : m_X11_pairsBy_b138 rec37 T x3 x4 x5 x6 x7 x8 = some res) : Fr (fun a b => (a = 10 ∧ b = 5)) (fun _ _ => False) (fun _ _ => False) T res.2 := by
  unfold m_X11_pairsBy_b138 at h
  have F0 : Fr (fun a b => (a = 10 ∧ b = 5)) (fun _ _ => False) (fun _ _ => False) T T := Fr.rf
  exact F0.trans (fr_X11_pairsBy_b139 hrec37 h)
set_option maxHeartbeats 4000000 in
set_option maxRecDepth 100000 in
theorem fr_X11_pairsBy_b134 {rec37 : TT → Int32 → Int32 → Int32 → Int32 → Option (Int32 × TT)} {res : Int32 × TT} (hrec37 : ∀ {T : TT} {x3 : Int32} {x4 : Int32} {x5 : Int32} {x6 : Int32}, rec37 T x3 x4 x5 x6 = some res → Fr (fun a b => (a = 10 ∧ b = 5)) (fun _ _ => False) (fun _ _ => False) T res.2) {T : TT} {x3 : Int32} {x4 : Int32} {x5 : Int32} {x6 : Int32} {x7 : Int32} {x8 : Int32} (h : m_X11_pairsBy_b134 rec37 T x3 x4 x5 x6 x7 x8 = some res) : Fr (fun a b => (a = 10 ∧ b = 5)) (fun _ _ => False) (fun _ _ => False) T res.2 := by
  unfold m_X11_pairsBy_b134 at h
  have F0 : Fr (fun a b => (a = 10 ∧ b = 5)) (fun _ _ => False) (fun _ _ => False) T T := Fr.rf
  exact F0.trans (fr_X11_pairsBy_b139 hrec37 h)
set_option maxHeartbeats 4000000 in
set_option maxRecDepth 100000 in
theorem fr_X11_pairsBy_b80 {rec37 : TT → Int32 → Int32 → Int32 → Int32 → Option (Int32 × TT)} {res : Int32 × TT} (hrec37 : ∀ {T : TT} {x3 : Int32} {x4 : Int32} {x5 : Int32} {x6 : Int32}, rec37 T x3 x4 x5 x6 = some res → Fr (fun a b => (a = 10 ∧ b = 5)) (fun _ _ => False) (fun _ _ => False) T res.2) {T : TT} {x3 : Int32} {x4 : Int32} {x5 : Int32} {x6 : Int32} {x7 : Int32} {s0 : Int32} (h : m_X11_pairsBy_b80 rec37 T x3 x4 x5 x6 x7 s0 = some res) : Fr (fun a b => (a = 10 ∧ b = 5)) (fun _ _ => False) (fun _ _ => False) T res.2 := by
  unfold m_X11_pairsBy_b80 at h
  have F0 : Fr (fun a b => (a = 10 ∧ b = 5)) (fun _ _ => False) (fun _ _ => False) T T := Fr.rf
  rcases ifo h with h | h
  · rcases ifo h with h | h
    · exact F0.trans (fr_X11_pairsBy_b134 hrec37 h)
    · rcases ifo h with h | h
      · exact F0.trans (fr_X11_pairsBy_b138 hrec37 h)
      · obtain ⟨z11, ez11, h⟩ := bnd h
        rcases ifo h with h | h
        · exact F0.trans (fr_X11_pairsBy_b138 hrec37 h)
        · obtain ⟨gi, h⟩ := gd h
          rcases ifo h with h | h
          · exact F0.trans (fr_X11_pairsBy_b134 hrec37 h)
          · exact F0.trans (fr_X11_pairsBy_b138 hrec37 h)
  · rcases ifo h with h | h
    · exact F0.trans (fr_X11_pairsBy_b139 hrec37 h)
    · exact F0.trans (fr_X11_pairsBy_b139 hrec37 h)
set_option maxHeartbeats 4000000 in
set_option maxRecDepth 100000 in
theorem fr_X11_pairsBy_h37 {rec37 : TT → Int32 → Int32 → Int32 → Int32 → Option (Int32 × TT)} {res : Int32 × TT} (hrec37 : ∀ {T : TT} {x3 : Int32} {x4 : Int32} {x5 : Int32} {x6 : Int32}, rec37 T x3 x4 x5 x6 = some res → Fr (fun a b => (a = 10 ∧ b = 5)) (fun _ _ => False) (fun _ _ => False) T res.2) {T : TT} {x3 : Int32} {x4 : Int32} {x5 : Int32} {x6 : Int32} (h : m_X11_pairsBy_h37 rec37 T x3 x4 x5 x6 = some res) : Fr (fun a b => (a = 10 ∧ b = 5)) (fun _ _ => False) (fun _ _ => False) T res.2 := by
  unfold m_X11_pairsBy_h37 at h
  have F0 : Fr (fun a b => (a = 10 ∧ b = 5)) (fun _ _ => False) (fun _ _ => False) T T := Fr.rf
  obtain ⟨z5, ez5, h⟩ := bnd h
  rcases ifo h with h | h
  · have hq := some_i h
    subst hq
    exact F0
  · obtain ⟨y6, ey6, h⟩ := bTe h
    obtain ⟨-, h⟩ := gdn h
    obtain ⟨y7, ey7, h⟩ := bTe h
    obtain ⟨-, h⟩ := gdn h
    obtain ⟨y8, ey8, h⟩ := bTe h
    obtain ⟨gi, h⟩ := gd h
    rcases ifo h with h | h
    · exact F0.trans (fr_X11_pairsBy_b80 hrec37 h)
    · exact F0.trans (fr_X11_pairsBy_b80 hrec37 h)
set_option maxHeartbeats 4000000 in
set_option maxRecDepth 100000 in
theorem fr_X11_pairsBy_l37 {res : Int32 × TT} : ∀ (n : Nat) {T : TT} {x3 : Int32} {x4 : Int32} {x5 : Int32} {x6 : Int32} (h : m_X11_pairsBy_l37 n T x3 x4 x5 x6 = some res), Fr (fun a b => (a = 10 ∧ b = 5)) (fun _ _ => False) (fun _ _ => False) T res.2 := by
  intro n
  induction n with
  | zero =>
    intro T x3 x4 x5 x6 h
    exact no_some h
  | succ n ih =>
    intro T x3 x4 x5 x6 h
    have h : m_X11_pairsBy_h37 (m_X11_pairsBy_l37 n) T x3 x4 x5 x6 = some res := h
    exact fr_X11_pairsBy_h37 (rec37 := m_X11_pairsBy_l37 n) (fun h => ih h) h
set_option maxHeartbeats 4000000 in
set_option maxRecDepth 100000 in
theorem fr_X11_pairsBy_h11 {rec11 : TT → Int32 → Int32 → Int32 → Int32 → Option (Int32 × TT)} {res : Int32 × TT} (hrec11 : ∀ {T : TT} {x3 : Int32} {x4 : Int32} {x5 : Int32} {x6 : Int32}, rec11 T x3 x4 x5 x6 = some res → Fr (fun a b => (a = 10 ∧ b = 5)) (fun _ _ => False) (fun _ _ => False) T res.2) {T : TT} {x3 : Int32} {x4 : Int32} {x5 : Int32} {x6 : Int32} (h : m_X11_pairsBy_h11 rec11 T x3 x4 x5 x6 = some res) : Fr (fun a b => (a = 10 ∧ b = 5)) (fun _ _ => False) (fun _ _ => False) T res.2 := by
  unfold m_X11_pairsBy_h11 at h
  have F0 : Fr (fun a b => (a = 10 ∧ b = 5)) (fun _ _ => False) (fun _ _ => False) T T := Fr.rf
  obtain ⟨z1, ez1, h⟩ := bnd h
  rcases ifo h with h | h
  · exact F0.trans (fr_X11_pairsBy_l37 _ h)
  · obtain ⟨gi, h⟩ := gd h
    obtain ⟨T2, eT2, h⟩ := bTe h
    have FT2 := (F0.wA eT2 ⟨rfl, rfl⟩)
    obtain ⟨y3, ey3, h⟩ := bTe h
    exact FT2.trans (hrec11 h)
set_option maxHeartbeats 4000000 in
set_option maxRecDepth 100000 in
theorem fr_X11_pairsBy_l11 {res : Int32 × TT} : ∀ (n : Nat) {T : TT} {x3 : Int32} {x4 : Int32} {x5 : Int32} {x6 : Int32} (h : m_X11_pairsBy_l11 n T x3 x4 x5 x6 = some res), Fr (fun a b => (a = 10 ∧ b = 5)) (fun _ _ => False) (fun _ _ => False) T res.2 := by
  intro n
  induction n with
  | zero =>
    intro T x3 x4 x5 x6 h
    exact no_some h
  | succ n ih =>
    intro T x3 x4 x5 x6 h
    have h : m_X11_pairsBy_h11 (m_X11_pairsBy_l11 n) T x3 x4 x5 x6 = some res := h
    exact fr_X11_pairsBy_h11 (rec11 := m_X11_pairsBy_l11 n) (fun h => ih h) h
set_option maxHeartbeats 4000000 in
set_option maxRecDepth 100000 in
theorem fr_X11_pairsBy {T : TT} {x1 : Int32} {x2 : Int32} {res : Int32 × TT} (h : m_X11_pairsBy T x1 x2 = some res) : Fr (fun a b => (a = 10 ∧ b = 5)) (fun _ _ => False) (fun _ _ => False) T res.2 := by
  unfold m_X11_pairsBy at h
  have F0 : Fr (fun a b => (a = 10 ∧ b = 5)) (fun _ _ => False) (fun _ _ => False) T T := Fr.rf
  exact F0.trans (fr_X11_pairsBy_l11 _ h)
set_option maxHeartbeats 4000000 in
set_option maxRecDepth 100000 in
theorem fr_X11_tell_b120 {rec55 : TT → Int32 → Int32 → Int32 → Int32 → Option (Int32 × TT)} {res : Int32 × TT} (hrec55 : ∀ {T : TT} {x1 : Int32} {x2 : Int32} {x3 : Int32} {x4 : Int32}, rec55 T x1 x2 x3 x4 = some res → Fr (fun a b => (a = 10 ∧ b = 4) ∨ (a = 10 ∧ b = 5) ∨ (a = 10 ∧ b = 6)) (fun _ _ => False) (fun _ _ => False) T res.2) {T : TT} {x1 : Int32} {x2 : Int32} {x4 : Int32} {s0 : Int32} (h : m_X11_tell_b120 rec55 T x1 x2 x4 s0 = some res) : Fr (fun a b => (a = 10 ∧ b = 4) ∨ (a = 10 ∧ b = 5) ∨ (a = 10 ∧ b = 6)) (fun _ _ => False) (fun _ _ => False) T res.2 := by
  unfold m_X11_tell_b120 at h
  have F0 : Fr (fun a b => (a = 10 ∧ b = 4) ∨ (a = 10 ∧ b = 5) ∨ (a = 10 ∧ b = 6)) (fun _ _ => False) (fun _ _ => False) T T := Fr.rf
  obtain ⟨y18, ey18, h⟩ := bTe h
  exact F0.trans (hrec55 h)
set_option maxHeartbeats 4000000 in
set_option maxRecDepth 100000 in
theorem fr_X11_tell_b108 {rec55 : TT → Int32 → Int32 → Int32 → Int32 → Option (Int32 × TT)} {res : Int32 × TT} (hrec55 : ∀ {T : TT} {x1 : Int32} {x2 : Int32} {x3 : Int32} {x4 : Int32}, rec55 T x1 x2 x3 x4 = some res → Fr (fun a b => (a = 10 ∧ b = 4) ∨ (a = 10 ∧ b = 5) ∨ (a = 10 ∧ b = 6)) (fun _ _ => False) (fun _ _ => False) T res.2) {T : TT} {x1 : Int32} {x2 : Int32} {x3 : Int32} {x4 : Int32} {x5 : Int32} (h : m_X11_tell_b108 rec55 T x1 x2 x3 x4 x5 = some res) : Fr (fun a b => (a = 10 ∧ b = 4) ∨ (a = 10 ∧ b = 5) ∨ (a = 10 ∧ b = 6)) (fun _ _ => False) (fun _ _ => False) T res.2 := by
  unfold m_X11_tell_b108 at h
  have F0 : Fr (fun a b => (a = 10 ∧ b = 4) ∨ (a = 10 ∧ b = 5) ∨ (a = 10 ∧ b = 6)) (fun _ _ => False) (fun _ _ => False) T T := Fr.rf
  rcases ifo h with h | h
  · exact F0.trans (fr_X11_tell_b120 hrec55 h)
  · exact F0.trans (fr_X11_tell_b120 hrec55 h)
set_option maxHeartbeats 4000000 in
set_option maxRecDepth 100000 in
theorem fr_X11_tell_h73 {rec55 : TT → Int32 → Int32 → Int32 → Int32 → Option (Int32 × TT)} {rec73 : TT → Int32 → Int32 → Int32 → Int32 → Int32 → Int32 → Option (Int32 × TT)} {res : Int32 × TT} (hrec55 : ∀ {T : TT} {x1 : Int32} {x2 : Int32} {x3 : Int32} {x4 : Int32}, rec55 T x1 x2 x3 x4 = some res → Fr (fun a b => (a = 10 ∧ b = 4) ∨ (a = 10 ∧ b = 5) ∨ (a = 10 ∧ b = 6)) (fun _ _ => False) (fun _ _ => False) T res.2) (hrec73 : ∀ {T : TT} {x1 : Int32} {x2 : Int32} {x3 : Int32} {x4 : Int32} {x5 : Int32} {x6 : Int32}, rec73 T x1 x2 x3 x4 x5 x6 = some res → Fr (fun a b => (a = 10 ∧ b = 4) ∨ (a = 10 ∧ b = 5) ∨ (a = 10 ∧ b = 6)) (fun _ _ => False) (fun _ _ => False) T res.2) {T : TT} {x1 : Int32} {x2 : Int32} {x3 : Int32} {x4 : Int32} {x5 : Int32} {x6 : Int32} (h : m_X11_tell_h73 rec55 rec73 T x1 x2 x3 x4 x5 x6 = some res) : Fr (fun a b => (a = 10 ∧ b = 4) ∨ (a = 10 ∧ b = 5) ∨ (a = 10 ∧ b = 6)) (fun _ _ => False) (fun _ _ => False) T res.2 := by
  unfold m_X11_tell_h73 at h
  have F0 : Fr (fun a b => (a = 10 ∧ b = 4) ∨ (a = 10 ∧ b = 5) ∨ (a = 10 ∧ b = 6)) (fun _ _ => False) (fun _ _ => False) T T := Fr.rf
  obtain ⟨z12, ez12, h⟩ := bnd h
  rcases ifo h with h | h
  · exact F0.trans (fr_X11_tell_b108 hrec55 h)
  · rcases ifo h with h | h
    · exact F0.trans (fr_X11_tell_b108 hrec55 h)
    · obtain ⟨gi, h⟩ := gd h
      obtain ⟨gi, h⟩ := gd h
      obtain ⟨T13, eT13, h⟩ := bTe h
      have FT13 := (F0.wA eT13 (Or.inr (Or.inr ⟨rfl, rfl⟩)))
      obtain ⟨y14, ey14, h⟩ := bTe h
      exact FT13.trans (hrec73 h)
set_option maxHeartbeats 4000000 in
set_option maxRecDepth 100000 in
theorem fr_X11_tell_l73 {rec55 : TT → Int32 → Int32 → Int32 → Int32 → Option (Int32 × TT)} {res : Int32 × TT} (hrec55 : ∀ {T : TT} {x1 : Int32} {x2 : Int32} {x3 : Int32} {x4 : Int32}, rec55 T x1 x2 x3 x4 = some res → Fr (fun a b => (a = 10 ∧ b = 4) ∨ (a = 10 ∧ b = 5) ∨ (a = 10 ∧ b = 6)) (fun _ _ => False) (fun _ _ => False) T res.2) : ∀ (n : Nat) {T : TT} {x1 : Int32} {x2 : Int32} {x3 : Int32} {x4 : Int32} {x5 : Int32} {x6 : Int32} (h : m_X11_tell_l73 rec55 n T x1 x2 x3 x4 x5 x6 = some res), Fr (fun a b => (a = 10 ∧ b = 4) ∨ (a = 10 ∧ b = 5) ∨ (a = 10 ∧ b = 6)) (fun _ _ => False) (fun _ _ => False) T res.2 := by
  intro n
  induction n with
  | zero =>
    intro T x1 x2 x3 x4 x5 x6 h
    exact no_some h
  | succ n ih =>
    intro T x1 x2 x3 x4 x5 x6 h
    have h : m_X11_tell_h73 rec55 (m_X11_tell_l73 rec55 n) T x1 x2 x3 x4 x5 x6 = some res := h
    exact fr_X11_tell_h73 (rec73 := m_X11_tell_l73 rec55 n) hrec55 (fun h => ih h) h
set_option maxHeartbeats 4000000 in
set_option maxRecDepth 100000 in
theorem fr_X11_tell_h55 {rec55 : TT → Int32 → Int32 → Int32 → Int32 → Option (Int32 × TT)} {res : Int32 × TT} (hrec55 : ∀ {T : TT} {x1 : Int32} {x2 : Int32} {x3 : Int32} {x4 : Int32}, rec55 T x1 x2 x3 x4 = some res → Fr (fun a b => (a = 10 ∧ b = 4) ∨ (a = 10 ∧ b = 5) ∨ (a = 10 ∧ b = 6)) (fun _ _ => False) (fun _ _ => False) T res.2) {T : TT} {x1 : Int32} {x2 : Int32} {x3 : Int32} {x4 : Int32} (h : m_X11_tell_h55 rec55 T x1 x2 x3 x4 = some res) : Fr (fun a b => (a = 10 ∧ b = 4) ∨ (a = 10 ∧ b = 5) ∨ (a = 10 ∧ b = 6)) (fun _ _ => False) (fun _ _ => False) T res.2 := by
  unfold m_X11_tell_h55 at h
  have F0 : Fr (fun a b => (a = 10 ∧ b = 4) ∨ (a = 10 ∧ b = 5) ∨ (a = 10 ∧ b = 6)) (fun _ _ => False) (fun _ _ => False) T T := Fr.rf
  rcases ifo h with h | h
  · rcases ifo h with h | h
    · have hq := some_i h
      subst hq
      exact F0
    · obtain ⟨gi, h⟩ := gd h
      have hq := some_i h
      subst hq
      exact F0
  · obtain ⟨z10, ez10, h⟩ := bnd h
    have Fz10 := F0.trans ((fr_X11_pairsBy ez10).mono (fun a b h => (Or.inr (Or.inl h))) (fun a b h => False.elim h) (fun a b h => False.elim h))
    exact Fz10.trans (fr_X11_tell_l73 hrec55 _ h)
set_option maxHeartbeats 4000000 in
set_option maxRecDepth 100000 in
theorem fr_X11_tell_l55 {res : Int32 × TT} : ∀ (n : Nat) {T : TT} {x1 : Int32} {x2 : Int32} {x3 : Int32} {x4 : Int32} (h : m_X11_tell_l55 n T x1 x2 x3 x4 = some res), Fr (fun a b => (a = 10 ∧ b = 4) ∨ (a = 10 ∧ b = 5) ∨ (a = 10 ∧ b = 6)) (fun _ _ => False) (fun _ _ => False) T res.2 := by
  intro n
  induction n with
  | zero =>
    intro T x1 x2 x3 x4 h
    exact no_some h
  | succ n ih =>
    intro T x1 x2 x3 x4 h
    have h : m_X11_tell_h55 (m_X11_tell_l55 n) T x1 x2 x3 x4 = some res := h
    exact fr_X11_tell_h55 (rec55 := m_X11_tell_l55 n) (fun h => ih h) h
set_option maxHeartbeats 4000000 in
set_option maxRecDepth 100000 in
theorem fr_X11_tell_h32 {rec32 : TT → Int32 → Int32 → Int32 → Int32 → Option (Int32 × TT)} {res : Int32 × TT} (hrec32 : ∀ {T : TT} {x1 : Int32} {x2 : Int32} {x3 : Int32} {x4 : Int32}, rec32 T x1 x2 x3 x4 = some res → Fr (fun a b => (a = 10 ∧ b = 4) ∨ (a = 10 ∧ b = 5) ∨ (a = 10 ∧ b = 6)) (fun _ _ => False) (fun _ _ => False) T res.2) {T : TT} {x1 : Int32} {x2 : Int32} {x3 : Int32} {x4 : Int32} (h : m_X11_tell_h32 rec32 T x1 x2 x3 x4 = some res) : Fr (fun a b => (a = 10 ∧ b = 4) ∨ (a = 10 ∧ b = 5) ∨ (a = 10 ∧ b = 6)) (fun _ _ => False) (fun _ _ => False) T res.2 := by
  unfold m_X11_tell_h32 at h
  have F0 : Fr (fun a b => (a = 10 ∧ b = 4) ∨ (a = 10 ∧ b = 5) ∨ (a = 10 ∧ b = 6)) (fun _ _ => False) (fun _ _ => False) T T := Fr.rf
  obtain ⟨z5, ez5, h⟩ := bnd h
  rcases ifo h with h | h
  · exact F0.trans (fr_X11_tell_l55 _ h)
  · obtain ⟨y6, ey6, h⟩ := bTe h
    obtain ⟨y7, ey7, h⟩ := bTe h
    exact F0.trans (hrec32 h)
set_option maxHeartbeats 4000000 in
set_option maxRecDepth 100000 in
theorem fr_X11_tell_l32 {res : Int32 × TT} : ∀ (n : Nat) {T : TT} {x1 : Int32} {x2 : Int32} {x3 : Int32} {x4 : Int32} (h : m_X11_tell_l32 n T x1 x2 x3 x4 = some res), Fr (fun a b => (a = 10 ∧ b = 4) ∨ (a = 10 ∧ b = 5) ∨ (a = 10 ∧ b = 6)) (fun _ _ => False) (fun _ _ => False) T res.2 := by
  intro n
  induction n with
  | zero =>
    intro T x1 x2 x3 x4 h
    exact no_some h
  | succ n ih =>
    intro T x1 x2 x3 x4 h
    have h : m_X11_tell_h32 (m_X11_tell_l32 n) T x1 x2 x3 x4 = some res := h
    exact fr_X11_tell_h32 (rec32 := m_X11_tell_l32 n) (fun h => ih h) h
set_option maxHeartbeats 4000000 in
set_option maxRecDepth 100000 in
theorem fr_X11_tell {T : TT} {x1 : Int32} {res : Int32 × TT} (h : m_X11_tell T x1 = some res) : Fr (fun a b => (a = 10 ∧ b = 4) ∨ (a = 10 ∧ b = 5) ∨ (a = 10 ∧ b = 6)) (fun _ _ => False) (fun _ _ => False) T res.2 := by
  unfold m_X11_tell at h
  have F0 : Fr (fun a b => (a = 10 ∧ b = 4) ∨ (a = 10 ∧ b = 5) ∨ (a = 10 ∧ b = 6)) (fun _ _ => False) (fun _ _ => False) T T := Fr.rf
  obtain ⟨z1, ez1, h⟩ := bnd h
  obtain ⟨z2, ez2, h⟩ := bnd h
  rcases ifo h with h | h
  · obtain ⟨z3, ez3, h⟩ := bnd h
    have Fz3 := F0.trans ((fr_X11_bad ez3).mono (fun a b h => (Or.inl h)) (fun a b h => False.elim h) (fun a b h => False.elim h))
    have hq := some_i h
    subst hq
    exact Fz3
  · exact F0.trans (fr_X11_tell_l32 _ h)
set_option maxHeartbeats 4000000 in
set_option maxRecDepth 100000 in
theorem fr_X11_note_b66 {res : Int32 × TT} {T : TT} (h : m_X11_note_b66 T = some res) : Fr (fun a b => (a = 10 ∧ b = 1) ∨ (a = 10 ∧ b = 4)) (fun _ _ => False) (fun _ _ => False) T res.2 := by
  unfold m_X11_note_b66 at h
  have F0 : Fr (fun a b => (a = 10 ∧ b = 1) ∨ (a = 10 ∧ b = 4)) (fun _ _ => False) (fun _ _ => False) T T := Fr.rf
  obtain ⟨z23, ez23, h⟩ := bnd h
  have Fz23 := F0.trans ((fr_X11_bad ez23).mono (fun a b h => (Or.inr h)) (fun a b h => False.elim h) (fun a b h => False.elim h))
  have hq := some_i h
  subst hq
  exact Fz23
