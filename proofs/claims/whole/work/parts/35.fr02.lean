set_option maxHeartbeats 4000000 in
set_option maxRecDepth 100000 in
theorem fr_X11_note {T : TT} {x1 : Int32} {x2 : Int32} {x3 : Int32} {x4 : Int32} {x5 : Int32} {x6 : Int32} {res : Int32 × TT} (h : m_X11_note T x1 x2 x3 x4 x5 x6 = some res) : Fr (fun a b => (a = 10 ∧ b = 1) ∨ (a = 10 ∧ b = 4)) (fun _ _ => False) (fun _ _ => False) T res.2 := by
  unfold m_X11_note at h
  have F0 : Fr (fun a b => (a = 10 ∧ b = 1) ∨ (a = 10 ∧ b = 4)) (fun _ _ => False) (fun _ _ => False) T T := Fr.rf
  obtain ⟨z1, ez1, h⟩ := bnd h
  rcases ifo h with h | h
  · exact F0.trans (fr_X11_note_b66 h)
  · obtain ⟨z2, ez2, h⟩ := bnd h
    rcases ifo h with h | h
    · exact F0.trans (fr_X11_note_b66 h)
    · obtain ⟨z3, ez3, h⟩ := bnd h
      rcases ifo h with h | h
      · exact F0.trans (fr_X11_note_b66 h)
      · obtain ⟨z4, ez4, h⟩ := bnd h
        rcases ifo h with h | h
        · exact F0.trans (fr_X11_note_b66 h)
        · obtain ⟨z5, ez5, h⟩ := bnd h
          rcases ifo h with h | h
          · exact F0.trans (fr_X11_note_b66 h)
          · obtain ⟨z6, ez6, h⟩ := bnd h
            rcases ifo h with h | h
            · exact F0.trans (fr_X11_note_b66 h)
            · rcases ifo h with h | h
              · obtain ⟨z15, ez15, h⟩ := bnd h
                have Fz15 := F0.trans ((fr_X11_full ez15).mono (fun a b h => (Or.inr h)) (fun a b h => False.elim h) (fun a b h => False.elim h))
                have hq := some_i h
                subst hq
                exact Fz15
              · obtain ⟨y7, ey7, h⟩ := bTe h
                obtain ⟨gi, h⟩ := gd h
                obtain ⟨T8, eT8, h⟩ := bTe h
                have FT8 := (F0.wA eT8 (Or.inl ⟨rfl, rfl⟩))
                obtain ⟨gi, h⟩ := gd h
                obtain ⟨T9, eT9, h⟩ := bTe h
                have FT9 := (FT8.wA eT9 (Or.inl ⟨rfl, rfl⟩))
                obtain ⟨gi, h⟩ := gd h
                obtain ⟨T10, eT10, h⟩ := bTe h
                have FT10 := (FT9.wA eT10 (Or.inl ⟨rfl, rfl⟩))
                obtain ⟨gi, h⟩ := gd h
                obtain ⟨T11, eT11, h⟩ := bTe h
                have FT11 := (FT10.wA eT11 (Or.inl ⟨rfl, rfl⟩))
                obtain ⟨gi, h⟩ := gd h
                obtain ⟨T12, eT12, h⟩ := bTe h
                have FT12 := (FT11.wA eT12 (Or.inl ⟨rfl, rfl⟩))
                obtain ⟨gi, h⟩ := gd h
                obtain ⟨T13, eT13, h⟩ := bTe h
                have FT13 := (FT12.wA eT13 (Or.inl ⟨rfl, rfl⟩))
                obtain ⟨T14, eT14, h⟩ := bTe h
                have FT14 := (FT13.wA eT14 (Or.inl ⟨rfl, rfl⟩))
                have hq := some_i h
                subst hq
                exact FT14
set_option maxHeartbeats 4000000 in
set_option maxRecDepth 100000 in
theorem fr_X11_gone_b32 {res : Int32 × TT} {T : TT} (h : m_X11_gone_b32 T = some res) : Fr (fun a b => (a = 10 ∧ b = 1) ∨ (a = 10 ∧ b = 4)) (fun _ _ => False) (fun _ _ => False) T res.2 := by
  unfold m_X11_gone_b32 at h
  have F0 : Fr (fun a b => (a = 10 ∧ b = 1) ∨ (a = 10 ∧ b = 4)) (fun _ _ => False) (fun _ _ => False) T T := Fr.rf
  obtain ⟨z14, ez14, h⟩ := bnd h
  have Fz14 := F0.trans ((fr_X11_bad ez14).mono (fun a b h => (Or.inr h)) (fun a b h => False.elim h) (fun a b h => False.elim h))
  have hq := some_i h
  subst hq
  exact Fz14
set_option maxHeartbeats 4000000 in
set_option maxRecDepth 100000 in
theorem fr_X11_gone {T : TT} {x1 : Int32} {x2 : Int32} {x3 : Int32} {res : Int32 × TT} (h : m_X11_gone T x1 x2 x3 = some res) : Fr (fun a b => (a = 10 ∧ b = 1) ∨ (a = 10 ∧ b = 4)) (fun _ _ => False) (fun _ _ => False) T res.2 := by
  unfold m_X11_gone at h
  have F0 : Fr (fun a b => (a = 10 ∧ b = 1) ∨ (a = 10 ∧ b = 4)) (fun _ _ => False) (fun _ _ => False) T T := Fr.rf
  obtain ⟨z1, ez1, h⟩ := bnd h
  rcases ifo h with h | h
  · exact F0.trans (fr_X11_gone_b32 h)
  · obtain ⟨z2, ez2, h⟩ := bnd h
    rcases ifo h with h | h
    · exact F0.trans (fr_X11_gone_b32 h)
    · obtain ⟨z3, ez3, h⟩ := bnd h
      rcases ifo h with h | h
      · exact F0.trans (fr_X11_gone_b32 h)
      · rcases ifo h with h | h
        · obtain ⟨z9, ez9, h⟩ := bnd h
          have Fz9 := F0.trans ((fr_X11_full ez9).mono (fun a b h => (Or.inr h)) (fun a b h => False.elim h) (fun a b h => False.elim h))
          have hq := some_i h
          subst hq
          exact Fz9
        · obtain ⟨y4, ey4, h⟩ := bTe h
          obtain ⟨gi, h⟩ := gd h
          obtain ⟨T5, eT5, h⟩ := bTe h
          have FT5 := (F0.wA eT5 (Or.inl ⟨rfl, rfl⟩))
          obtain ⟨gi, h⟩ := gd h
          obtain ⟨T6, eT6, h⟩ := bTe h
          have FT6 := (FT5.wA eT6 (Or.inl ⟨rfl, rfl⟩))
          obtain ⟨gi, h⟩ := gd h
          obtain ⟨T7, eT7, h⟩ := bTe h
          have FT7 := (FT6.wA eT7 (Or.inl ⟨rfl, rfl⟩))
          obtain ⟨T8, eT8, h⟩ := bTe h
          have FT8 := (FT7.wA eT8 (Or.inl ⟨rfl, rfl⟩))
          have hq := some_i h
          subst hq
          exact FT8
set_option maxHeartbeats 4000000 in
set_option maxRecDepth 100000 in
theorem fr_X11_forget {T : TT} {x1 : Int32} {res : Int32 × TT} (h : m_X11_forget T x1 = some res) : Fr (fun a b => (a = 10 ∧ b = 1) ∨ (a = 10 ∧ b = 4)) (fun _ _ => False) (fun _ _ => False) T res.2 := by
  unfold m_X11_forget at h
  have F0 : Fr (fun a b => (a = 10 ∧ b = 1) ∨ (a = 10 ∧ b = 4)) (fun _ _ => False) (fun _ _ => False) T T := Fr.rf
  obtain ⟨z1, ez1, h⟩ := bnd h
  rcases ifo h with h | h
  · obtain ⟨z4, ez4, h⟩ := bnd h
    have Fz4 := F0.trans ((fr_X11_bad ez4).mono (fun a b h => (Or.inr h)) (fun a b h => False.elim h) (fun a b h => False.elim h))
    have hq := some_i h
    subst hq
    exact Fz4
  · obtain ⟨gi, h⟩ := gd h
    obtain ⟨y2, ey2, h⟩ := bTe h
    obtain ⟨gi, h⟩ := gd h
    obtain ⟨T3, eT3, h⟩ := bTe h
    have FT3 := (F0.wA eT3 (Or.inl ⟨rfl, rfl⟩))
    have hq := some_i h
    subst hq
    exact FT3
set_option maxHeartbeats 4000000 in
set_option maxRecDepth 100000 in
theorem fr_X11_is {T : TT} {x1 : Int32} {res : Int32 × TT} (h : m_X11_is T x1 = some res) : Fr (fun a b => (a = 10 ∧ b = 4)) (fun _ _ => False) (fun _ _ => False) T res.2 := by
  unfold m_X11_is at h
  have F0 : Fr (fun a b => (a = 10 ∧ b = 4)) (fun _ _ => False) (fun _ _ => False) T T := Fr.rf
  obtain ⟨z1, ez1, h⟩ := bnd h
  rcases ifo h with h | h
  · obtain ⟨z2, ez2, h⟩ := bnd h
    have Fz2 := F0.trans ((fr_X11_bad ez2).mono (fun a b h => h) (fun a b h => False.elim h) (fun a b h => False.elim h))
    have hq := some_i h
    subst hq
    exact Fz2
  · obtain ⟨z3, ez3, h⟩ := bnd h
    have hq := some_i h
    subst hq
    exact F0
set_option maxHeartbeats 4000000 in
set_option maxRecDepth 100000 in
theorem fr_X11_look_b200 {rec30 : TT → Int32 → Int32 → Int32 → Int32 → Int32 → Option (Int32 × TT)} {res : Int32 × TT} (hrec30 : ∀ {T : TT} {x1 : Int32} {x2 : Int32} {x3 : Int32} {x4 : Int32} {x5 : Int32}, rec30 T x1 x2 x3 x4 x5 = some res → Fr (fun a b => (a = 10 ∧ b = 4)) (fun _ _ => False) (fun _ _ => False) T res.2) {T : TT} {x1 : Int32} {x2 : Int32} {x3 : Int32} {x5 : Int32} {s0 : Int32} (h : m_X11_look_b200 rec30 T x1 x2 x3 x5 s0 = some res) : Fr (fun a b => (a = 10 ∧ b = 4)) (fun _ _ => False) (fun _ _ => False) T res.2 := by
  unfold m_X11_look_b200 at h
  have F0 : Fr (fun a b => (a = 10 ∧ b = 4)) (fun _ _ => False) (fun _ _ => False) T T := Fr.rf
  obtain ⟨y23, ey23, h⟩ := bTe h
  exact F0.trans (hrec30 h)
set_option maxHeartbeats 4000000 in
set_option maxRecDepth 100000 in
theorem fr_X11_look_b185 {rec30 : TT → Int32 → Int32 → Int32 → Int32 → Int32 → Option (Int32 × TT)} {res : Int32 × TT} (hrec30 : ∀ {T : TT} {x1 : Int32} {x2 : Int32} {x3 : Int32} {x4 : Int32} {x5 : Int32}, rec30 T x1 x2 x3 x4 x5 = some res → Fr (fun a b => (a = 10 ∧ b = 4)) (fun _ _ => False) (fun _ _ => False) T res.2) {T : TT} {x1 : Int32} {x2 : Int32} {x4 : Int32} {x5 : Int32} {x6 : Int32} {s0 : Int32} (h : m_X11_look_b185 rec30 T x1 x2 x4 x5 x6 s0 = some res) : Fr (fun a b => (a = 10 ∧ b = 4)) (fun _ _ => False) (fun _ _ => False) T res.2 := by
  unfold m_X11_look_b185 at h
  have F0 : Fr (fun a b => (a = 10 ∧ b = 4)) (fun _ _ => False) (fun _ _ => False) T T := Fr.rf
  rcases ifo h with h | h
  · exact F0.trans (fr_X11_look_b200 hrec30 h)
  · exact F0.trans (fr_X11_look_b200 hrec30 h)
set_option maxHeartbeats 4000000 in
set_option maxRecDepth 100000 in
theorem fr_X11_look_b172 {rec30 : TT → Int32 → Int32 → Int32 → Int32 → Int32 → Option (Int32 × TT)} {res : Int32 × TT} (hrec30 : ∀ {T : TT} {x1 : Int32} {x2 : Int32} {x3 : Int32} {x4 : Int32} {x5 : Int32}, rec30 T x1 x2 x3 x4 x5 = some res → Fr (fun a b => (a = 10 ∧ b = 4)) (fun _ _ => False) (fun _ _ => False) T res.2) {T : TT} {x1 : Int32} {x2 : Int32} {x3 : Int32} {x4 : Int32} {x5 : Int32} {x6 : Int32} (h : m_X11_look_b172 rec30 T x1 x2 x3 x4 x5 x6 = some res) : Fr (fun a b => (a = 10 ∧ b = 4)) (fun _ _ => False) (fun _ _ => False) T res.2 := by
  unfold m_X11_look_b172 at h
  have F0 : Fr (fun a b => (a = 10 ∧ b = 4)) (fun _ _ => False) (fun _ _ => False) T T := Fr.rf
  rcases ifo h with h | h
  · exact F0.trans (fr_X11_look_b185 hrec30 h)
  · exact F0.trans (fr_X11_look_b185 hrec30 h)
set_option maxHeartbeats 4000000 in
set_option maxRecDepth 100000 in
theorem fr_X11_look_b164 {rec30 : TT → Int32 → Int32 → Int32 → Int32 → Int32 → Option (Int32 × TT)} {rec61 : TT → Int32 → Int32 → Int32 → Int32 → Int32 → Int32 → Int32 → Option (Int32 × TT)} {res : Int32 × TT} (hrec30 : ∀ {T : TT} {x1 : Int32} {x2 : Int32} {x3 : Int32} {x4 : Int32} {x5 : Int32}, rec30 T x1 x2 x3 x4 x5 = some res → Fr (fun a b => (a = 10 ∧ b = 4)) (fun _ _ => False) (fun _ _ => False) T res.2) (hrec61 : ∀ {T : TT} {x1 : Int32} {x2 : Int32} {x3 : Int32} {x4 : Int32} {x5 : Int32} {x6 : Int32} {x7 : Int32}, rec61 T x1 x2 x3 x4 x5 x6 x7 = some res → Fr (fun a b => (a = 10 ∧ b = 4)) (fun _ _ => False) (fun _ _ => False) T res.2) {T : TT} {x1 : Int32} {x2 : Int32} {x3 : Int32} {x4 : Int32} {x5 : Int32} {x7 : Int32} {s0 : Int32} (h : m_X11_look_b164 rec30 rec61 T x1 x2 x3 x4 x5 x7 s0 = some res) : Fr (fun a b => (a = 10 ∧ b = 4)) (fun _ _ => False) (fun _ _ => False) T res.2 := by
  unfold m_X11_look_b164 at h
  have F0 : Fr (fun a b => (a = 10 ∧ b = 4)) (fun _ _ => False) (fun _ _ => False) T T := Fr.rf
  obtain ⟨y20, ey20, h⟩ := bTe h
  exact F0.trans (hrec61 h)
set_option maxHeartbeats 4000000 in
set_option maxRecDepth 100000 in
theorem fr_X11_look_b150 {rec30 : TT → Int32 → Int32 → Int32 → Int32 → Int32 → Option (Int32 × TT)} {rec61 : TT → Int32 → Int32 → Int32 → Int32 → Int32 → Int32 → Int32 → Option (Int32 × TT)} {res : Int32 × TT} (hrec30 : ∀ {T : TT} {x1 : Int32} {x2 : Int32} {x3 : Int32} {x4 : Int32} {x5 : Int32}, rec30 T x1 x2 x3 x4 x5 = some res → Fr (fun a b => (a = 10 ∧ b = 4)) (fun _ _ => False) (fun _ _ => False) T res.2) (hrec61 : ∀ {T : TT} {x1 : Int32} {x2 : Int32} {x3 : Int32} {x4 : Int32} {x5 : Int32} {x6 : Int32} {x7 : Int32}, rec61 T x1 x2 x3 x4 x5 x6 x7 = some res → Fr (fun a b => (a = 10 ∧ b = 4)) (fun _ _ => False) (fun _ _ => False) T res.2) {T : TT} {x1 : Int32} {x2 : Int32} {x3 : Int32} {x4 : Int32} {x5 : Int32} {x6 : Int32} {x7 : Int32} {x8 : Int32} (h : m_X11_look_b150 rec30 rec61 T x1 x2 x3 x4 x5 x6 x7 x8 = some res) : Fr (fun a b => (a = 10 ∧ b = 4)) (fun _ _ => False) (fun _ _ => False) T res.2 := by
  unfold m_X11_look_b150 at h
  have F0 : Fr (fun a b => (a = 10 ∧ b = 4)) (fun _ _ => False) (fun _ _ => False) T T := Fr.rf
  rcases ifo h with h | h
  · exact F0.trans (fr_X11_look_b164 hrec30 hrec61 h)
  · exact F0.trans (fr_X11_look_b164 hrec30 hrec61 h)
set_option maxHeartbeats 4000000 in
set_option maxRecDepth 100000 in
theorem fr_X11_look_b141 {rec30 : TT → Int32 → Int32 → Int32 → Int32 → Int32 → Option (Int32 × TT)} {rec61 : TT → Int32 → Int32 → Int32 → Int32 → Int32 → Int32 → Int32 → Option (Int32 × TT)} {rec81 : TT → Int32 → Int32 → Int32 → Int32 → Int32 → Int32 → Int32 → Int32 → Int32 → Option (Int32 × TT)} {res : Int32 × TT} (hrec30 : ∀ {T : TT} {x1 : Int32} {x2 : Int32} {x3 : Int32} {x4 : Int32} {x5 : Int32}, rec30 T x1 x2 x3 x4 x5 = some res → Fr (fun a b => (a = 10 ∧ b = 4)) (fun _ _ => False) (fun _ _ => False) T res.2) (hrec61 : ∀ {T : TT} {x1 : Int32} {x2 : Int32} {x3 : Int32} {x4 : Int32} {x5 : Int32} {x6 : Int32} {x7 : Int32}, rec61 T x1 x2 x3 x4 x5 x6 x7 = some res → Fr (fun a b => (a = 10 ∧ b = 4)) (fun _ _ => False) (fun _ _ => False) T res.2) (hrec81 : ∀ {T : TT} {x1 : Int32} {x2 : Int32} {x3 : Int32} {x4 : Int32} {x5 : Int32} {x6 : Int32} {x7 : Int32} {x8 : Int32} {x9 : Int32}, rec81 T x1 x2 x3 x4 x5 x6 x7 x8 x9 = some res → Fr (fun a b => (a = 10 ∧ b = 4)) (fun _ _ => False) (fun _ _ => False) T res.2) {T : TT} {x1 : Int32} {x2 : Int32} {x3 : Int32} {x4 : Int32} {x5 : Int32} {x6 : Int32} {x7 : Int32} {x9 : Int32} {s0 : Int32} {s1 : Int32} (h : m_X11_look_b141 rec30 rec61 rec81 T x1 x2 x3 x4 x5 x6 x7 x9 s0 s1 = some res) : Fr (fun a b => (a = 10 ∧ b = 4)) (fun _ _ => False) (fun _ _ => False) T res.2 := by
  unfold m_X11_look_b141 at h
  have F0 : Fr (fun a b => (a = 10 ∧ b = 4)) (fun _ _ => False) (fun _ _ => False) T T := Fr.rf
  obtain ⟨y17, ey17, h⟩ := bTe h
  obtain ⟨y18, ey18, h⟩ := bTe h
  exact F0.trans (hrec81 h)
set_option maxHeartbeats 4000000 in
set_option maxRecDepth 100000 in
theorem fr_X11_look_b140 {rec30 : TT → Int32 → Int32 → Int32 → Int32 → Int32 → Option (Int32 × TT)} {rec61 : TT → Int32 → Int32 → Int32 → Int32 → Int32 → Int32 → Int32 → Option (Int32 × TT)} {rec81 : TT → Int32 → Int32 → Int32 → Int32 → Int32 → Int32 → Int32 → Int32 → Int32 → Option (Int32 × TT)} {res : Int32 × TT} (hrec30 : ∀ {T : TT} {x1 : Int32} {x2 : Int32} {x3 : Int32} {x4 : Int32} {x5 : Int32}, rec30 T x1 x2 x3 x4 x5 = some res → Fr (fun a b => (a = 10 ∧ b = 4)) (fun _ _ => False) (fun _ _ => False) T res.2) (hrec61 : ∀ {T : TT} {x1 : Int32} {x2 : Int32} {x3 : Int32} {x4 : Int32} {x5 : Int32} {x6 : Int32} {x7 : Int32}, rec61 T x1 x2 x3 x4 x5 x6 x7 = some res → Fr (fun a b => (a = 10 ∧ b = 4)) (fun _ _ => False) (fun _ _ => False) T res.2) (hrec81 : ∀ {T : TT} {x1 : Int32} {x2 : Int32} {x3 : Int32} {x4 : Int32} {x5 : Int32} {x6 : Int32} {x7 : Int32} {x8 : Int32} {x9 : Int32}, rec81 T x1 x2 x3 x4 x5 x6 x7 x8 x9 = some res → Fr (fun a b => (a = 10 ∧ b = 4)) (fun _ _ => False) (fun _ _ => False) T res.2) {T : TT} {x1 : Int32} {x2 : Int32} {x3 : Int32} {x4 : Int32} {x5 : Int32} {x6 : Int32} {x7 : Int32} {x9 : Int32} {s0 : Int32} (h : m_X11_look_b140 rec30 rec61 rec81 T x1 x2 x3 x4 x5 x6 x7 x9 s0 = some res) : Fr (fun a b => (a = 10 ∧ b = 4)) (fun _ _ => False) (fun _ _ => False) T res.2 := by
  unfold m_X11_look_b140 at h
  have F0 : Fr (fun a b => (a = 10 ∧ b = 4)) (fun _ _ => False) (fun _ _ => False) T T := Fr.rf
  exact F0.trans (fr_X11_look_b141 hrec30 hrec61 hrec81 h)
set_option maxHeartbeats 4000000 in
set_option maxRecDepth 100000 in
theorem fr_X11_look_h81 {rec30 : TT → Int32 → Int32 → Int32 → Int32 → Int32 → Option (Int32 × TT)} {rec61 : TT → Int32 → Int32 → Int32 → Int32 → Int32 → Int32 → Int32 → Option (Int32 × TT)} {rec81 : TT → Int32 → Int32 → Int32 → Int32 → Int32 → Int32 → Int32 → Int32 → Int32 → Option (Int32 × TT)} {res : Int32 × TT} (hrec30 : ∀ {T : TT} {x1 : Int32} {x2 : Int32} {x3 : Int32} {x4 : Int32} {x5 : Int32}, rec30 T x1 x2 x3 x4 x5 = some res → Fr (fun a b => (a = 10 ∧ b = 4)) (fun _ _ => False) (fun _ _ => False) T res.2) (hrec61 : ∀ {T : TT} {x1 : Int32} {x2 : Int32} {x3 : Int32} {x4 : Int32} {x5 : Int32} {x6 : Int32} {x7 : Int32}, rec61 T x1 x2 x3 x4 x5 x6 x7 = some res → Fr (fun a b => (a = 10 ∧ b = 4)) (fun _ _ => False) (fun _ _ => False) T res.2) (hrec81 : ∀ {T : TT} {x1 : Int32} {x2 : Int32} {x3 : Int32} {x4 : Int32} {x5 : Int32} {x6 : Int32} {x7 : Int32} {x8 : Int32} {x9 : Int32}, rec81 T x1 x2 x3 x4 x5 x6 x7 x8 x9 = some res → Fr (fun a b => (a = 10 ∧ b = 4)) (fun _ _ => False) (fun _ _ => False) T res.2) {T : TT} {x1 : Int32} {x2 : Int32} {x3 : Int32} {x4 : Int32} {x5 : Int32} {x6 : Int32} {x7 : Int32} {x8 : Int32} {x9 : Int32} (h : m_X11_look_h81 rec30 rec61 rec81 T x1 x2 x3 x4 x5 x6 x7 x8 x9 = some res) : Fr (fun a b => (a = 10 ∧ b = 4)) (fun _ _ => False) (fun _ _ => False) T res.2 := by
  unfold m_X11_look_h81 at h
  have F0 : Fr (fun a b => (a = 10 ∧ b = 4)) (fun _ _ => False) (fun _ _ => False) T T := Fr.rf
  rcases ifo h with h | h
  · exact F0.trans (fr_X11_look_b150 hrec30 hrec61 h)
  · obtain ⟨z10, ez10, h⟩ := bnd h
    rcases ifo h with h | h
    · exact F0.trans (fr_X11_look_b150 hrec30 hrec61 h)
    · obtain ⟨z11, ez11, h⟩ := bnd h
      rcases ifo h with h | h
      · exact F0.trans (fr_X11_look_b140 hrec30 hrec61 hrec81 h)
      · obtain ⟨gi, h⟩ := gd h
        obtain ⟨z12, ez12, h⟩ := bnd h
        rcases ifo h with h | h
        · exact F0.trans (fr_X11_look_b140 hrec30 hrec61 hrec81 h)
        · exact F0.trans (fr_X11_look_b141 hrec30 hrec61 hrec81 h)
set_option maxHeartbeats 4000000 in
set_option maxRecDepth 100000 in
theorem fr_X11_look_l81 {rec30 : TT → Int32 → Int32 → Int32 → Int32 → Int32 → Option (Int32 × TT)} {rec61 : TT → Int32 → Int32 → Int32 → Int32 → Int32 → Int32 → Int32 → Option (Int32 × TT)} {res : Int32 × TT} (hrec30 : ∀ {T : TT} {x1 : Int32} {x2 : Int32} {x3 : Int32} {x4 : Int32} {x5 : Int32}, rec30 T x1 x2 x3 x4 x5 = some res → Fr (fun a b => (a = 10 ∧ b = 4)) (fun _ _ => False) (fun _ _ => False) T res.2) (hrec61 : ∀ {T : TT} {x1 : Int32} {x2 : Int32} {x3 : Int32} {x4 : Int32} {x5 : Int32} {x6 : Int32} {x7 : Int32}, rec61 T x1 x2 x3 x4 x5 x6 x7 = some res → Fr (fun a b => (a = 10 ∧ b = 4)) (fun _ _ => False) (fun _ _ => False) T res.2) : ∀ (n : Nat) {T : TT} {x1 : Int32} {x2 : Int32} {x3 : Int32} {x4 : Int32} {x5 : Int32} {x6 : Int32} {x7 : Int32} {x8 : Int32} {x9 : Int32} (h : m_X11_look_l81 rec30 rec61 n T x1 x2 x3 x4 x5 x6 x7 x8 x9 = some res), Fr (fun a b => (a = 10 ∧ b = 4)) (fun _ _ => False) (fun _ _ => False) T res.2 := by
  intro n
  induction n with
  | zero =>
    intro T x1 x2 x3 x4 x5 x6 x7 x8 x9 h
    exact no_some h
  | succ n ih =>
    intro T x1 x2 x3 x4 x5 x6 x7 x8 x9 h
    have h : m_X11_look_h81 rec30 rec61 (m_X11_look_l81 rec30 rec61 n) T x1 x2 x3 x4 x5 x6 x7 x8 x9 = some res := h
    exact fr_X11_look_h81 (rec81 := m_X11_look_l81 rec30 rec61 n) hrec30 hrec61 (fun h => ih h) h
set_option maxHeartbeats 4000000 in
set_option maxRecDepth 100000 in
theorem fr_X11_look_h61 {rec30 : TT → Int32 → Int32 → Int32 → Int32 → Int32 → Option (Int32 × TT)} {rec61 : TT → Int32 → Int32 → Int32 → Int32 → Int32 → Int32 → Int32 → Option (Int32 × TT)} {res : Int32 × TT} (hrec30 : ∀ {T : TT} {x1 : Int32} {x2 : Int32} {x3 : Int32} {x4 : Int32} {x5 : Int32}, rec30 T x1 x2 x3 x4 x5 = some res → Fr (fun a b => (a = 10 ∧ b = 4)) (fun _ _ => False) (fun _ _ => False) T res.2) (hrec61 : ∀ {T : TT} {x1 : Int32} {x2 : Int32} {x3 : Int32} {x4 : Int32} {x5 : Int32} {x6 : Int32} {x7 : Int32}, rec61 T x1 x2 x3 x4 x5 x6 x7 = some res → Fr (fun a b => (a = 10 ∧ b = 4)) (fun _ _ => False) (fun _ _ => False) T res.2) {T : TT} {x1 : Int32} {x2 : Int32} {x3 : Int32} {x4 : Int32} {x5 : Int32} {x6 : Int32} {x7 : Int32} (h : m_X11_look_h61 rec30 rec61 T x1 x2 x3 x4 x5 x6 x7 = some res) : Fr (fun a b => (a = 10 ∧ b = 4)) (fun _ _ => False) (fun _ _ => False) T res.2 := by
  unfold m_X11_look_h61 at h
  have F0 : Fr (fun a b => (a = 10 ∧ b = 4)) (fun _ _ => False) (fun _ _ => False) T T := Fr.rf
  rcases ifo h with h | h
  · exact F0.trans (fr_X11_look_b172 hrec30 h)
  · rcases ifo h with h | h
    · exact F0.trans (fr_X11_look_b172 hrec30 h)
    · exact F0.trans (fr_X11_look_l81 hrec30 hrec61 _ h)
set_option maxHeartbeats 4000000 in
set_option maxRecDepth 100000 in
theorem fr_X11_look_l61 {rec30 : TT → Int32 → Int32 → Int32 → Int32 → Int32 → Option (Int32 × TT)} {res : Int32 × TT} (hrec30 : ∀ {T : TT} {x1 : Int32} {x2 : Int32} {x3 : Int32} {x4 : Int32} {x5 : Int32}, rec30 T x1 x2 x3 x4 x5 = some res → Fr (fun a b => (a = 10 ∧ b = 4)) (fun _ _ => False) (fun _ _ => False) T res.2) : ∀ (n : Nat) {T : TT} {x1 : Int32} {x2 : Int32} {x3 : Int32} {x4 : Int32} {x5 : Int32} {x6 : Int32} {x7 : Int32} (h : m_X11_look_l61 rec30 n T x1 x2 x3 x4 x5 x6 x7 = some res), Fr (fun a b => (a = 10 ∧ b = 4)) (fun _ _ => False) (fun _ _ => False) T res.2 := by
  intro n
  induction n with
  | zero =>
    intro T x1 x2 x3 x4 x5 x6 x7 h
    exact no_some h
  | succ n ih =>
    intro T x1 x2 x3 x4 x5 x6 x7 h
    have h : m_X11_look_h61 rec30 (m_X11_look_l61 rec30 n) T x1 x2 x3 x4 x5 x6 x7 = some res := h
    exact fr_X11_look_h61 (rec61 := m_X11_look_l61 rec30 n) hrec30 (fun h => ih h) h
set_option maxHeartbeats 4000000 in
set_option maxRecDepth 100000 in
theorem fr_X11_look_b56 {rec30 : TT → Int32 → Int32 → Int32 → Int32 → Int32 → Option (Int32 × TT)} {res : Int32 × TT} (hrec30 : ∀ {T : TT} {x1 : Int32} {x2 : Int32} {x3 : Int32} {x4 : Int32} {x5 : Int32}, rec30 T x1 x2 x3 x4 x5 = some res → Fr (fun a b => (a = 10 ∧ b = 4)) (fun _ _ => False) (fun _ _ => False) T res.2) {T : TT} {x1 : Int32} {x2 : Int32} {x3 : Int32} {x4 : Int32} {x5 : Int32} {s0 : Int32} (h : m_X11_look_b56 rec30 T x1 x2 x3 x4 x5 s0 = some res) : Fr (fun a b => (a = 10 ∧ b = 4)) (fun _ _ => False) (fun _ _ => False) T res.2 := by
  unfold m_X11_look_b56 at h
  have F0 : Fr (fun a b => (a = 10 ∧ b = 4)) (fun _ _ => False) (fun _ _ => False) T T := Fr.rf
  exact F0.trans (fr_X11_look_l61 hrec30 _ h)
set_option maxHeartbeats 4000000 in
set_option maxRecDepth 100000 in
theorem fr_X11_look_h30 {rec30 : TT → Int32 → Int32 → Int32 → Int32 → Int32 → Option (Int32 × TT)} {res : Int32 × TT} (hrec30 : ∀ {T : TT} {x1 : Int32} {x2 : Int32} {x3 : Int32} {x4 : Int32} {x5 : Int32}, rec30 T x1 x2 x3 x4 x5 = some res → Fr (fun a b => (a = 10 ∧ b = 4)) (fun _ _ => False) (fun _ _ => False) T res.2) {T : TT} {x1 : Int32} {x2 : Int32} {x3 : Int32} {x4 : Int32} {x5 : Int32} (h : m_X11_look_h30 rec30 T x1 x2 x3 x4 x5 = some res) : Fr (fun a b => (a = 10 ∧ b = 4)) (fun _ _ => False) (fun _ _ => False) T res.2 := by
  unfold m_X11_look_h30 at h
  have F0 : Fr (fun a b => (a = 10 ∧ b = 4)) (fun _ _ => False) (fun _ _ => False) T T := Fr.rf
  rcases ifo h with h | h
  · have hq := some_i h
    subst hq
    exact F0
  · rcases ifo h with h | h
    · have hq := some_i h
      subst hq
      exact F0
    · rcases ifo h with h | h
      · exact F0.trans (fr_X11_look_b56 hrec30 h)
      · exact F0.trans (fr_X11_look_b56 hrec30 h)
set_option maxHeartbeats 4000000 in
set_option maxRecDepth 100000 in
theorem fr_X11_look_l30 {res : Int32 × TT} : ∀ (n : Nat) {T : TT} {x1 : Int32} {x2 : Int32} {x3 : Int32} {x4 : Int32} {x5 : Int32} (h : m_X11_look_l30 n T x1 x2 x3 x4 x5 = some res), Fr (fun a b => (a = 10 ∧ b = 4)) (fun _ _ => False) (fun _ _ => False) T res.2 := by
  intro n
  induction n with
  | zero =>
    intro T x1 x2 x3 x4 x5 h
    exact no_some h
  | succ n ih =>
    intro T x1 x2 x3 x4 x5 h
    have h : m_X11_look_h30 (m_X11_look_l30 n) T x1 x2 x3 x4 x5 = some res := h
    exact fr_X11_look_h30 (rec30 := m_X11_look_l30 n) (fun h => ih h) h
set_option maxHeartbeats 4000000 in
set_option maxRecDepth 100000 in
theorem fr_X11_look {T : TT} {x1 : Int32} {res : Int32 × TT} (h : m_X11_look T x1 = some res) : Fr (fun a b => (a = 10 ∧ b = 4)) (fun _ _ => False) (fun _ _ => False) T res.2 := by
  unfold m_X11_look at h
  have F0 : Fr (fun a b => (a = 10 ∧ b = 4)) (fun _ _ => False) (fun _ _ => False) T T := Fr.rf
  obtain ⟨z1, ez1, h⟩ := bnd h
  rcases ifo h with h | h
  · obtain ⟨z3, ez3, h⟩ := bnd h
    have Fz3 := F0.trans ((fr_X11_bad ez3).mono (fun a b h => h) (fun a b h => False.elim h) (fun a b h => False.elim h))
    have hq := some_i h
    subst hq
    exact Fz3
  · obtain ⟨z2, ez2, h⟩ := bnd h
    exact F0.trans (fr_X11_look_l30 _ h)
set_option maxHeartbeats 4000000 in
set_option maxRecDepth 100000 in
theorem fr_X11_fits_b106 {rec5 : TT → Int32 → Int32 → Int32 → Int32 → Option (Int32 × TT)} {res : Int32 × TT} (hrec5 : ∀ {T : TT} {x1 : Int32} {x2 : Int32} {x3 : Int32} {x4 : Int32}, rec5 T x1 x2 x3 x4 = some res → Fr (fun _ _ => False) (fun a b => (a = 10 ∧ b = 6) ∨ (a = 10 ∧ b = 7)) (fun _ _ => False) T res.2) {T : TT} {x1 : Int32} {x2 : Int32} {x4 : Int32} {s0 : Int32} (h : m_X11_fits_b106 rec5 T x1 x2 x4 s0 = some res) : Fr (fun _ _ => False) (fun a b => (a = 10 ∧ b = 6) ∨ (a = 10 ∧ b = 7)) (fun _ _ => False) T res.2 := by
  unfold m_X11_fits_b106 at h
  have F0 : Fr (fun _ _ => False) (fun a b => (a = 10 ∧ b = 6) ∨ (a = 10 ∧ b = 7)) (fun _ _ => False) T T := Fr.rf
  obtain ⟨y12, ey12, h⟩ := bTe h
  exact F0.trans (hrec5 h)
set_option maxHeartbeats 4000000 in
set_option maxRecDepth 100000 in
theorem fr_X11_fits_b105 {rec5 : TT → Int32 → Int32 → Int32 → Int32 → Option (Int32 × TT)} {res : Int32 × TT} (hrec5 : ∀ {T : TT} {x1 : Int32} {x2 : Int32} {x3 : Int32} {x4 : Int32}, rec5 T x1 x2 x3 x4 = some res → Fr (fun _ _ => False) (fun a b => (a = 10 ∧ b = 6) ∨ (a = 10 ∧ b = 7)) (fun _ _ => False) T res.2) {T : TT} {x1 : Int32} {x2 : Int32} {x4 : Int32} (h : m_X11_fits_b105 rec5 T x1 x2 x4 = some res) : Fr (fun _ _ => False) (fun a b => (a = 10 ∧ b = 6) ∨ (a = 10 ∧ b = 7)) (fun _ _ => False) T res.2 := by
  unfold m_X11_fits_b105 at h
  have F0 : Fr (fun _ _ => False) (fun a b => (a = 10 ∧ b = 6) ∨ (a = 10 ∧ b = 7)) (fun _ _ => False) T T := Fr.rf
  exact F0.trans (fr_X11_fits_b106 hrec5 h)
set_option maxHeartbeats 4000000 in
set_option maxRecDepth 100000 in
theorem fr_X11_fits_b101 {rec5 : TT → Int32 → Int32 → Int32 → Int32 → Option (Int32 × TT)} {res : Int32 × TT} (hrec5 : ∀ {T : TT} {x1 : Int32} {x2 : Int32} {x3 : Int32} {x4 : Int32}, rec5 T x1 x2 x3 x4 = some res → Fr (fun _ _ => False) (fun a b => (a = 10 ∧ b = 6) ∨ (a = 10 ∧ b = 7)) (fun _ _ => False) T res.2) {T : TT} {x1 : Int32} {x2 : Int32} {x4 : Int32} (h : m_X11_fits_b101 rec5 T x1 x2 x4 = some res) : Fr (fun _ _ => False) (fun a b => (a = 10 ∧ b = 6) ∨ (a = 10 ∧ b = 7)) (fun _ _ => False) T res.2 := by
  unfold m_X11_fits_b101 at h
  have F0 : Fr (fun _ _ => False) (fun a b => (a = 10 ∧ b = 6) ∨ (a = 10 ∧ b = 7)) (fun _ _ => False) T T := Fr.rf
  exact F0.trans (fr_X11_fits_b106 hrec5 h)
set_option maxHeartbeats 4000000 in
set_option maxRecDepth 100000 in
theorem fr_X11_fits_h38 {rec5 : TT → Int32 → Int32 → Int32 → Int32 → Option (Int32 × TT)} {rec38 : TT → Int32 → Int32 → Int32 → Int32 → Int32 → Int32 → Option (Int32 × TT)} {res : Int32 × TT} (hrec5 : ∀ {T : TT} {x1 : Int32} {x2 : Int32} {x3 : Int32} {x4 : Int32}, rec5 T x1 x2 x3 x4 = some res → Fr (fun _ _ => False) (fun a b => (a = 10 ∧ b = 6) ∨ (a = 10 ∧ b = 7)) (fun _ _ => False) T res.2) (hrec38 : ∀ {T : TT} {x1 : Int32} {x2 : Int32} {x3 : Int32} {x4 : Int32} {x5 : Int32} {x6 : Int32}, rec38 T x1 x2 x3 x4 x5 x6 = some res → Fr (fun _ _ => False) (fun a b => (a = 10 ∧ b = 6) ∨ (a = 10 ∧ b = 7)) (fun _ _ => False) T res.2) {T : TT} {x1 : Int32} {x2 : Int32} {x3 : Int32} {x4 : Int32} {x5 : Int32} {x6 : Int32} (h : m_X11_fits_h38 rec5 rec38 T x1 x2 x3 x4 x5 x6 = some res) : Fr (fun _ _ => False) (fun a b => (a = 10 ∧ b = 6) ∨ (a = 10 ∧ b = 7)) (fun _ _ => False) T res.2 := by
  unfold m_X11_fits_h38 at h
  have F0 : Fr (fun _ _ => False) (fun a b => (a = 10 ∧ b = 6) ∨ (a = 10 ∧ b = 7)) (fun _ _ => False) T T := Fr.rf
  obtain ⟨gi, h⟩ := gd h
  rcases ifo h with h | h
  · rcases ifo h with h | h
    · exact F0.trans (fr_X11_fits_b105 hrec5 h)
    · obtain ⟨gi, h⟩ := gd h
      rcases ifo h with h | h
      · obtain ⟨gi, h⟩ := gd h
        rcases ifo h with h | h
        · exact F0.trans (fr_X11_fits_b101 hrec5 h)
        · exact F0.trans (fr_X11_fits_b105 hrec5 h)
      · exact F0.trans (fr_X11_fits_b101 hrec5 h)
  · obtain ⟨z8, ez8, h⟩ := bnd h
    obtain ⟨z9, ez9, h⟩ := bnd h
    have Fz9 := F0.trans ((fr_X11_goDay ez9).mono (fun a b h => False.elim h) (fun a b h => h) (fun a b h => False.elim h))
    obtain ⟨y10, ey10, h⟩ := bTe h
    exact Fz9.trans (hrec38 h)
set_option maxHeartbeats 4000000 in
set_option maxRecDepth 100000 in
theorem fr_X11_fits_l38 {rec5 : TT → Int32 → Int32 → Int32 → Int32 → Option (Int32 × TT)} {res : Int32 × TT} (hrec5 : ∀ {T : TT} {x1 : Int32} {x2 : Int32} {x3 : Int32} {x4 : Int32}, rec5 T x1 x2 x3 x4 = some res → Fr (fun _ _ => False) (fun a b => (a = 10 ∧ b = 6) ∨ (a = 10 ∧ b = 7)) (fun _ _ => False) T res.2) : ∀ (n : Nat) {T : TT} {x1 : Int32} {x2 : Int32} {x3 : Int32} {x4 : Int32} {x5 : Int32} {x6 : Int32} (h : m_X11_fits_l38 rec5 n T x1 x2 x3 x4 x5 x6 = some res), Fr (fun _ _ => False) (fun a b => (a = 10 ∧ b = 6) ∨ (a = 10 ∧ b = 7)) (fun _ _ => False) T res.2 := by
  intro n
  induction n with
  | zero =>
    intro T x1 x2 x3 x4 x5 x6 h
    exact no_some h
  | succ n ih =>
    intro T x1 x2 x3 x4 x5 x6 h
    have h : m_X11_fits_h38 rec5 (m_X11_fits_l38 rec5 n) T x1 x2 x3 x4 x5 x6 = some res := h
    exact fr_X11_fits_h38 (rec38 := m_X11_fits_l38 rec5 n) hrec5 (fun h => ih h) h
set_option maxHeartbeats 4000000 in
set_option maxRecDepth 100000 in
theorem fr_X11_fits_h5 {rec5 : TT → Int32 → Int32 → Int32 → Int32 → Option (Int32 × TT)} {res : Int32 × TT} (hrec5 : ∀ {T : TT} {x1 : Int32} {x2 : Int32} {x3 : Int32} {x4 : Int32}, rec5 T x1 x2 x3 x4 = some res → Fr (fun _ _ => False) (fun a b => (a = 10 ∧ b = 6) ∨ (a = 10 ∧ b = 7)) (fun _ _ => False) T res.2) {T : TT} {x1 : Int32} {x2 : Int32} {x3 : Int32} {x4 : Int32} (h : m_X11_fits_h5 rec5 T x1 x2 x3 x4 = some res) : Fr (fun _ _ => False) (fun a b => (a = 10 ∧ b = 6) ∨ (a = 10 ∧ b = 7)) (fun _ _ => False) T res.2 := by
  unfold m_X11_fits_h5 at h
  have F0 : Fr (fun _ _ => False) (fun a b => (a = 10 ∧ b = 6) ∨ (a = 10 ∧ b = 7)) (fun _ _ => False) T T := Fr.rf
  rcases ifo h with h | h
  · obtain ⟨gi, h⟩ := gd h
    have hq := some_i h
    subst hq
    exact F0
  · obtain ⟨y1, ey1, h⟩ := bTe h
    obtain ⟨T2, eT2, h⟩ := bTe h
    have FT2 := (F0.wI eT2 (Or.inl ⟨rfl, rfl⟩))
    obtain ⟨T3, eT3, h⟩ := bTe h
    have FT3 := (FT2.wI eT3 (Or.inr ⟨rfl, rfl⟩))
    exact FT3.trans (fr_X11_fits_l38 hrec5 _ h)
set_option maxHeartbeats 4000000 in
set_option maxRecDepth 100000 in
theorem fr_X11_fits_l5 {res : Int32 × TT} : ∀ (n : Nat) {T : TT} {x1 : Int32} {x2 : Int32} {x3 : Int32} {x4 : Int32} (h : m_X11_fits_l5 n T x1 x2 x3 x4 = some res), Fr (fun _ _ => False) (fun a b => (a = 10 ∧ b = 6) ∨ (a = 10 ∧ b = 7)) (fun _ _ => False) T res.2 := by
  intro n
  induction n with
  | zero =>
    intro T x1 x2 x3 x4 h
    exact no_some h
  | succ n ih =>
    intro T x1 x2 x3 x4 h
    have h : m_X11_fits_h5 (m_X11_fits_l5 n) T x1 x2 x3 x4 = some res := h
    exact fr_X11_fits_h5 (rec5 := m_X11_fits_l5 n) (fun h => ih h) h
set_option maxHeartbeats 4000000 in
set_option maxRecDepth 100000 in
theorem fr_X11_fits {T : TT} {x1 : Int32} {x2 : Int32} {res : Int32 × TT} (h : m_X11_fits T x1 x2 = some res) : Fr (fun _ _ => False) (fun a b => (a = 10 ∧ b = 6) ∨ (a = 10 ∧ b = 7)) (fun _ _ => False) T res.2 := by
  unfold m_X11_fits at h
  have F0 : Fr (fun _ _ => False) (fun a b => (a = 10 ∧ b = 6) ∨ (a = 10 ∧ b = 7)) (fun _ _ => False) T T := Fr.rf
  exact F0.trans (fr_X11_fits_l5 _ h)
set_option maxHeartbeats 4000000 in
set_option maxRecDepth 100000 in
theorem fr_X11_had_b66 {rec33 : TT → Int32 → Int32 → Int32 → Int32 → Int32 → Option (Int32 × TT)} {res : Int32 × TT} (hrec33 : ∀ {T : TT} {x1 : Int32} {x2 : Int32} {x3 : Int32} {x4 : Int32} {x5 : Int32}, rec33 T x1 x2 x3 x4 x5 = some res → Fr (fun a b => (a = 10 ∧ b = 4)) (fun a b => (a = 10 ∧ b = 6) ∨ (a = 10 ∧ b = 7)) (fun _ _ => False) T res.2) {T : TT} {x1 : Int32} {x2 : Int32} {x3 : Int32} {x4 : Int32} {x5 : Int32} (h : m_X11_had_b66 rec33 T x1 x2 x3 x4 x5 = some res) : Fr (fun a b => (a = 10 ∧ b = 4)) (fun a b => (a = 10 ∧ b = 6) ∨ (a = 10 ∧ b = 7)) (fun _ _ => False) T res.2 := by
  unfold m_X11_had_b66 at h
  have F0 : Fr (fun a b => (a = 10 ∧ b = 4)) (fun a b => (a = 10 ∧ b = 6) ∨ (a = 10 ∧ b = 7)) (fun _ _ => False) T T := Fr.rf
  obtain ⟨y11, ey11, h⟩ := bTe h
  exact F0.trans (hrec33 h)
set_option maxHeartbeats 4000000 in
set_option maxRecDepth 100000 in
theorem fr_X11_had_b61 {rec33 : TT → Int32 → Int32 → Int32 → Int32 → Int32 → Option (Int32 × TT)} {res : Int32 × TT} (hrec33 : ∀ {T : TT} {x1 : Int32} {x2 : Int32} {x3 : Int32} {x4 : Int32} {x5 : Int32}, rec33 T x1 x2 x3 x4 x5 = some res → Fr (fun a b => (a = 10 ∧ b = 4)) (fun a b => (a = 10 ∧ b = 6) ∨ (a = 10 ∧ b = 7)) (fun _ _ => False) T res.2) {T : TT} {x1 : Int32} {x2 : Int32} {x3 : Int32} {x5 : Int32} {s0 : Int32} (h : m_X11_had_b61 rec33 T x1 x2 x3 x5 s0 = some res) : Fr (fun a b => (a = 10 ∧ b = 4)) (fun a b => (a = 10 ∧ b = 6) ∨ (a = 10 ∧ b = 7)) (fun _ _ => False) T res.2 := by
  unfold m_X11_had_b61 at h
  have F0 : Fr (fun a b => (a = 10 ∧ b = 4)) (fun a b => (a = 10 ∧ b = 6) ∨ (a = 10 ∧ b = 7)) (fun _ _ => False) T T := Fr.rf
  obtain ⟨y10, ey10, h⟩ := bTe h
  exact F0.trans (fr_X11_had_b66 hrec33 h)
set_option maxHeartbeats 4000000 in
set_option maxRecDepth 100000 in
theorem fr_X11_had_h33 {rec33 : TT → Int32 → Int32 → Int32 → Int32 → Int32 → Option (Int32 × TT)} {res : Int32 × TT} (hrec33 : ∀ {T : TT} {x1 : Int32} {x2 : Int32} {x3 : Int32} {x4 : Int32} {x5 : Int32}, rec33 T x1 x2 x3 x4 x5 = some res → Fr (fun a b => (a = 10 ∧ b = 4)) (fun a b => (a = 10 ∧ b = 6) ∨ (a = 10 ∧ b = 7)) (fun _ _ => False) T res.2) {T : TT} {x1 : Int32} {x2 : Int32} {x3 : Int32} {x4 : Int32} {x5 : Int32} (h : m_X11_had_h33 rec33 T x1 x2 x3 x4 x5 = some res) : Fr (fun a b => (a = 10 ∧ b = 4)) (fun a b => (a = 10 ∧ b = 6) ∨ (a = 10 ∧ b = 7)) (fun _ _ => False) T res.2 := by
  unfold m_X11_had_h33 at h
  have F0 : Fr (fun a b => (a = 10 ∧ b = 4)) (fun a b => (a = 10 ∧ b = 6) ∨ (a = 10 ∧ b = 7)) (fun _ _ => False) T T := Fr.rf
  rcases ifo h with h | h
  · rcases ifo h with h | h
    · have hq := some_i h
      subst hq
      exact F0
    · have hq := some_i h
      subst hq
      exact F0
  · obtain ⟨z6, ez6, h⟩ := bnd h
    have Fz6 := F0.trans ((fr_X11_fits ez6).mono (fun a b h => False.elim h) (fun a b h => h) (fun a b h => False.elim h))
    rcases ifo h with h | h
    · exact Fz6.trans (fr_X11_had_b66 hrec33 h)
    · rcases ifo h with h | h
      · exact Fz6.trans (fr_X11_had_b61 hrec33 h)
      · exact Fz6.trans (fr_X11_had_b61 hrec33 h)
set_option maxHeartbeats 4000000 in
set_option maxRecDepth 100000 in
theorem fr_X11_had_l33 {res : Int32 × TT} : ∀ (n : Nat) {T : TT} {x1 : Int32} {x2 : Int32} {x3 : Int32} {x4 : Int32} {x5 : Int32} (h : m_X11_had_l33 n T x1 x2 x3 x4 x5 = some res), Fr (fun a b => (a = 10 ∧ b = 4)) (fun a b => (a = 10 ∧ b = 6) ∨ (a = 10 ∧ b = 7)) (fun _ _ => False) T res.2 := by
  intro n
  induction n with
  | zero =>
    intro T x1 x2 x3 x4 x5 h
    exact no_some h
  | succ n ih =>
    intro T x1 x2 x3 x4 x5 h
    have h : m_X11_had_h33 (m_X11_had_l33 n) T x1 x2 x3 x4 x5 = some res := h
    exact fr_X11_had_h33 (rec33 := m_X11_had_l33 n) (fun h => ih h) h
set_option maxHeartbeats 4000000 in
set_option maxRecDepth 100000 in
theorem fr_X11_had_b18 {res : Int32 × TT} {T : TT} (h : m_X11_had_b18 T = some res) : Fr (fun a b => (a = 10 ∧ b = 4)) (fun a b => (a = 10 ∧ b = 6) ∨ (a = 10 ∧ b = 7)) (fun _ _ => False) T res.2 := by
  unfold m_X11_had_b18 at h
  have F0 : Fr (fun a b => (a = 10 ∧ b = 4)) (fun a b => (a = 10 ∧ b = 6) ∨ (a = 10 ∧ b = 7)) (fun _ _ => False) T T := Fr.rf
  obtain ⟨z12, ez12, h⟩ := bnd h
  have Fz12 := F0.trans ((fr_X11_bad ez12).mono (fun a b h => h) (fun a b h => False.elim h) (fun a b h => False.elim h))
  have hq := some_i h
  subst hq
  exact Fz12
set_option maxHeartbeats 4000000 in
set_option maxRecDepth 100000 in
theorem fr_X11_had {T : TT} {x1 : Int32} {x2 : Int32} {res : Int32 × TT} (h : m_X11_had T x1 x2 = some res) : Fr (fun a b => (a = 10 ∧ b = 4)) (fun a b => (a = 10 ∧ b = 6) ∨ (a = 10 ∧ b = 7)) (fun _ _ => False) T res.2 := by
  unfold m_X11_had at h
  have F0 : Fr (fun a b => (a = 10 ∧ b = 4)) (fun a b => (a = 10 ∧ b = 6) ∨ (a = 10 ∧ b = 7)) (fun _ _ => False) T T := Fr.rf
  obtain ⟨z1, ez1, h⟩ := bnd h
  rcases ifo h with h | h
  · exact F0.trans (fr_X11_had_b18 h)
  · obtain ⟨z2, ez2, h⟩ := bnd h
    rcases ifo h with h | h
    · exact F0.trans (fr_X11_had_b18 h)
    · exact F0.trans (fr_X11_had_l33 _ h)
set_option maxHeartbeats 4000000 in
set_option maxRecDepth 100000 in
theorem fr_X11_fares_b134 {rec33 : TT → Int32 → Int32 → Int32 → Int32 → Option (Int32 × TT)} {res : Int32 × TT} (hrec33 : ∀ {T : TT} {x1 : Int32} {x2 : Int32} {x3 : Int32} {x4 : Int32}, rec33 T x1 x2 x3 x4 = some res → Fr (fun a b => (a = 10 ∧ b = 4)) (fun _ _ => False) (fun _ _ => False) T res.2) {T : TT} {x1 : Int32} {x2 : Int32} {x4 : Int32} {s0 : Int32} {s1 : Int32} (h : m_X11_fares_b134 rec33 T x1 x2 x4 s0 s1 = some res) : Fr (fun a b => (a = 10 ∧ b = 4)) (fun _ _ => False) (fun _ _ => False) T res.2 := by
  unfold m_X11_fares_b134 at h
  have F0 : Fr (fun a b => (a = 10 ∧ b = 4)) (fun _ _ => False) (fun _ _ => False) T T := Fr.rf
  obtain ⟨y18, ey18, h⟩ := bTe h
  obtain ⟨y19, ey19, h⟩ := bTe h
  exact F0.trans (hrec33 h)
set_option maxHeartbeats 4000000 in
set_option maxRecDepth 100000 in
theorem fr_X11_fares_b118 {rec33 : TT → Int32 → Int32 → Int32 → Int32 → Option (Int32 × TT)} {res : Int32 × TT} (hrec33 : ∀ {T : TT} {x1 : Int32} {x2 : Int32} {x3 : Int32} {x4 : Int32}, rec33 T x1 x2 x3 x4 = some res → Fr (fun a b => (a = 10 ∧ b = 4)) (fun _ _ => False) (fun _ _ => False) T res.2) {T : TT} {x1 : Int32} {x2 : Int32} {x3 : Int32} {x4 : Int32} {s0 : Int32} (h : m_X11_fares_b118 rec33 T x1 x2 x3 x4 s0 = some res) : Fr (fun a b => (a = 10 ∧ b = 4)) (fun _ _ => False) (fun _ _ => False) T res.2 := by
  unfold m_X11_fares_b118 at h
  have F0 : Fr (fun a b => (a = 10 ∧ b = 4)) (fun _ _ => False) (fun _ _ => False) T T := Fr.rf
  rcases ifo h with h | h
  · exact F0.trans (fr_X11_fares_b134 hrec33 h)
  · exact F0.trans (fr_X11_fares_b134 hrec33 h)
set_option maxHeartbeats 4000000 in
set_option maxRecDepth 100000 in
theorem fr_X11_fares_b117 {rec33 : TT → Int32 → Int32 → Int32 → Int32 → Option (Int32 × TT)} {res : Int32 × TT} (hrec33 : ∀ {T : TT} {x1 : Int32} {x2 : Int32} {x3 : Int32} {x4 : Int32}, rec33 T x1 x2 x3 x4 = some res → Fr (fun a b => (a = 10 ∧ b = 4)) (fun _ _ => False) (fun _ _ => False) T res.2) {T : TT} {x1 : Int32} {x2 : Int32} {x3 : Int32} {x4 : Int32} (h : m_X11_fares_b117 rec33 T x1 x2 x3 x4 = some res) : Fr (fun a b => (a = 10 ∧ b = 4)) (fun _ _ => False) (fun _ _ => False) T res.2 := by
  unfold m_X11_fares_b117 at h
  have F0 : Fr (fun a b => (a = 10 ∧ b = 4)) (fun _ _ => False) (fun _ _ => False) T T := Fr.rf
  exact F0.trans (fr_X11_fares_b118 hrec33 h)
set_option maxHeartbeats 4000000 in
set_option maxRecDepth 100000 in
theorem fr_X11_fares_b105 {rec33 : TT → Int32 → Int32 → Int32 → Int32 → Option (Int32 × TT)} {res : Int32 × TT} (hrec33 : ∀ {T : TT} {x1 : Int32} {x2 : Int32} {x3 : Int32} {x4 : Int32}, rec33 T x1 x2 x3 x4 = some res → Fr (fun a b => (a = 10 ∧ b = 4)) (fun _ _ => False) (fun _ _ => False) T res.2) {T : TT} {x1 : Int32} {x2 : Int32} {x3 : Int32} {x4 : Int32} {x5 : Int32} {s0 : Int32} {s2 : Int32} {s3 : Int32} (h : m_X11_fares_b105 rec33 T x1 x2 x3 x4 x5 s0 s2 s3 = some res) : Fr (fun a b => (a = 10 ∧ b = 4)) (fun _ _ => False) (fun _ _ => False) T res.2 := by
  unfold m_X11_fares_b105 at h
  have F0 : Fr (fun a b => (a = 10 ∧ b = 4)) (fun _ _ => False) (fun _ _ => False) T T := Fr.rf
  obtain ⟨z15, ez15, h⟩ := bnd h
  rcases ifo h with h | h
  · exact F0.trans (fr_X11_fares_b117 hrec33 h)
  · exact F0.trans (fr_X11_fares_b118 hrec33 h)
set_option maxHeartbeats 4000000 in
set_option maxRecDepth 100000 in
theorem fr_X11_fares_b76 {rec33 : TT → Int32 → Int32 → Int32 → Int32 → Option (Int32 × TT)} {res : Int32 × TT} (hrec33 : ∀ {T : TT} {x1 : Int32} {x2 : Int32} {x3 : Int32} {x4 : Int32}, rec33 T x1 x2 x3 x4 = some res → Fr (fun a b => (a = 10 ∧ b = 4)) (fun _ _ => False) (fun _ _ => False) T res.2) {T : TT} {x1 : Int32} {x2 : Int32} {x3 : Int32} {x4 : Int32} {x5 : Int32} {x6 : Int32} {s0 : Int32} {s2 : Int32} {s3 : Int32} (h : m_X11_fares_b76 rec33 T x1 x2 x3 x4 x5 x6 s0 s2 s3 = some res) : Fr (fun a b => (a = 10 ∧ b = 4)) (fun _ _ => False) (fun _ _ => False) T res.2 := by
  unfold m_X11_fares_b76 at h
  have F0 : Fr (fun a b => (a = 10 ∧ b = 4)) (fun _ _ => False) (fun _ _ => False) T T := Fr.rf
  obtain ⟨z11, ez11, h⟩ := bnd h
  rcases ifo h with h | h
  · exact F0.trans (fr_X11_fares_b117 hrec33 h)
  · obtain ⟨z12, ez12, h⟩ := bnd h
    rcases ifo h with h | h
    · exact F0.trans (fr_X11_fares_b105 hrec33 h)
    · exact F0.trans (fr_X11_fares_b105 hrec33 h)
set_option maxHeartbeats 4000000 in
set_option maxRecDepth 100000 in
theorem fr_X11_fares_h33 {rec33 : TT → Int32 → Int32 → Int32 → Int32 → Option (Int32 × TT)} {res : Int32 × TT} (hrec33 : ∀ {T : TT} {x1 : Int32} {x2 : Int32} {x3 : Int32} {x4 : Int32}, rec33 T x1 x2 x3 x4 = some res → Fr (fun a b => (a = 10 ∧ b = 4)) (fun _ _ => False) (fun _ _ => False) T res.2) {T : TT} {x1 : Int32} {x2 : Int32} {x3 : Int32} {x4 : Int32} (h : m_X11_fares_h33 rec33 T x1 x2 x3 x4 = some res) : Fr (fun a b => (a = 10 ∧ b = 4)) (fun _ _ => False) (fun _ _ => False) T res.2 := by
  unfold m_X11_fares_h33 at h
  have F0 : Fr (fun a b => (a = 10 ∧ b = 4)) (fun _ _ => False) (fun _ _ => False) T T := Fr.rf
  rcases ifo h with h | h
  · have hq := some_i h
    subst hq
    exact F0
  · obtain ⟨z6, ez6, h⟩ := bnd h
    obtain ⟨z7, ez7, h⟩ := bnd h
    obtain ⟨z8, ez8, h⟩ := bnd h
    rcases ifo h with h | h
    · exact F0.trans (fr_X11_fares_b76 hrec33 h)
    · exact F0.trans (fr_X11_fares_b76 hrec33 h)
set_option maxHeartbeats 4000000 in
set_option maxRecDepth 100000 in
theorem fr_X11_fares_l33 {res : Int32 × TT} : ∀ (n : Nat) {T : TT} {x1 : Int32} {x2 : Int32} {x3 : Int32} {x4 : Int32} (h : m_X11_fares_l33 n T x1 x2 x3 x4 = some res), Fr (fun a b => (a = 10 ∧ b = 4)) (fun _ _ => False) (fun _ _ => False) T res.2 := by
  intro n
  induction n with
  | zero =>
    intro T x1 x2 x3 x4 h
    exact no_some h
  | succ n ih =>
    intro T x1 x2 x3 x4 h
    have h : m_X11_fares_h33 (m_X11_fares_l33 n) T x1 x2 x3 x4 = some res := h
    exact fr_X11_fares_h33 (rec33 := m_X11_fares_l33 n) (fun h => ih h) h
set_option maxHeartbeats 4000000 in
set_option maxRecDepth 100000 in
theorem fr_X11_fares_b21 {res : Int32 × TT} {T : TT} (h : m_X11_fares_b21 T = some res) : Fr (fun a b => (a = 10 ∧ b = 4)) (fun _ _ => False) (fun _ _ => False) T res.2 := by
  unfold m_X11_fares_b21 at h
  have F0 : Fr (fun a b => (a = 10 ∧ b = 4)) (fun _ _ => False) (fun _ _ => False) T T := Fr.rf
  obtain ⟨z20, ez20, h⟩ := bnd h
  have Fz20 := F0.trans ((fr_X11_bad ez20).mono (fun a b h => h) (fun a b h => False.elim h) (fun a b h => False.elim h))
  have hq := some_i h
  subst hq
  exact Fz20
set_option maxHeartbeats 4000000 in
set_option maxRecDepth 100000 in
theorem fr_X11_fares {T : TT} {x1 : Int32} {x2 : Int32} {res : Int32 × TT} (h : m_X11_fares T x1 x2 = some res) : Fr (fun a b => (a = 10 ∧ b = 4)) (fun _ _ => False) (fun _ _ => False) T res.2 := by
  unfold m_X11_fares at h
  have F0 : Fr (fun a b => (a = 10 ∧ b = 4)) (fun _ _ => False) (fun _ _ => False) T T := Fr.rf
  obtain ⟨z1, ez1, h⟩ := bnd h
  rcases ifo h with h | h
  · exact F0.trans (fr_X11_fares_b21 h)
  · obtain ⟨z2, ez2, h⟩ := bnd h
    rcases ifo h with h | h
    · exact F0.trans (fr_X11_fares_b21 h)
    · rcases ifo h with h | h
      · exact F0.trans (fr_X11_fares_b21 h)
      · exact F0.trans (fr_X11_fares_l33 _ h)
set_option maxHeartbeats 4000000 in
set_option maxRecDepth 100000 in
theorem fr_X11_fraction_h6 {rec6 : TT → Int64 → Int64 → Int64 → Int64 → Option (TT)} {res : TT} (hrec6 : ∀ {T : TT} {x1 : Int64} {x3 : Int64} {x5 : Int64} {x7 : Int64}, rec6 T x1 x3 x5 x7 = some res → Fr (fun _ _ => False) (fun _ _ => False) (fun a b => (a = 10 ∧ b = 4) ∨ (a = 10 ∧ b = 5)) T res) {T : TT} {x1 : Int64} {x3 : Int64} {x5 : Int64} {x7 : Int64} (h : m_X11_fraction_h6 rec6 T x1 x3 x5 x7 = some res) : Fr (fun _ _ => False) (fun _ _ => False) (fun a b => (a = 10 ∧ b = 4) ∨ (a = 10 ∧ b = 5)) T res := by
  unfold m_X11_fraction_h6 at h
  have F0 : Fr (fun _ _ => False) (fun _ _ => False) (fun a b => (a = 10 ∧ b = 4) ∨ (a = 10 ∧ b = 5)) T T := Fr.rf
  rcases ifo h with h | h
  · obtain ⟨-, h⟩ := gdn h
    obtain ⟨T1, eT1, h⟩ := bTe h
    have FT1 := (F0.wL eT1 (Or.inl ⟨rfl, rfl⟩))
    obtain ⟨-, h⟩ := gdn h
    obtain ⟨T2, eT2, h⟩ := bTe h
    have FT2 := (FT1.wL eT2 (Or.inr ⟨rfl, rfl⟩))
    have hq := some_i h
    subst hq
    exact FT2
  · obtain ⟨-, h⟩ := gdn h
    obtain ⟨y3, ey3, h⟩ := bTe h
    exact F0.trans (hrec6 h)
set_option maxHeartbeats 4000000 in
set_option maxRecDepth 100000 in
theorem fr_X11_fraction_l6 {res : TT} : ∀ (n : Nat) {T : TT} {x1 : Int64} {x3 : Int64} {x5 : Int64} {x7 : Int64} (h : m_X11_fraction_l6 n T x1 x3 x5 x7 = some res), Fr (fun _ _ => False) (fun _ _ => False) (fun a b => (a = 10 ∧ b = 4) ∨ (a = 10 ∧ b = 5)) T res := by
  intro n
  induction n with
  | zero =>
    intro T x1 x3 x5 x7 h
    exact no_some h
  | succ n ih =>
    intro T x1 x3 x5 x7 h
    have h : m_X11_fraction_h6 (m_X11_fraction_l6 n) T x1 x3 x5 x7 = some res := h
    exact fr_X11_fraction_h6 (rec6 := m_X11_fraction_l6 n) (fun h => ih h) h
set_option maxHeartbeats 4000000 in
set_option maxRecDepth 100000 in
theorem fr_X11_fraction {T : TT} {x1 : Int64} {x3 : Int64} {res : TT} (h : m_X11_fraction T x1 x3 = some res) : Fr (fun _ _ => False) (fun _ _ => False) (fun a b => (a = 10 ∧ b = 4) ∨ (a = 10 ∧ b = 5)) T res := by
  unfold m_X11_fraction at h
  have F0 : Fr (fun _ _ => False) (fun _ _ => False) (fun a b => (a = 10 ∧ b = 4) ∨ (a = 10 ∧ b = 5)) T T := Fr.rf
  exact F0.trans (fr_X11_fraction_l6 _ h)
set_option maxHeartbeats 4000000 in
set_option maxRecDepth 100000 in
theorem fr_X11_starts_b152 {rec71 : TT → Int32 → Int32 → Int32 → Int64 → Int64 → Int32 → Option (Int32 × TT)} {rec90 : TT → Int32 → Int32 → Int32 → Int64 → Int64 → Int32 → Int64 → Int32 → Option (Int32 × TT)} {res : Int32 × TT} (hrec71 : ∀ {T : TT} {x1 : Int32} {x2 : Int32} {x3 : Int32} {x4 : Int64} {x6 : Int64} {x8 : Int32}, rec71 T x1 x2 x3 x4 x6 x8 = some res → Fr (fun a b => (a = 10 ∧ b = 4)) (fun a b => (a = 10 ∧ b = 6) ∨ (a = 10 ∧ b = 7)) (fun a b => (a = 10 ∧ b = 4) ∨ (a = 10 ∧ b = 5)) T res.2) (hrec90 : ∀ {T : TT} {x1 : Int32} {x2 : Int32} {x3 : Int32} {x4 : Int64} {x6 : Int64} {x8 : Int32} {x9 : Int64} {x11 : Int32}, rec90 T x1 x2 x3 x4 x6 x8 x9 x11 = some res → Fr (fun a b => (a = 10 ∧ b = 4)) (fun a b => (a = 10 ∧ b = 6) ∨ (a = 10 ∧ b = 7)) (fun a b => (a = 10 ∧ b = 4) ∨ (a = 10 ∧ b = 5)) T res.2) {T : TT} {x1 : Int32} {x2 : Int32} {x3 : Int32} {x4 : Int64} {x6 : Int64} {x8 : Int32} {x9 : Int64} {x11 : Int32} {s1 : Int32} {s2 : Int32} {s3 : Int32} (h : m_X11_starts_b152 rec71 rec90 T x1 x2 x3 x4 x6 x8 x9 x11 s1 s2 s3 = some res) : Fr (fun a b => (a = 10 ∧ b = 4)) (fun a b => (a = 10 ∧ b = 6) ∨ (a = 10 ∧ b = 7)) (fun a b => (a = 10 ∧ b = 4) ∨ (a = 10 ∧ b = 5)) T res.2 := by
  unfold m_X11_starts_b152 at h
  have F0 : Fr (fun a b => (a = 10 ∧ b = 4)) (fun a b => (a = 10 ∧ b = 6) ∨ (a = 10 ∧ b = 7)) (fun a b => (a = 10 ∧ b = 4) ∨ (a = 10 ∧ b = 5)) T T := Fr.rf
  obtain ⟨z22, ez22, h⟩ := bnd h
  have Fz22 := F0.trans ((fr_X11_goDay ez22).mono (fun a b h => False.elim h) (fun a b h => h) (fun a b h => False.elim h))
  obtain ⟨y23, ey23, h⟩ := bTe h
  exact Fz22.trans (hrec90 h)
set_option maxHeartbeats 4000000 in
set_option maxRecDepth 100000 in
theorem fr_X11_starts_b118 {rec71 : TT → Int32 → Int32 → Int32 → Int64 → Int64 → Int32 → Option (Int32 × TT)} {rec90 : TT → Int32 → Int32 → Int32 → Int64 → Int64 → Int32 → Int64 → Int32 → Option (Int32 × TT)} {res : Int32 × TT} (hrec71 : ∀ {T : TT} {x1 : Int32} {x2 : Int32} {x3 : Int32} {x4 : Int64} {x6 : Int64} {x8 : Int32}, rec71 T x1 x2 x3 x4 x6 x8 = some res → Fr (fun a b => (a = 10 ∧ b = 4)) (fun a b => (a = 10 ∧ b = 6) ∨ (a = 10 ∧ b = 7)) (fun a b => (a = 10 ∧ b = 4) ∨ (a = 10 ∧ b = 5)) T res.2) (hrec90 : ∀ {T : TT} {x1 : Int32} {x2 : Int32} {x3 : Int32} {x4 : Int64} {x6 : Int64} {x8 : Int32} {x9 : Int64} {x11 : Int32}, rec90 T x1 x2 x3 x4 x6 x8 x9 x11 = some res → Fr (fun a b => (a = 10 ∧ b = 4)) (fun a b => (a = 10 ∧ b = 6) ∨ (a = 10 ∧ b = 7)) (fun a b => (a = 10 ∧ b = 4) ∨ (a = 10 ∧ b = 5)) T res.2) {T : TT} {x1 : Int32} {x2 : Int32} {x3 : Int32} {x4 : Int64} {x6 : Int64} {x8 : Int32} {x11 : Int32} {s0 : Int64} {s1 : Int64} (h : m_X11_starts_b118 rec71 rec90 T x1 x2 x3 x4 x6 x8 x11 s0 s1 = some res) : Fr (fun a b => (a = 10 ∧ b = 4)) (fun a b => (a = 10 ∧ b = 6) ∨ (a = 10 ∧ b = 7)) (fun a b => (a = 10 ∧ b = 4) ∨ (a = 10 ∧ b = 5)) T res.2 := by
  unfold m_X11_starts_b118 at h
  have F0 : Fr (fun a b => (a = 10 ∧ b = 4)) (fun a b => (a = 10 ∧ b = 6) ∨ (a = 10 ∧ b = 7)) (fun a b => (a = 10 ∧ b = 4) ∨ (a = 10 ∧ b = 5)) T T := Fr.rf
  obtain ⟨y18, ey18, h⟩ := bTe h
  obtain ⟨z19, ez19, h⟩ := bnd h
  obtain ⟨z20, ez20, h⟩ := bnd h
  rcases ifo h with h | h
  · exact F0.trans (fr_X11_starts_b152 hrec71 hrec90 h)
  · exact F0.trans (fr_X11_starts_b152 hrec71 hrec90 h)
set_option maxHeartbeats 4000000 in
set_option maxRecDepth 100000 in
theorem fr_X11_starts_h90 {rec71 : TT → Int32 → Int32 → Int32 → Int64 → Int64 → Int32 → Option (Int32 × TT)} {rec90 : TT → Int32 → Int32 → Int32 → Int64 → Int64 → Int32 → Int64 → Int32 → Option (Int32 × TT)} {res : Int32 × TT} (hrec71 : ∀ {T : TT} {x1 : Int32} {x2 : Int32} {x3 : Int32} {x4 : Int64} {x6 : Int64} {x8 : Int32}, rec71 T x1 x2 x3 x4 x6 x8 = some res → Fr (fun a b => (a = 10 ∧ b = 4)) (fun a b => (a = 10 ∧ b = 6) ∨ (a = 10 ∧ b = 7)) (fun a b => (a = 10 ∧ b = 4) ∨ (a = 10 ∧ b = 5)) T res.2) (hrec90 : ∀ {T : TT} {x1 : Int32} {x2 : Int32} {x3 : Int32} {x4 : Int64} {x6 : Int64} {x8 : Int32} {x9 : Int64} {x11 : Int32}, rec90 T x1 x2 x3 x4 x6 x8 x9 x11 = some res → Fr (fun a b => (a = 10 ∧ b = 4)) (fun a b => (a = 10 ∧ b = 6) ∨ (a = 10 ∧ b = 7)) (fun a b => (a = 10 ∧ b = 4) ∨ (a = 10 ∧ b = 5)) T res.2) {T : TT} {x1 : Int32} {x2 : Int32} {x3 : Int32} {x4 : Int64} {x6 : Int64} {x8 : Int32} {x9 : Int64} {x11 : Int32} (h : m_X11_starts_h90 rec71 rec90 T x1 x2 x3 x4 x6 x8 x9 x11 = some res) : Fr (fun a b => (a = 10 ∧ b = 4)) (fun a b => (a = 10 ∧ b = 6) ∨ (a = 10 ∧ b = 7)) (fun a b => (a = 10 ∧ b = 4) ∨ (a = 10 ∧ b = 5)) T res.2 := by
  unfold m_X11_starts_h90 at h
  have F0 : Fr (fun a b => (a = 10 ∧ b = 4)) (fun a b => (a = 10 ∧ b = 6) ∨ (a = 10 ∧ b = 7)) (fun a b => (a = 10 ∧ b = 4) ∨ (a = 10 ∧ b = 5)) T T := Fr.rf
  rcases ifo h with h | h
  · obtain ⟨y13, ey13, h⟩ := bTe h
    obtain ⟨y14, ey14, h⟩ := bTe h
    exact F0.trans (hrec71 h)
  · obtain ⟨z15, ez15, h⟩ := bnd h
    rcases ifo h with h | h
    · exact F0.trans (fr_X11_starts_b118 hrec71 hrec90 h)
    · exact F0.trans (fr_X11_starts_b118 hrec71 hrec90 h)
set_option maxHeartbeats 4000000 in
set_option maxRecDepth 100000 in
theorem fr_X11_starts_l90 {rec71 : TT → Int32 → Int32 → Int32 → Int64 → Int64 → Int32 → Option (Int32 × TT)} {res : Int32 × TT} (hrec71 : ∀ {T : TT} {x1 : Int32} {x2 : Int32} {x3 : Int32} {x4 : Int64} {x6 : Int64} {x8 : Int32}, rec71 T x1 x2 x3 x4 x6 x8 = some res → Fr (fun a b => (a = 10 ∧ b = 4)) (fun a b => (a = 10 ∧ b = 6) ∨ (a = 10 ∧ b = 7)) (fun a b => (a = 10 ∧ b = 4) ∨ (a = 10 ∧ b = 5)) T res.2) : ∀ (n : Nat) {T : TT} {x1 : Int32} {x2 : Int32} {x3 : Int32} {x4 : Int64} {x6 : Int64} {x8 : Int32} {x9 : Int64} {x11 : Int32} (h : m_X11_starts_l90 rec71 n T x1 x2 x3 x4 x6 x8 x9 x11 = some res), Fr (fun a b => (a = 10 ∧ b = 4)) (fun a b => (a = 10 ∧ b = 6) ∨ (a = 10 ∧ b = 7)) (fun a b => (a = 10 ∧ b = 4) ∨ (a = 10 ∧ b = 5)) T res.2 := by
  intro n
  induction n with
  | zero =>
    intro T x1 x2 x3 x4 x6 x8 x9 x11 h
    exact no_some h
  | succ n ih =>
    intro T x1 x2 x3 x4 x6 x8 x9 x11 h
    have h : m_X11_starts_h90 rec71 (m_X11_starts_l90 rec71 n) T x1 x2 x3 x4 x6 x8 x9 x11 = some res := h
    exact fr_X11_starts_h90 (rec90 := m_X11_starts_l90 rec71 n) hrec71 (fun h => ih h) h
set_option maxHeartbeats 4000000 in
set_option maxRecDepth 100000 in
theorem fr_X11_starts_h71 {rec71 : TT → Int32 → Int32 → Int32 → Int64 → Int64 → Int32 → Option (Int32 × TT)} {res : Int32 × TT} (hrec71 : ∀ {T : TT} {x1 : Int32} {x2 : Int32} {x3 : Int32} {x4 : Int64} {x6 : Int64} {x8 : Int32}, rec71 T x1 x2 x3 x4 x6 x8 = some res → Fr (fun a b => (a = 10 ∧ b = 4)) (fun a b => (a = 10 ∧ b = 6) ∨ (a = 10 ∧ b = 7)) (fun a b => (a = 10 ∧ b = 4) ∨ (a = 10 ∧ b = 5)) T res.2) {T : TT} {x1 : Int32} {x2 : Int32} {x3 : Int32} {x4 : Int64} {x6 : Int64} {x8 : Int32} (h : m_X11_starts_h71 rec71 T x1 x2 x3 x4 x6 x8 = some res) : Fr (fun a b => (a = 10 ∧ b = 4)) (fun a b => (a = 10 ∧ b = 6) ∨ (a = 10 ∧ b = 7)) (fun a b => (a = 10 ∧ b = 4) ∨ (a = 10 ∧ b = 5)) T res.2 := by
  unfold m_X11_starts_h71 at h
  have F0 : Fr (fun a b => (a = 10 ∧ b = 4)) (fun a b => (a = 10 ∧ b = 6) ∨ (a = 10 ∧ b = 7)) (fun a b => (a = 10 ∧ b = 4) ∨ (a = 10 ∧ b = 5)) T T := Fr.rf
  rcases ifo h with h | h
  · obtain ⟨z10, ez10, h⟩ := bnd h
    have Fz10 := F0.trans ((fr_X11_fraction ez10).mono (fun a b h => False.elim h) (fun a b h => False.elim h) (fun a b h => h))
    have hq := some_i h
    subst hq
    exact Fz10
  · obtain ⟨z11, ez11, h⟩ := bnd h
    have Fz11 := F0.trans ((fr_X11_layOne ez11).mono (fun a b h => False.elim h) (fun a b h => h) (fun a b h => False.elim h))
    exact Fz11.trans (fr_X11_starts_l90 hrec71 _ h)
set_option maxHeartbeats 4000000 in
set_option maxRecDepth 100000 in
theorem fr_X11_starts_l71 {res : Int32 × TT} : ∀ (n : Nat) {T : TT} {x1 : Int32} {x2 : Int32} {x3 : Int32} {x4 : Int64} {x6 : Int64} {x8 : Int32} (h : m_X11_starts_l71 n T x1 x2 x3 x4 x6 x8 = some res), Fr (fun a b => (a = 10 ∧ b = 4)) (fun a b => (a = 10 ∧ b = 6) ∨ (a = 10 ∧ b = 7)) (fun a b => (a = 10 ∧ b = 4) ∨ (a = 10 ∧ b = 5)) T res.2 := by
  intro n
  induction n with
  | zero =>
    intro T x1 x2 x3 x4 x6 x8 h
    exact no_some h
  | succ n ih =>
    intro T x1 x2 x3 x4 x6 x8 h
    have h : m_X11_starts_h71 (m_X11_starts_l71 n) T x1 x2 x3 x4 x6 x8 = some res := h
    exact fr_X11_starts_h71 (rec71 := m_X11_starts_l71 n) (fun h => ih h) h
set_option maxHeartbeats 4000000 in
set_option maxRecDepth 100000 in
theorem fr_X11_starts_h48 {rec48 : TT → Int32 → Int32 → Int32 → Int64 → Int64 → Int32 → Option (Int32 × TT)} {res : Int32 × TT} (hrec48 : ∀ {T : TT} {x1 : Int32} {x2 : Int32} {x3 : Int32} {x4 : Int64} {x6 : Int64} {x8 : Int32}, rec48 T x1 x2 x3 x4 x6 x8 = some res → Fr (fun a b => (a = 10 ∧ b = 4)) (fun a b => (a = 10 ∧ b = 6) ∨ (a = 10 ∧ b = 7)) (fun a b => (a = 10 ∧ b = 4) ∨ (a = 10 ∧ b = 5)) T res.2) {T : TT} {x1 : Int32} {x2 : Int32} {x3 : Int32} {x4 : Int64} {x6 : Int64} {x8 : Int32} (h : m_X11_starts_h48 rec48 T x1 x2 x3 x4 x6 x8 = some res) : Fr (fun a b => (a = 10 ∧ b = 4)) (fun a b => (a = 10 ∧ b = 6) ∨ (a = 10 ∧ b = 7)) (fun a b => (a = 10 ∧ b = 4) ∨ (a = 10 ∧ b = 5)) T res.2 := by
  unfold m_X11_starts_h48 at h
  have F0 : Fr (fun a b => (a = 10 ∧ b = 4)) (fun a b => (a = 10 ∧ b = 6) ∨ (a = 10 ∧ b = 7)) (fun a b => (a = 10 ∧ b = 4) ∨ (a = 10 ∧ b = 5)) T T := Fr.rf
  rcases ifo h with h | h
  · exact F0.trans (fr_X11_starts_l71 _ h)
  · obtain ⟨y7, ey7, h⟩ := bTe h
    obtain ⟨y8, ey8, h⟩ := bTe h
    exact F0.trans (hrec48 h)
set_option maxHeartbeats 4000000 in
set_option maxRecDepth 100000 in
theorem fr_X11_starts_l48 {res : Int32 × TT} : ∀ (n : Nat) {T : TT} {x1 : Int32} {x2 : Int32} {x3 : Int32} {x4 : Int64} {x6 : Int64} {x8 : Int32} (h : m_X11_starts_l48 n T x1 x2 x3 x4 x6 x8 = some res), Fr (fun a b => (a = 10 ∧ b = 4)) (fun a b => (a = 10 ∧ b = 6) ∨ (a = 10 ∧ b = 7)) (fun a b => (a = 10 ∧ b = 4) ∨ (a = 10 ∧ b = 5)) T res.2 := by
  intro n
  induction n with
  | zero =>
    intro T x1 x2 x3 x4 x6 x8 h
    exact no_some h
  | succ n ih =>
    intro T x1 x2 x3 x4 x6 x8 h
    have h : m_X11_starts_h48 (m_X11_starts_l48 n) T x1 x2 x3 x4 x6 x8 = some res := h
    exact fr_X11_starts_h48 (rec48 := m_X11_starts_l48 n) (fun h => ih h) h
set_option maxHeartbeats 4000000 in
set_option maxRecDepth 100000 in
theorem fr_X11_starts_b32 {res : Int32 × TT} {T : TT} (h : m_X11_starts_b32 T = some res) : Fr (fun a b => (a = 10 ∧ b = 4)) (fun a b => (a = 10 ∧ b = 6) ∨ (a = 10 ∧ b = 7)) (fun a b => (a = 10 ∧ b = 4) ∨ (a = 10 ∧ b = 5)) T res.2 := by
  unfold m_X11_starts_b32 at h
  have F0 : Fr (fun a b => (a = 10 ∧ b = 4)) (fun a b => (a = 10 ∧ b = 6) ∨ (a = 10 ∧ b = 7)) (fun a b => (a = 10 ∧ b = 4) ∨ (a = 10 ∧ b = 5)) T T := Fr.rf
  obtain ⟨z24, ez24, h⟩ := bnd h
  have Fz24 := F0.trans ((fr_X11_bad ez24).mono (fun a b h => h) (fun a b h => False.elim h) (fun a b h => False.elim h))
  have hq := some_i h
  subst hq
  exact Fz24
set_option maxHeartbeats 4000000 in
set_option maxRecDepth 100000 in
theorem fr_X11_starts {T : TT} {x1 : Int32} {x2 : Int32} {x3 : Int32} {res : Int32 × TT} (h : m_X11_starts T x1 x2 x3 = some res) : Fr (fun a b => (a = 10 ∧ b = 4)) (fun a b => (a = 10 ∧ b = 6) ∨ (a = 10 ∧ b = 7)) (fun a b => (a = 10 ∧ b = 4) ∨ (a = 10 ∧ b = 5)) T res.2 := by
  unfold m_X11_starts at h
  have F0 : Fr (fun a b => (a = 10 ∧ b = 4)) (fun a b => (a = 10 ∧ b = 6) ∨ (a = 10 ∧ b = 7)) (fun a b => (a = 10 ∧ b = 4) ∨ (a = 10 ∧ b = 5)) T T := Fr.rf
  obtain ⟨z1, ez1, h⟩ := bnd h
  rcases ifo h with h | h
  · exact F0.trans (fr_X11_starts_b32 h)
  · obtain ⟨z2, ez2, h⟩ := bnd h
    rcases ifo h with h | h
    · exact F0.trans (fr_X11_starts_b32 h)
    · obtain ⟨z3, ez3, h⟩ := bnd h
      rcases ifo h with h | h
      · exact F0.trans (fr_X11_starts_b32 h)
      · exact F0.trans (fr_X11_starts_l48 _ h)
set_option maxHeartbeats 4000000 in
set_option maxRecDepth 100000 in
theorem fr_X11_years_h83 {rec74 : TT → Int32 → Int64 → Int32 → Int32 → Option (Int32 × TT)} {rec83 : TT → Int32 → Int64 → Int32 → Int32 → Int32 → Option (Int32 × TT)} {res : Int32 × TT} (hrec74 : ∀ {T : TT} {x2 : Int32} {x3 : Int64} {x5 : Int32} {x6 : Int32}, rec74 T x2 x3 x5 x6 = some res → Fr (fun a b => (a = 10 ∧ b = 4) ∨ (a = 10 ∧ b = 7)) (fun a b => (a = 10 ∧ b = 6) ∨ (a = 10 ∧ b = 7)) (fun _ _ => False) T res.2) (hrec83 : ∀ {T : TT} {x2 : Int32} {x3 : Int64} {x5 : Int32} {x6 : Int32} {x7 : Int32}, rec83 T x2 x3 x5 x6 x7 = some res → Fr (fun a b => (a = 10 ∧ b = 4) ∨ (a = 10 ∧ b = 7)) (fun a b => (a = 10 ∧ b = 6) ∨ (a = 10 ∧ b = 7)) (fun _ _ => False) T res.2) {T : TT} {x2 : Int32} {x3 : Int64} {x5 : Int32} {x6 : Int32} {x7 : Int32} (h : m_X11_years_h83 rec74 rec83 T x2 x3 x5 x6 x7 = some res) : Fr (fun a b => (a = 10 ∧ b = 4) ∨ (a = 10 ∧ b = 7)) (fun a b => (a = 10 ∧ b = 6) ∨ (a = 10 ∧ b = 7)) (fun _ _ => False) T res.2 := by
  unfold m_X11_years_h83 at h
  have F0 : Fr (fun a b => (a = 10 ∧ b = 4) ∨ (a = 10 ∧ b = 7)) (fun a b => (a = 10 ∧ b = 6) ∨ (a = 10 ∧ b = 7)) (fun _ _ => False) T T := Fr.rf
  obtain ⟨z11, ez11, h⟩ := bnd h
  rcases ifo h with h | h
  · obtain ⟨y12, ey12, h⟩ := bTe h
    exact F0.trans (hrec74 h)
  · obtain ⟨y13, ey13, h⟩ := bTe h
    obtain ⟨gi, h⟩ := gd h
    obtain ⟨T14, eT14, h⟩ := bTe h
    have FT14 := (F0.wI eT14 (Or.inl ⟨rfl, rfl⟩))
    obtain ⟨T15, eT15, h⟩ := bTe h
    have FT15 := (FT14.wI eT15 (Or.inr ⟨rfl, rfl⟩))
    obtain ⟨z16, ez16, h⟩ := bnd h
    obtain ⟨z17, ez17, h⟩ := bnd h
    have Fz17 := FT15.trans ((fr_X11_goDay ez17).mono (fun a b h => False.elim h) (fun a b h => h) (fun a b h => False.elim h))
    obtain ⟨gi, h⟩ := gd h
    obtain ⟨T18, eT18, h⟩ := bTe h
    have FT18 := (Fz17.wA eT18 (Or.inr ⟨rfl, rfl⟩))
    obtain ⟨y19, ey19, h⟩ := bTe h
    obtain ⟨y20, ey20, h⟩ := bTe h
    exact FT18.trans (hrec83 h)
set_option maxHeartbeats 4000000 in
set_option maxRecDepth 100000 in
theorem fr_X11_years_l83 {rec74 : TT → Int32 → Int64 → Int32 → Int32 → Option (Int32 × TT)} {res : Int32 × TT} (hrec74 : ∀ {T : TT} {x2 : Int32} {x3 : Int64} {x5 : Int32} {x6 : Int32}, rec74 T x2 x3 x5 x6 = some res → Fr (fun a b => (a = 10 ∧ b = 4) ∨ (a = 10 ∧ b = 7)) (fun a b => (a = 10 ∧ b = 6) ∨ (a = 10 ∧ b = 7)) (fun _ _ => False) T res.2) : ∀ (n : Nat) {T : TT} {x2 : Int32} {x3 : Int64} {x5 : Int32} {x6 : Int32} {x7 : Int32} (h : m_X11_years_l83 rec74 n T x2 x3 x5 x6 x7 = some res), Fr (fun a b => (a = 10 ∧ b = 4) ∨ (a = 10 ∧ b = 7)) (fun a b => (a = 10 ∧ b = 6) ∨ (a = 10 ∧ b = 7)) (fun _ _ => False) T res.2 := by
  intro n
  induction n with
  | zero =>
    intro T x2 x3 x5 x6 x7 h
    exact no_some h
  | succ n ih =>
    intro T x2 x3 x5 x6 x7 h
    have h : m_X11_years_h83 rec74 (m_X11_years_l83 rec74 n) T x2 x3 x5 x6 x7 = some res := h
    exact fr_X11_years_h83 (rec83 := m_X11_years_l83 rec74 n) hrec74 (fun h => ih h) h
set_option maxHeartbeats 4000000 in
set_option maxRecDepth 100000 in
theorem fr_X11_years_h74 {rec74 : TT → Int32 → Int64 → Int32 → Int32 → Option (Int32 × TT)} {res : Int32 × TT} (hrec74 : ∀ {T : TT} {x2 : Int32} {x3 : Int64} {x5 : Int32} {x6 : Int32}, rec74 T x2 x3 x5 x6 = some res → Fr (fun a b => (a = 10 ∧ b = 4) ∨ (a = 10 ∧ b = 7)) (fun a b => (a = 10 ∧ b = 6) ∨ (a = 10 ∧ b = 7)) (fun _ _ => False) T res.2) {T : TT} {x2 : Int32} {x3 : Int64} {x5 : Int32} {x6 : Int32} (h : m_X11_years_h74 rec74 T x2 x3 x5 x6 = some res) : Fr (fun a b => (a = 10 ∧ b = 4) ∨ (a = 10 ∧ b = 7)) (fun a b => (a = 10 ∧ b = 6) ∨ (a = 10 ∧ b = 7)) (fun _ _ => False) T res.2 := by
  unfold m_X11_years_h74 at h
  have F0 : Fr (fun a b => (a = 10 ∧ b = 4) ∨ (a = 10 ∧ b = 7)) (fun a b => (a = 10 ∧ b = 6) ∨ (a = 10 ∧ b = 7)) (fun _ _ => False) T T := Fr.rf
  rcases ifo h with h | h
  · have hq := some_i h
    subst hq
    exact F0
  · exact F0.trans (fr_X11_years_l83 hrec74 _ h)
set_option maxHeartbeats 4000000 in
set_option maxRecDepth 100000 in
theorem fr_X11_years_l74 {res : Int32 × TT} : ∀ (n : Nat) {T : TT} {x2 : Int32} {x3 : Int64} {x5 : Int32} {x6 : Int32} (h : m_X11_years_l74 n T x2 x3 x5 x6 = some res), Fr (fun a b => (a = 10 ∧ b = 4) ∨ (a = 10 ∧ b = 7)) (fun a b => (a = 10 ∧ b = 6) ∨ (a = 10 ∧ b = 7)) (fun _ _ => False) T res.2 := by
  intro n
  induction n with
  | zero =>
    intro T x2 x3 x5 x6 h
    exact no_some h
  | succ n ih =>
    intro T x2 x3 x5 x6 h
    have h : m_X11_years_h74 (m_X11_years_l74 n) T x2 x3 x5 x6 = some res := h
    exact fr_X11_years_h74 (rec74 := m_X11_years_l74 n) (fun h => ih h) h
set_option maxHeartbeats 4000000 in
set_option maxRecDepth 100000 in
theorem fr_X11_years_h40 {rec40 : TT → Int32 → Int64 → Int32 → Int32 → Option (Int32 × TT)} {res : Int32 × TT} (hrec40 : ∀ {T : TT} {x2 : Int32} {x3 : Int64} {x5 : Int32} {x6 : Int32}, rec40 T x2 x3 x5 x6 = some res → Fr (fun a b => (a = 10 ∧ b = 4) ∨ (a = 10 ∧ b = 7)) (fun a b => (a = 10 ∧ b = 6) ∨ (a = 10 ∧ b = 7)) (fun _ _ => False) T res.2) {T : TT} {x2 : Int32} {x3 : Int64} {x5 : Int32} {x6 : Int32} (h : m_X11_years_h40 rec40 T x2 x3 x5 x6 = some res) : Fr (fun a b => (a = 10 ∧ b = 4) ∨ (a = 10 ∧ b = 7)) (fun a b => (a = 10 ∧ b = 6) ∨ (a = 10 ∧ b = 7)) (fun _ _ => False) T res.2 := by
  unfold m_X11_years_h40 at h
  have F0 : Fr (fun a b => (a = 10 ∧ b = 4) ∨ (a = 10 ∧ b = 7)) (fun a b => (a = 10 ∧ b = 6) ∨ (a = 10 ∧ b = 7)) (fun _ _ => False) T T := Fr.rf
  obtain ⟨z6, ez6, h⟩ := bnd h
  rcases ifo h with h | h
  · exact F0.trans (fr_X11_years_l74 _ h)
  · obtain ⟨gi, h⟩ := gd h
    obtain ⟨gi, h⟩ := gd h
    obtain ⟨T7, eT7, h⟩ := bTe h
    have FT7 := (F0.wA eT7 (Or.inr ⟨rfl, rfl⟩))
    obtain ⟨y8, ey8, h⟩ := bTe h
    exact FT7.trans (hrec40 h)
set_option maxHeartbeats 4000000 in
set_option maxRecDepth 100000 in
theorem fr_X11_years_l40 {res : Int32 × TT} : ∀ (n : Nat) {T : TT} {x2 : Int32} {x3 : Int64} {x5 : Int32} {x6 : Int32} (h : m_X11_years_l40 n T x2 x3 x5 x6 = some res), Fr (fun a b => (a = 10 ∧ b = 4) ∨ (a = 10 ∧ b = 7)) (fun a b => (a = 10 ∧ b = 6) ∨ (a = 10 ∧ b = 7)) (fun _ _ => False) T res.2 := by
  intro n
  induction n with
  | zero =>
    intro T x2 x3 x5 x6 h
    exact no_some h
  | succ n ih =>
    intro T x2 x3 x5 x6 h
    have h : m_X11_years_h40 (m_X11_years_l40 n) T x2 x3 x5 x6 = some res := h
    exact fr_X11_years_h40 (rec40 := m_X11_years_l40 n) (fun h => ih h) h
set_option maxHeartbeats 4000000 in
set_option maxRecDepth 100000 in
theorem fr_X11_years_b24 {res : Int32 × TT} {T : TT} (h : m_X11_years_b24 T = some res) : Fr (fun a b => (a = 10 ∧ b = 4) ∨ (a = 10 ∧ b = 7)) (fun a b => (a = 10 ∧ b = 6) ∨ (a = 10 ∧ b = 7)) (fun _ _ => False) T res.2 := by
  unfold m_X11_years_b24 at h
  have F0 : Fr (fun a b => (a = 10 ∧ b = 4) ∨ (a = 10 ∧ b = 7)) (fun a b => (a = 10 ∧ b = 6) ∨ (a = 10 ∧ b = 7)) (fun _ _ => False) T T := Fr.rf
  obtain ⟨z22, ez22, h⟩ := bnd h
  have Fz22 := F0.trans ((fr_X11_bad ez22).mono (fun a b h => (Or.inl h)) (fun a b h => False.elim h) (fun a b h => False.elim h))
  have hq := some_i h
  subst hq
  exact Fz22
set_option maxHeartbeats 4000000 in
set_option maxRecDepth 100000 in
theorem fr_X11_years {T : TT} {x1 : Int32} {x2 : Int32} {res : Int32 × TT} (h : m_X11_years T x1 x2 = some res) : Fr (fun a b => (a = 10 ∧ b = 4) ∨ (a = 10 ∧ b = 7)) (fun a b => (a = 10 ∧ b = 6) ∨ (a = 10 ∧ b = 7)) (fun _ _ => False) T res.2 := by
  unfold m_X11_years at h
  have F0 : Fr (fun a b => (a = 10 ∧ b = 4) ∨ (a = 10 ∧ b = 7)) (fun a b => (a = 10 ∧ b = 6) ∨ (a = 10 ∧ b = 7)) (fun _ _ => False) T T := Fr.rf
  obtain ⟨z1, ez1, h⟩ := bnd h
  rcases ifo h with h | h
  · exact F0.trans (fr_X11_years_b24 h)
  · obtain ⟨z2, ez2, h⟩ := bnd h
    rcases ifo h with h | h
    · exact F0.trans (fr_X11_years_b24 h)
    · obtain ⟨y3, ey3, h⟩ := bTe h
      exact F0.trans (fr_X11_years_l40 _ h)
set_option maxHeartbeats 4000000 in
set_option maxRecDepth 100000 in
theorem fr_X11_type {T : TT} {x1 : Int32} {res : Int32 × TT} (h : m_X11_type T x1 = some res) : Fr (fun a b => (a = 10 ∧ b = 4) ∨ (a = 10 ∧ b = 8)) (fun a b => (a = 10 ∧ b = 13)) (fun _ _ => False) T res.2 := by
  unfold m_X11_type at h
  have F0 : Fr (fun a b => (a = 10 ∧ b = 4) ∨ (a = 10 ∧ b = 8)) (fun a b => (a = 10 ∧ b = 13)) (fun _ _ => False) T T := Fr.rf
  obtain ⟨z1, ez1, h⟩ := bnd h
  rcases ifo h with h | h
  · obtain ⟨z6, ez6, h⟩ := bnd h
    have Fz6 := F0.trans ((fr_X11_bad ez6).mono (fun a b h => (Or.inl h)) (fun a b h => False.elim h) (fun a b h => False.elim h))
    have hq := some_i h
    subst hq
    exact Fz6
  · rcases ifo h with h | h
    · obtain ⟨z4, ez4, h⟩ := bnd h
      have Fz4 := F0.trans ((fr_X11_full ez4).mono (fun a b h => (Or.inl h)) (fun a b h => False.elim h) (fun a b h => False.elim h))
      have hq := some_i h
      subst hq
      exact Fz4
    · obtain ⟨gi, h⟩ := gd h
      obtain ⟨T2, eT2, h⟩ := bTe h
      have FT2 := (F0.wA eT2 (Or.inr ⟨rfl, rfl⟩))
      obtain ⟨T3, eT3, h⟩ := bTe h
      have FT3 := (FT2.wI eT3 ⟨rfl, rfl⟩)
      have hq := some_i h
      subst hq
      exact FT3
set_option maxHeartbeats 4000000 in
set_option maxRecDepth 100000 in
theorem fr_X11_clear {T : TT} {res : Int32 × TT} (h : m_X11_clear T = some res) : Fr (fun _ _ => False) (fun a b => (a = 10 ∧ b = 13)) (fun _ _ => False) T res.2 := by
  unfold m_X11_clear at h
  have F0 : Fr (fun _ _ => False) (fun a b => (a = 10 ∧ b = 13)) (fun _ _ => False) T T := Fr.rf
  obtain ⟨y1, ey1, h⟩ := bTe h
  obtain ⟨T2, eT2, h⟩ := bTe h
  have FT2 := (F0.wI eT2 ⟨rfl, rfl⟩)
  have hq := some_i h
  subst hq
  exact FT2
set_option maxHeartbeats 4000000 in
set_option maxRecDepth 100000 in
theorem fr_X11_lookAt_b295 {res : TT} {T : TT} (h : m_X11_lookAt_b295 T = some res) : Fr (fun _ _ => False) (fun a b => (a = 10 ∧ b = 14) ∨ (a = 10 ∧ b = 15) ∨ (a = 10 ∧ b = 16) ∨ (a = 10 ∧ b = 17)) (fun _ _ => False) T res := by
  unfold m_X11_lookAt_b295 at h
  have F0 : Fr (fun _ _ => False) (fun a b => (a = 10 ∧ b = 14) ∨ (a = 10 ∧ b = 15) ∨ (a = 10 ∧ b = 16) ∨ (a = 10 ∧ b = 17)) (fun _ _ => False) T T := Fr.rf
  obtain ⟨T34, eT34, h⟩ := bTe h
  have FT34 := (F0.wI eT34 (Or.inr (Or.inr (Or.inl ⟨rfl, rfl⟩))))
  have hq := some_i h
  subst hq
  exact FT34
set_option maxHeartbeats 4000000 in
set_option maxRecDepth 100000 in
theorem fr_X11_lookAt_b274 {res : TT} {T : TT} (h : m_X11_lookAt_b274 T = some res) : Fr (fun _ _ => False) (fun a b => (a = 10 ∧ b = 14) ∨ (a = 10 ∧ b = 15) ∨ (a = 10 ∧ b = 16) ∨ (a = 10 ∧ b = 17)) (fun _ _ => False) T res := by
  unfold m_X11_lookAt_b274 at h
  have F0 : Fr (fun _ _ => False) (fun a b => (a = 10 ∧ b = 14) ∨ (a = 10 ∧ b = 15) ∨ (a = 10 ∧ b = 16) ∨ (a = 10 ∧ b = 17)) (fun _ _ => False) T T := Fr.rf
  rcases ifo h with h | h
  · rcases ifo h with h | h
    · exact F0.trans (fr_X11_lookAt_b295 h)
    · obtain ⟨T31, eT31, h⟩ := bTe h
      have FT31 := (F0.wI eT31 (Or.inr (Or.inr (Or.inl ⟨rfl, rfl⟩))))
      have hq := some_i h
      subst hq
      exact FT31
  · exact F0.trans (fr_X11_lookAt_b295 h)
set_option maxHeartbeats 4000000 in
set_option maxRecDepth 100000 in
theorem fr_X11_lookAt_h218 {rec218 : TT → Int32 → Option (TT)} {res : TT} (hrec218 : ∀ {T : TT} {x4 : Int32}, rec218 T x4 = some res → Fr (fun _ _ => False) (fun a b => (a = 10 ∧ b = 14) ∨ (a = 10 ∧ b = 15) ∨ (a = 10 ∧ b = 16) ∨ (a = 10 ∧ b = 17)) (fun _ _ => False) T res) {T : TT} {x4 : Int32} (h : m_X11_lookAt_h218 rec218 T x4 = some res) : Fr (fun _ _ => False) (fun a b => (a = 10 ∧ b = 14) ∨ (a = 10 ∧ b = 15) ∨ (a = 10 ∧ b = 16) ∨ (a = 10 ∧ b = 17)) (fun _ _ => False) T res := by
  unfold m_X11_lookAt_h218 at h
  have F0 : Fr (fun _ _ => False) (fun a b => (a = 10 ∧ b = 14) ∨ (a = 10 ∧ b = 15) ∨ (a = 10 ∧ b = 16) ∨ (a = 10 ∧ b = 17)) (fun _ _ => False) T T := Fr.rf
  rcases ifo h with h | h
  · exact F0.trans (fr_X11_lookAt_b274 h)
  · rcases ifo h with h | h
    · exact F0.trans (fr_X11_lookAt_b274 h)
    · rcases ifo h with h | h
      · obtain ⟨gi, h⟩ := gd h
        obtain ⟨T26, eT26, h⟩ := bTe h
        have FT26 := (F0.wI eT26 (Or.inr (Or.inr (Or.inr ⟨rfl, rfl⟩))))
        obtain ⟨y27, ey27, h⟩ := bTe h
        exact FT26.trans (hrec218 h)
      · exact F0.trans (fr_X11_lookAt_b274 h)
set_option maxHeartbeats 4000000 in
set_option maxRecDepth 100000 in
theorem fr_X11_lookAt_l218 {res : TT} : ∀ (n : Nat) {T : TT} {x4 : Int32} (h : m_X11_lookAt_l218 n T x4 = some res), Fr (fun _ _ => False) (fun a b => (a = 10 ∧ b = 14) ∨ (a = 10 ∧ b = 15) ∨ (a = 10 ∧ b = 16) ∨ (a = 10 ∧ b = 17)) (fun _ _ => False) T res := by
  intro n
  induction n with
  | zero =>
    intro T x4 h
    exact no_some h
  | succ n ih =>
    intro T x4 h
    have h : m_X11_lookAt_h218 (m_X11_lookAt_l218 n) T x4 = some res := h
    exact fr_X11_lookAt_h218 (rec218 := m_X11_lookAt_l218 n) (fun h => ih h) h
set_option maxHeartbeats 4000000 in
set_option maxRecDepth 100000 in
theorem fr_X11_lookAt_b215 {res : TT} {T : TT} (h : m_X11_lookAt_b215 T = some res) : Fr (fun _ _ => False) (fun a b => (a = 10 ∧ b = 14) ∨ (a = 10 ∧ b = 15) ∨ (a = 10 ∧ b = 16) ∨ (a = 10 ∧ b = 17)) (fun _ _ => False) T res := by
  unfold m_X11_lookAt_b215 at h
  have F0 : Fr (fun _ _ => False) (fun a b => (a = 10 ∧ b = 14) ∨ (a = 10 ∧ b = 15) ∨ (a = 10 ∧ b = 16) ∨ (a = 10 ∧ b = 17)) (fun _ _ => False) T T := Fr.rf
  exact F0.trans (fr_X11_lookAt_l218 _ h)
set_option maxHeartbeats 4000000 in
set_option maxRecDepth 100000 in
theorem fr_X11_lookAt_b208 {rec136 : TT → Int32 → Option (TT)} {res : TT} (hrec136 : ∀ {T : TT} {x3 : Int32}, rec136 T x3 = some res → Fr (fun _ _ => False) (fun a b => (a = 10 ∧ b = 14) ∨ (a = 10 ∧ b = 15) ∨ (a = 10 ∧ b = 16) ∨ (a = 10 ∧ b = 17)) (fun _ _ => False) T res) {T : TT} {x3 : Int32} {s1 : Int32} {s2 : Int32} (h : m_X11_lookAt_b208 rec136 T x3 s1 s2 = some res) : Fr (fun _ _ => False) (fun a b => (a = 10 ∧ b = 14) ∨ (a = 10 ∧ b = 15) ∨ (a = 10 ∧ b = 16) ∨ (a = 10 ∧ b = 17)) (fun _ _ => False) T res := by
  unfold m_X11_lookAt_b208 at h
  have F0 : Fr (fun _ _ => False) (fun a b => (a = 10 ∧ b = 14) ∨ (a = 10 ∧ b = 15) ∨ (a = 10 ∧ b = 16) ∨ (a = 10 ∧ b = 17)) (fun _ _ => False) T T := Fr.rf
  obtain ⟨T25, eT25, h⟩ := bTe h
  have FT25 := (F0.wI eT25 (Or.inr (Or.inl ⟨rfl, rfl⟩)))
  exact FT25.trans (hrec136 h)
set_option maxHeartbeats 4000000 in
set_option maxRecDepth 100000 in
theorem fr_X11_lookAt_b193 {rec136 : TT → Int32 → Option (TT)} {res : TT} (hrec136 : ∀ {T : TT} {x3 : Int32}, rec136 T x3 = some res → Fr (fun _ _ => False) (fun a b => (a = 10 ∧ b = 14) ∨ (a = 10 ∧ b = 15) ∨ (a = 10 ∧ b = 16) ∨ (a = 10 ∧ b = 17)) (fun _ _ => False) T res) {T : TT} {s0 : Int32} (h : m_X11_lookAt_b193 rec136 T s0 = some res) : Fr (fun _ _ => False) (fun a b => (a = 10 ∧ b = 14) ∨ (a = 10 ∧ b = 15) ∨ (a = 10 ∧ b = 16) ∨ (a = 10 ∧ b = 17)) (fun _ _ => False) T res := by
  unfold m_X11_lookAt_b193 at h
  have F0 : Fr (fun _ _ => False) (fun a b => (a = 10 ∧ b = 14) ∨ (a = 10 ∧ b = 15) ∨ (a = 10 ∧ b = 16) ∨ (a = 10 ∧ b = 17)) (fun _ _ => False) T T := Fr.rf
  rcases ifo h with h | h
  · exact F0.trans (fr_X11_lookAt_b208 hrec136 h)
  · exact F0.trans (fr_X11_lookAt_b208 hrec136 h)
set_option maxHeartbeats 4000000 in
set_option maxRecDepth 100000 in
theorem fr_X11_lookAt_h136 {rec136 : TT → Int32 → Option (TT)} {res : TT} (hrec136 : ∀ {T : TT} {x3 : Int32}, rec136 T x3 = some res → Fr (fun _ _ => False) (fun a b => (a = 10 ∧ b = 14) ∨ (a = 10 ∧ b = 15) ∨ (a = 10 ∧ b = 16) ∨ (a = 10 ∧ b = 17)) (fun _ _ => False) T res) {T : TT} {x3 : Int32} (h : m_X11_lookAt_h136 rec136 T x3 = some res) : Fr (fun _ _ => False) (fun a b => (a = 10 ∧ b = 14) ∨ (a = 10 ∧ b = 15) ∨ (a = 10 ∧ b = 16) ∨ (a = 10 ∧ b = 17)) (fun _ _ => False) T res := by
  unfold m_X11_lookAt_h136 at h
  have F0 : Fr (fun _ _ => False) (fun a b => (a = 10 ∧ b = 14) ∨ (a = 10 ∧ b = 15) ∨ (a = 10 ∧ b = 16) ∨ (a = 10 ∧ b = 17)) (fun _ _ => False) T T := Fr.rf
  rcases ifo h with h | h
  · exact F0.trans (fr_X11_lookAt_b215 h)
  · rcases ifo h with h | h
    · exact F0.trans (fr_X11_lookAt_b215 h)
    · obtain ⟨gi, h⟩ := gd h
      obtain ⟨y18, ey18, h⟩ := bTe h
      rcases ifo h with h | h
      · obtain ⟨z20, ez20, h⟩ := bnd h
        exact F0.trans (fr_X11_lookAt_b193 hrec136 h)
      · obtain ⟨z19, ez19, h⟩ := bnd h
        exact F0.trans (fr_X11_lookAt_b193 hrec136 h)
set_option maxHeartbeats 4000000 in
set_option maxRecDepth 100000 in
theorem fr_X11_lookAt_l136 {res : TT} : ∀ (n : Nat) {T : TT} {x3 : Int32} (h : m_X11_lookAt_l136 n T x3 = some res), Fr (fun _ _ => False) (fun a b => (a = 10 ∧ b = 14) ∨ (a = 10 ∧ b = 15) ∨ (a = 10 ∧ b = 16) ∨ (a = 10 ∧ b = 17)) (fun _ _ => False) T res := by
  intro n
  induction n with
  | zero =>
    intro T x3 h
    exact no_some h
  | succ n ih =>
    intro T x3 h
    have h : m_X11_lookAt_h136 (m_X11_lookAt_l136 n) T x3 = some res := h
    exact fr_X11_lookAt_h136 (rec136 := m_X11_lookAt_l136 n) (fun h => ih h) h
set_option maxHeartbeats 4000000 in
set_option maxRecDepth 100000 in
theorem fr_X11_lookAt_b135 {res : TT} {T : TT} {s0 : Int32} (h : m_X11_lookAt_b135 T s0 = some res) : Fr (fun _ _ => False) (fun a b => (a = 10 ∧ b = 14) ∨ (a = 10 ∧ b = 15) ∨ (a = 10 ∧ b = 16) ∨ (a = 10 ∧ b = 17)) (fun _ _ => False) T res := by
  unfold m_X11_lookAt_b135 at h
  have F0 : Fr (fun _ _ => False) (fun a b => (a = 10 ∧ b = 14) ∨ (a = 10 ∧ b = 15) ∨ (a = 10 ∧ b = 16) ∨ (a = 10 ∧ b = 17)) (fun _ _ => False) T T := Fr.rf
  exact F0.trans (fr_X11_lookAt_l136 _ h)
set_option maxHeartbeats 4000000 in
set_option maxRecDepth 100000 in
theorem fr_X11_lookAt_b114 {res : TT} {T : TT} {s1 : Int32} (h : m_X11_lookAt_b114 T s1 = some res) : Fr (fun _ _ => False) (fun a b => (a = 10 ∧ b = 14) ∨ (a = 10 ∧ b = 15) ∨ (a = 10 ∧ b = 16) ∨ (a = 10 ∧ b = 17)) (fun _ _ => False) T res := by
  unfold m_X11_lookAt_b114 at h
  have F0 : Fr (fun _ _ => False) (fun a b => (a = 10 ∧ b = 14) ∨ (a = 10 ∧ b = 15) ∨ (a = 10 ∧ b = 16) ∨ (a = 10 ∧ b = 17)) (fun _ _ => False) T T := Fr.rf
  obtain ⟨T15, eT15, h⟩ := bTe h
  have FT15 := (F0.wI eT15 (Or.inr (Or.inr (Or.inl ⟨rfl, rfl⟩))))
  obtain ⟨T16, eT16, h⟩ := bTe h
  have FT16 := (FT15.wI eT16 (Or.inr (Or.inl ⟨rfl, rfl⟩)))
  rcases ifo h with h | h
  · exact FT16.trans (fr_X11_lookAt_b135 h)
  · exact FT16.trans (fr_X11_lookAt_b135 h)
set_option maxHeartbeats 4000000 in
set_option maxRecDepth 100000 in
theorem fr_X11_lookAt_b43 {res : TT} {T : TT} (h : m_X11_lookAt_b43 T = some res) : Fr (fun _ _ => False) (fun a b => (a = 10 ∧ b = 14) ∨ (a = 10 ∧ b = 15) ∨ (a = 10 ∧ b = 16) ∨ (a = 10 ∧ b = 17)) (fun _ _ => False) T res := by
  unfold m_X11_lookAt_b43 at h
  have F0 : Fr (fun _ _ => False) (fun a b => (a = 10 ∧ b = 14) ∨ (a = 10 ∧ b = 15) ∨ (a = 10 ∧ b = 16) ∨ (a = 10 ∧ b = 17)) (fun _ _ => False) T T := Fr.rf
  obtain ⟨T5, eT5, h⟩ := bTe h
  have FT5 := (F0.wI eT5 (Or.inr (Or.inl ⟨rfl, rfl⟩)))
  obtain ⟨T6, eT6, h⟩ := bTe h
  have FT6 := (FT5.wI eT6 (Or.inr (Or.inr (Or.inl ⟨rfl, rfl⟩))))
  obtain ⟨T7, eT7, h⟩ := bTe h
  have FT7 := (FT6.wI eT7 (Or.inr (Or.inr (Or.inr ⟨rfl, rfl⟩))))
  rcases ifo h with h | h
  · have hq := some_i h
    subst hq
    exact FT7
  · obtain ⟨gi, h⟩ := gd h
    obtain ⟨y8, ey8, h⟩ := bTe h
    obtain ⟨z9, ez9, h⟩ := bnd h
    rcases ifo h with h | h
    · obtain ⟨z10, ez10, h⟩ := bnd h
      rcases ifo h with h | h
      · rcases ifo h with h | h
        · exact FT7.trans (fr_X11_lookAt_b114 h)
        · exact FT7.trans (fr_X11_lookAt_b114 h)
      · exact FT7.trans (fr_X11_lookAt_b114 h)
    · exact FT7.trans (fr_X11_lookAt_b114 h)
set_option maxHeartbeats 4000000 in
set_option maxRecDepth 100000 in
theorem fr_X11_lookAt_h5 {rec5 : TT → Option (TT)} {res : TT} (hrec5 : ∀ {T : TT}, rec5 T = some res → Fr (fun _ _ => False) (fun a b => (a = 10 ∧ b = 14) ∨ (a = 10 ∧ b = 15) ∨ (a = 10 ∧ b = 16) ∨ (a = 10 ∧ b = 17)) (fun _ _ => False) T res) {T : TT} (h : m_X11_lookAt_h5 rec5 T = some res) : Fr (fun _ _ => False) (fun a b => (a = 10 ∧ b = 14) ∨ (a = 10 ∧ b = 15) ∨ (a = 10 ∧ b = 16) ∨ (a = 10 ∧ b = 17)) (fun _ _ => False) T res := by
  unfold m_X11_lookAt_h5 at h
  have F0 : Fr (fun _ _ => False) (fun a b => (a = 10 ∧ b = 14) ∨ (a = 10 ∧ b = 15) ∨ (a = 10 ∧ b = 16) ∨ (a = 10 ∧ b = 17)) (fun _ _ => False) T T := Fr.rf
  rcases ifo h with h | h
  · exact F0.trans (fr_X11_lookAt_b43 h)
  · obtain ⟨gi, h⟩ := gd h
    rcases ifo h with h | h
    · obtain ⟨T2, eT2, h⟩ := bTe h
      have FT2 := (F0.wI eT2 (Or.inl ⟨rfl, rfl⟩))
      exact FT2.trans (hrec5 h)
    · exact F0.trans (fr_X11_lookAt_b43 h)
set_option maxHeartbeats 4000000 in
set_option maxRecDepth 100000 in
theorem fr_X11_lookAt_l5 {res : TT} : ∀ (n : Nat) {T : TT} (h : m_X11_lookAt_l5 n T = some res), Fr (fun _ _ => False) (fun a b => (a = 10 ∧ b = 14) ∨ (a = 10 ∧ b = 15) ∨ (a = 10 ∧ b = 16) ∨ (a = 10 ∧ b = 17)) (fun _ _ => False) T res := by
  intro n
  induction n with
  | zero =>
    intro T h
    exact no_some h
  | succ n ih =>
    intro T h
    have h : m_X11_lookAt_h5 (m_X11_lookAt_l5 n) T = some res := h
    exact fr_X11_lookAt_h5 (rec5 := m_X11_lookAt_l5 n) (fun h => ih h) h
set_option maxHeartbeats 4000000 in
set_option maxRecDepth 100000 in
theorem fr_X11_lookAt {T : TT} {x1 : Int32} {res : TT} (h : m_X11_lookAt T x1 = some res) : Fr (fun _ _ => False) (fun a b => (a = 10 ∧ b = 14) ∨ (a = 10 ∧ b = 15) ∨ (a = 10 ∧ b = 16) ∨ (a = 10 ∧ b = 17)) (fun _ _ => False) T res := by
  unfold m_X11_lookAt at h
  have F0 : Fr (fun _ _ => False) (fun a b => (a = 10 ∧ b = 14) ∨ (a = 10 ∧ b = 15) ∨ (a = 10 ∧ b = 16) ∨ (a = 10 ∧ b = 17)) (fun _ _ => False) T T := Fr.rf
  obtain ⟨T1, eT1, h⟩ := bTe h
  have FT1 := (F0.wI eT1 (Or.inl ⟨rfl, rfl⟩))
  exact FT1.trans (fr_X11_lookAt_l5 _ h)
set_option maxHeartbeats 4000000 in
set_option maxRecDepth 100000 in
theorem fr_X11_goBehind {T : TT} {res : TT} (h : m_X11_goBehind T = some res) : Fr (fun _ _ => False) (fun a b => (a = 10 ∧ b = 14) ∨ (a = 10 ∧ b = 15) ∨ (a = 10 ∧ b = 16) ∨ (a = 10 ∧ b = 17)) (fun _ _ => False) T res := by
  unfold m_X11_goBehind at h
  have F0 : Fr (fun _ _ => False) (fun a b => (a = 10 ∧ b = 14) ∨ (a = 10 ∧ b = 15) ∨ (a = 10 ∧ b = 16) ∨ (a = 10 ∧ b = 17)) (fun _ _ => False) T T := Fr.rf
  obtain ⟨z1, ez1, h⟩ := bnd h
  have Fz1 := F0.trans ((fr_X11_lookAt ez1).mono (fun a b h => False.elim h) (fun a b h => h) (fun a b h => False.elim h))
  have hq := some_i h
  subst hq
  exact Fz1
set_option maxHeartbeats 4000000 in
set_option maxRecDepth 100000 in
theorem fr_X11_takes {T : TT} {x1 : Int32} {x2 : Int32} {x3 : Int32} {res : Int32 × TT} (h : m_X11_takes T x1 x2 x3 = some res) : Fr (fun a b => (a = 10 ∧ b = 10)) (fun a b => (a = 10 ∧ b = 14) ∨ (a = 10 ∧ b = 15) ∨ (a = 10 ∧ b = 16) ∨ (a = 10 ∧ b = 17)) (fun _ _ => False) T res.2 := by
  unfold m_X11_takes at h
  have F0 : Fr (fun a b => (a = 10 ∧ b = 10)) (fun a b => (a = 10 ∧ b = 14) ∨ (a = 10 ∧ b = 15) ∨ (a = 10 ∧ b = 16) ∨ (a = 10 ∧ b = 17)) (fun _ _ => False) T T := Fr.rf
  rcases ifo h with h | h
  · obtain ⟨z1, ez1, h⟩ := bnd h
    rcases ifo h with h | h
    · have hq := some_i h
      subst hq
      exact F0
    · obtain ⟨gi, h⟩ := gd h
      obtain ⟨T2, eT2, h⟩ := bTe h
      have FT2 := (F0.wA eT2 ⟨rfl, rfl⟩)
      obtain ⟨z3, ez3, h⟩ := bnd h
      have Fz3 := FT2.trans ((fr_X11_goBehind ez3).mono (fun a b h => False.elim h) (fun a b h => h) (fun a b h => False.elim h))
      have hq := some_i h
      subst hq
      exact Fz3
  · have hq := some_i h
    subst hq
    exact F0
set_option maxHeartbeats 4000000 in
set_option maxRecDepth 100000 in
theorem fr_X11_takesDriver {T : TT} {res : Int32 × TT} (h : m_X11_takesDriver T = some res) : Fr (fun a b => (a = 10 ∧ b = 10) ∨ (a = 10 ∧ b = 9)) (fun a b => (a = 10 ∧ b = 14) ∨ (a = 10 ∧ b = 15) ∨ (a = 10 ∧ b = 16) ∨ (a = 10 ∧ b = 17)) (fun _ _ => False) T res.2 := by
  unfold m_X11_takesDriver at h
  have F0 : Fr (fun a b => (a = 10 ∧ b = 10) ∨ (a = 10 ∧ b = 9)) (fun a b => (a = 10 ∧ b = 14) ∨ (a = 10 ∧ b = 15) ∨ (a = 10 ∧ b = 16) ∨ (a = 10 ∧ b = 17)) (fun _ _ => False) T T := Fr.rf
  rcases ifo h with h | h
  · have hq := some_i h
    subst hq
    exact F0
  · obtain ⟨z1, ez1, h⟩ := bnd h
    have Fz1 := F0.trans ((fr_X11_goBehind ez1).mono (fun a b h => False.elim h) (fun a b h => h) (fun a b h => False.elim h))
    obtain ⟨z2, ez2, h⟩ := bnd h
    have Fz2 := Fz1.trans ((fr_X11_takes ez2).mono (fun a b h => (Or.inl h)) (fun a b h => h) (fun a b h => False.elim h))
    rcases ifo h with h | h
    · have hq := some_i h
      subst hq
      exact Fz2
    · obtain ⟨z3, ez3, h⟩ := bnd h
      have Fz3 := Fz2.trans ((fr_X11_takes ez3).mono (fun a b h => (Or.inl h)) (fun a b h => h) (fun a b h => False.elim h))
      rcases ifo h with h | h
      · have hq := some_i h
        subst hq
        exact Fz3
      · obtain ⟨z4, ez4, h⟩ := bnd h
        have Fz4 := Fz3.trans ((fr_X11_layDriver ez4).mono (fun a b h => (Or.inr h)) (fun a b h => False.elim h) (fun a b h => False.elim h))
        have hq := some_i h
        subst hq
        exact Fz4
set_option maxHeartbeats 4000000 in
set_option maxRecDepth 100000 in
theorem fr_X11_takesDays_h29 {rec29 : TT → Int32 → Option (Int32 × TT)} {res : Int32 × TT} (hrec29 : ∀ {T : TT} {x1 : Int32}, rec29 T x1 = some res → Fr (fun a b => (a = 10 ∧ b = 10) ∨ (a = 10 ∧ b = 9)) (fun a b => (a = 10 ∧ b = 14) ∨ (a = 10 ∧ b = 15) ∨ (a = 10 ∧ b = 16) ∨ (a = 10 ∧ b = 17) ∨ (a = 10 ∧ b = 6) ∨ (a = 10 ∧ b = 7)) (fun _ _ => False) T res.2) {T : TT} {x1 : Int32} (h : m_X11_takesDays_h29 rec29 T x1 = some res) : Fr (fun a b => (a = 10 ∧ b = 10) ∨ (a = 10 ∧ b = 9)) (fun a b => (a = 10 ∧ b = 14) ∨ (a = 10 ∧ b = 15) ∨ (a = 10 ∧ b = 16) ∨ (a = 10 ∧ b = 17) ∨ (a = 10 ∧ b = 6) ∨ (a = 10 ∧ b = 7)) (fun _ _ => False) T res.2 := by
  unfold m_X11_takesDays_h29 at h
  have F0 : Fr (fun a b => (a = 10 ∧ b = 10) ∨ (a = 10 ∧ b = 9)) (fun a b => (a = 10 ∧ b = 14) ∨ (a = 10 ∧ b = 15) ∨ (a = 10 ∧ b = 16) ∨ (a = 10 ∧ b = 17) ∨ (a = 10 ∧ b = 6) ∨ (a = 10 ∧ b = 7)) (fun _ _ => False) T T := Fr.rf
  rcases ifo h with h | h
  · have hq := some_i h
    subst hq
    exact F0
  · rcases ifo h with h | h
    · have hq := some_i h
      subst hq
      exact F0
    · obtain ⟨z6, ez6, h⟩ := bnd h
      have Fz6 := F0.trans ((fr_X11_passDay ez6).mono (fun a b h => (Or.inr h)) (fun a b h => by
    rcases h with h | h
    · exact (Or.inr (Or.inr (Or.inr (Or.inr (Or.inl h)))))
    · exact (Or.inr (Or.inr (Or.inr (Or.inr (Or.inr h)))))) (fun a b h => False.elim h))
      obtain ⟨y7, ey7, h⟩ := bTe h
      exact Fz6.trans (hrec29 h)
set_option maxHeartbeats 4000000 in
set_option maxRecDepth 100000 in
theorem fr_X11_takesDays_l29 {res : Int32 × TT} : ∀ (n : Nat) {T : TT} {x1 : Int32} (h : m_X11_takesDays_l29 n T x1 = some res), Fr (fun a b => (a = 10 ∧ b = 10) ∨ (a = 10 ∧ b = 9)) (fun a b => (a = 10 ∧ b = 14) ∨ (a = 10 ∧ b = 15) ∨ (a = 10 ∧ b = 16) ∨ (a = 10 ∧ b = 17) ∨ (a = 10 ∧ b = 6) ∨ (a = 10 ∧ b = 7)) (fun _ _ => False) T res.2 := by
  intro n
  induction n with
  | zero =>
    intro T x1 h
    exact no_some h
  | succ n ih =>
    intro T x1 h
    have h : m_X11_takesDays_h29 (m_X11_takesDays_l29 n) T x1 = some res := h
    exact fr_X11_takesDays_h29 (rec29 := m_X11_takesDays_l29 n) (fun h => ih h) h
set_option maxHeartbeats 4000000 in
set_option maxRecDepth 100000 in
theorem fr_X11_takesDays {T : TT} {res : Int32 × TT} (h : m_X11_takesDays T = some res) : Fr (fun a b => (a = 10 ∧ b = 10) ∨ (a = 10 ∧ b = 9)) (fun a b => (a = 10 ∧ b = 14) ∨ (a = 10 ∧ b = 15) ∨ (a = 10 ∧ b = 16) ∨ (a = 10 ∧ b = 17) ∨ (a = 10 ∧ b = 6) ∨ (a = 10 ∧ b = 7)) (fun _ _ => False) T res.2 := by
  unfold m_X11_takesDays at h
  have F0 : Fr (fun a b => (a = 10 ∧ b = 10) ∨ (a = 10 ∧ b = 9)) (fun a b => (a = 10 ∧ b = 14) ∨ (a = 10 ∧ b = 15) ∨ (a = 10 ∧ b = 16) ∨ (a = 10 ∧ b = 17) ∨ (a = 10 ∧ b = 6) ∨ (a = 10 ∧ b = 7)) (fun _ _ => False) T T := Fr.rf
  obtain ⟨z1, ez1, h⟩ := bnd h
  have Fz1 := F0.trans ((fr_X11_goBehind ez1).mono (fun a b h => False.elim h) (fun a b h => by
    rcases h with h | h | h | h
    · exact (Or.inl h)
    · exact (Or.inr (Or.inl h))
    · exact (Or.inr (Or.inr (Or.inl h)))
    · exact (Or.inr (Or.inr (Or.inr (Or.inl h))))) (fun a b h => False.elim h))
  obtain ⟨z2, ez2, h⟩ := bnd h
  have Fz2 := Fz1.trans ((fr_X11_takes ez2).mono (fun a b h => (Or.inl h)) (fun a b h => by
    rcases h with h | h | h | h
    · exact (Or.inl h)
    · exact (Or.inr (Or.inl h))
    · exact (Or.inr (Or.inr (Or.inl h)))
    · exact (Or.inr (Or.inr (Or.inr (Or.inl h))))) (fun a b h => False.elim h))
  rcases ifo h with h | h
  · have hq := some_i h
    subst hq
    exact Fz2
  · obtain ⟨z3, ez3, h⟩ := bnd h
    have Fz3 := Fz2.trans ((fr_X11_takes ez3).mono (fun a b h => (Or.inl h)) (fun a b h => by
    rcases h with h | h | h | h
    · exact (Or.inl h)
    · exact (Or.inr (Or.inl h))
    · exact (Or.inr (Or.inr (Or.inl h)))
    · exact (Or.inr (Or.inr (Or.inr (Or.inl h))))) (fun a b h => False.elim h))
    rcases ifo h with h | h
    · have hq := some_i h
      subst hq
      exact Fz3
    · exact Fz3.trans (fr_X11_takesDays_l29 _ h)
set_option maxHeartbeats 4000000 in
set_option maxRecDepth 100000 in
theorem fr_X11_takesItem {T : TT} {res : Int32 × TT} (h : m_X11_takesItem T = some res) : Fr (fun a b => (a = 10 ∧ b = 10) ∨ (a = 10 ∧ b = 9)) (fun a b => (a = 10 ∧ b = 14) ∨ (a = 10 ∧ b = 15) ∨ (a = 10 ∧ b = 16) ∨ (a = 10 ∧ b = 17) ∨ (a = 10 ∧ b = 6) ∨ (a = 10 ∧ b = 7)) (fun _ _ => False) T res.2 := by
  unfold m_X11_takesItem at h
  have F0 : Fr (fun a b => (a = 10 ∧ b = 10) ∨ (a = 10 ∧ b = 9)) (fun a b => (a = 10 ∧ b = 14) ∨ (a = 10 ∧ b = 15) ∨ (a = 10 ∧ b = 16) ∨ (a = 10 ∧ b = 17) ∨ (a = 10 ∧ b = 6) ∨ (a = 10 ∧ b = 7)) (fun _ _ => False) T T := Fr.rf
  obtain ⟨z1, ez1, h⟩ := bnd h
  rcases ifo h with h | h
  · obtain ⟨z2, ez2, h⟩ := bnd h
    rcases ifo h with h | h
    · have hq := some_i h
      subst hq
      exact F0
    · obtain ⟨z3, ez3, h⟩ := bnd h
      have Fz3 := F0.trans ((fr_X11_takesDays ez3).mono (fun a b h => h) (fun a b h => h) (fun a b h => False.elim h))
      rcases ifo h with h | h
      · have hq := some_i h
        subst hq
        exact Fz3
      · have hq := some_i h
        subst hq
        exact Fz3
  · obtain ⟨z6, ez6, h⟩ := bnd h
    have Fz6 := F0.trans ((fr_X11_takesDriver ez6).mono (fun a b h => h) (fun a b h => by
    rcases h with h | h | h | h
    · exact (Or.inl h)
    · exact (Or.inr (Or.inl h))
    · exact (Or.inr (Or.inr (Or.inl h)))
    · exact (Or.inr (Or.inr (Or.inr (Or.inl h))))) (fun a b h => False.elim h))
    obtain ⟨gi, h⟩ := gd h
    have hq := some_i h
    subst hq
    exact Fz6
set_option maxHeartbeats 4000000 in
set_option maxRecDepth 100000 in
theorem fr_X11_read_h106 {rec106 : TT → Int32 → Int32 → Option (Int32 × TT)} {res : Int32 × TT} (hrec106 : ∀ {T : TT} {x1 : Int32} {x2 : Int32}, rec106 T x1 x2 = some res → Fr (fun a b => (a = 10 ∧ b = 1) ∨ (a = 10 ∧ b = 10) ∨ (a = 10 ∧ b = 9)) (fun a b => (a = 10 ∧ b = 14) ∨ (a = 10 ∧ b = 15) ∨ (a = 10 ∧ b = 16) ∨ (a = 10 ∧ b = 17) ∨ (a = 10 ∧ b = 6) ∨ (a = 10 ∧ b = 7)) (fun _ _ => False) T res.2) {T : TT} {x1 : Int32} {x2 : Int32} (h : m_X11_read_h106 rec106 T x1 x2 = some res) : Fr (fun a b => (a = 10 ∧ b = 1) ∨ (a = 10 ∧ b = 10) ∨ (a = 10 ∧ b = 9)) (fun a b => (a = 10 ∧ b = 14) ∨ (a = 10 ∧ b = 15) ∨ (a = 10 ∧ b = 16) ∨ (a = 10 ∧ b = 17) ∨ (a = 10 ∧ b = 6) ∨ (a = 10 ∧ b = 7)) (fun _ _ => False) T res.2 := by
  unfold m_X11_read_h106 at h
  have F0 : Fr (fun a b => (a = 10 ∧ b = 1) ∨ (a = 10 ∧ b = 10) ∨ (a = 10 ∧ b = 9)) (fun a b => (a = 10 ∧ b = 14) ∨ (a = 10 ∧ b = 15) ∨ (a = 10 ∧ b = 16) ∨ (a = 10 ∧ b = 17) ∨ (a = 10 ∧ b = 6) ∨ (a = 10 ∧ b = 7)) (fun _ _ => False) T T := Fr.rf
  rcases ifo h with h | h
  · have hq := some_i h
    subst hq
    exact F0
  · obtain ⟨gi, h⟩ := gd h
    obtain ⟨gi, h⟩ := gd h
    obtain ⟨T14, eT14, h⟩ := bTe h
    have FT14 := (F0.wA eT14 (Or.inl ⟨rfl, rfl⟩))
    obtain ⟨y15, ey15, h⟩ := bTe h
    exact FT14.trans (hrec106 h)
set_option maxHeartbeats 4000000 in
set_option maxRecDepth 100000 in
theorem fr_X11_read_l106 {res : Int32 × TT} : ∀ (n : Nat) {T : TT} {x1 : Int32} {x2 : Int32} (h : m_X11_read_l106 n T x1 x2 = some res), Fr (fun a b => (a = 10 ∧ b = 1) ∨ (a = 10 ∧ b = 10) ∨ (a = 10 ∧ b = 9)) (fun a b => (a = 10 ∧ b = 14) ∨ (a = 10 ∧ b = 15) ∨ (a = 10 ∧ b = 16) ∨ (a = 10 ∧ b = 17) ∨ (a = 10 ∧ b = 6) ∨ (a = 10 ∧ b = 7)) (fun _ _ => False) T res.2 := by
  intro n
  induction n with
  | zero =>
    intro T x1 x2 h
    exact no_some h
  | succ n ih =>
    intro T x1 x2 h
    have h : m_X11_read_h106 (m_X11_read_l106 n) T x1 x2 = some res := h
    exact fr_X11_read_h106 (rec106 := m_X11_read_l106 n) (fun h => ih h) h
set_option maxHeartbeats 4000000 in
set_option maxRecDepth 100000 in
theorem fr_X11_read_h64 {rec64 : TT → Int32 → Option (Int32 × TT)} {res : Int32 × TT} (hrec64 : ∀ {T : TT} {x1 : Int32}, rec64 T x1 = some res → Fr (fun a b => (a = 10 ∧ b = 1) ∨ (a = 10 ∧ b = 10) ∨ (a = 10 ∧ b = 9)) (fun a b => (a = 10 ∧ b = 14) ∨ (a = 10 ∧ b = 15) ∨ (a = 10 ∧ b = 16) ∨ (a = 10 ∧ b = 17) ∨ (a = 10 ∧ b = 6) ∨ (a = 10 ∧ b = 7)) (fun _ _ => False) T res.2) {T : TT} {x1 : Int32} (h : m_X11_read_h64 rec64 T x1 = some res) : Fr (fun a b => (a = 10 ∧ b = 1) ∨ (a = 10 ∧ b = 10) ∨ (a = 10 ∧ b = 9)) (fun a b => (a = 10 ∧ b = 14) ∨ (a = 10 ∧ b = 15) ∨ (a = 10 ∧ b = 16) ∨ (a = 10 ∧ b = 17) ∨ (a = 10 ∧ b = 6) ∨ (a = 10 ∧ b = 7)) (fun _ _ => False) T res.2 := by
  unfold m_X11_read_h64 at h
  have F0 : Fr (fun a b => (a = 10 ∧ b = 1) ∨ (a = 10 ∧ b = 10) ∨ (a = 10 ∧ b = 9)) (fun a b => (a = 10 ∧ b = 14) ∨ (a = 10 ∧ b = 15) ∨ (a = 10 ∧ b = 16) ∨ (a = 10 ∧ b = 17) ∨ (a = 10 ∧ b = 6) ∨ (a = 10 ∧ b = 7)) (fun _ _ => False) T T := Fr.rf
  rcases ifo h with h | h
  · exact F0.trans (fr_X11_read_l106 _ h)
  · obtain ⟨z8, ez8, h⟩ := bnd h
    have Fz8 := F0.trans ((fr_X11_takesItem ez8).mono (fun a b h => by
    rcases h with h | h
    · exact (Or.inr (Or.inl h))
    · exact (Or.inr (Or.inr h))) (fun a b h => h) (fun a b h => False.elim h))
    rcases ifo h with h | h
    · have hq := some_i h
      subst hq
      exact Fz8
    · rcases ifo h with h | h
      · obtain ⟨z9, ez9, h⟩ := bnd h
        have Fz9 := Fz8.trans ((fr_X11_goBehind ez9).mono (fun a b h => False.elim h) (fun a b h => by
    rcases h with h | h | h | h
    · exact (Or.inl h)
    · exact (Or.inr (Or.inl h))
    · exact (Or.inr (Or.inr (Or.inl h)))
    · exact (Or.inr (Or.inr (Or.inr (Or.inl h))))) (fun a b h => False.elim h))
        obtain ⟨y10, ey10, h⟩ := bTe h
        exact Fz9.trans (hrec64 h)
      · have hq := some_i h
        subst hq
        exact Fz8
set_option maxHeartbeats 4000000 in
set_option maxRecDepth 100000 in
theorem fr_X11_read_l64 {res : Int32 × TT} : ∀ (n : Nat) {T : TT} {x1 : Int32} (h : m_X11_read_l64 n T x1 = some res), Fr (fun a b => (a = 10 ∧ b = 1) ∨ (a = 10 ∧ b = 10) ∨ (a = 10 ∧ b = 9)) (fun a b => (a = 10 ∧ b = 14) ∨ (a = 10 ∧ b = 15) ∨ (a = 10 ∧ b = 16) ∨ (a = 10 ∧ b = 17) ∨ (a = 10 ∧ b = 6) ∨ (a = 10 ∧ b = 7)) (fun _ _ => False) T res.2 := by
  intro n
  induction n with
  | zero =>
    intro T x1 h
    exact no_some h
  | succ n ih =>
    intro T x1 h
    have h : m_X11_read_h64 (m_X11_read_l64 n) T x1 = some res := h
    exact fr_X11_read_h64 (rec64 := m_X11_read_l64 n) (fun h => ih h) h
set_option maxHeartbeats 4000000 in
set_option maxRecDepth 100000 in
theorem fr_X11_read {T : TT} {res : Int32 × TT} (h : m_X11_read T = some res) : Fr (fun a b => (a = 10 ∧ b = 1) ∨ (a = 10 ∧ b = 10) ∨ (a = 10 ∧ b = 9)) (fun a b => (a = 10 ∧ b = 14) ∨ (a = 10 ∧ b = 15) ∨ (a = 10 ∧ b = 16) ∨ (a = 10 ∧ b = 17) ∨ (a = 10 ∧ b = 6) ∨ (a = 10 ∧ b = 7)) (fun _ _ => False) T res.2 := by
  unfold m_X11_read at h
  have F0 : Fr (fun a b => (a = 10 ∧ b = 1) ∨ (a = 10 ∧ b = 10) ∨ (a = 10 ∧ b = 9)) (fun a b => (a = 10 ∧ b = 14) ∨ (a = 10 ∧ b = 15) ∨ (a = 10 ∧ b = 16) ∨ (a = 10 ∧ b = 17) ∨ (a = 10 ∧ b = 6) ∨ (a = 10 ∧ b = 7)) (fun _ _ => False) T T := Fr.rf
  obtain ⟨z1, ez1, h⟩ := bnd h
  have Fz1 := F0.trans ((fr_X11_lookAt ez1).mono (fun a b h => False.elim h) (fun a b h => by
    rcases h with h | h | h | h
    · exact (Or.inl h)
    · exact (Or.inr (Or.inl h))
    · exact (Or.inr (Or.inr (Or.inl h)))
    · exact (Or.inr (Or.inr (Or.inr (Or.inl h))))) (fun a b h => False.elim h))
  obtain ⟨z2, ez2, h⟩ := bnd h
  rcases ifo h with h | h
  · have hq := some_i h
    subst hq
    exact Fz1
  · obtain ⟨z3, ez3, h⟩ := bnd h
    have Fz3 := Fz1.trans ((fr_X11_goBehind ez3).mono (fun a b h => False.elim h) (fun a b h => by
    rcases h with h | h | h | h
    · exact (Or.inl h)
    · exact (Or.inr (Or.inl h))
    · exact (Or.inr (Or.inr (Or.inl h)))
    · exact (Or.inr (Or.inr (Or.inr (Or.inl h))))) (fun a b h => False.elim h))
    rcases ifo h with h | h
    · obtain ⟨z4, ez4, h⟩ := bnd h
      have Fz4 := Fz3.trans ((fr_X11_goBehind ez4).mono (fun a b h => False.elim h) (fun a b h => by
    rcases h with h | h | h | h
    · exact (Or.inl h)
    · exact (Or.inr (Or.inl h))
    · exact (Or.inr (Or.inr (Or.inl h)))
    · exact (Or.inr (Or.inr (Or.inr (Or.inl h))))) (fun a b h => False.elim h))
      obtain ⟨z5, ez5, h⟩ := bnd h
      have Fz5 := Fz4.trans ((fr_X11_begin ez5).mono (fun a b h => (Or.inr (Or.inr h))) (fun a b h => False.elim h) (fun a b h => False.elim h))
      exact Fz5.trans (fr_X11_read_l64 _ h)
    · have hq := some_i h
      subst hq
      exact Fz3
set_option maxHeartbeats 4000000 in
set_option maxRecDepth 100000 in
theorem fr_X11_part {T : TT} {x1 : Int32} {res : Int64 × TT} (h : m_X11_part T x1 = some res) : Fr (fun a b => (a = 10 ∧ b = 4)) (fun _ _ => False) (fun _ _ => False) T res.2 := by
  unfold m_X11_part at h
  have F0 : Fr (fun a b => (a = 10 ∧ b = 4)) (fun _ _ => False) (fun _ _ => False) T T := Fr.rf
  rcases ifo h with h | h
  · have hq := some_i h
    subst hq
    exact F0
  · rcases ifo h with h | h
    · have hq := some_i h
      subst hq
      exact F0
    · obtain ⟨z1, ez1, h⟩ := bnd h
      have Fz1 := F0.trans ((fr_X11_bad ez1).mono (fun a b h => h) (fun a b h => False.elim h) (fun a b h => False.elim h))
      have hq := some_i h
      subst hq
      exact Fz1
set_option maxHeartbeats 4000000 in
set_option maxRecDepth 100000 in
theorem fr_X11_image_h19 {rec19 : TT → Int32 → Int32 → Option (Int32 × TT)} {res : Int32 × TT} (hrec19 : ∀ {T : TT} {x1 : Int32} {x2 : Int32}, rec19 T x1 x2 = some res → Fr (fun a b => (a = 10 ∧ b = 2) ∨ (a = 10 ∧ b = 3) ∨ (a = 10 ∧ b = 4)) (fun _ _ => False) (fun _ _ => False) T res.2) {T : TT} {x1 : Int32} {x2 : Int32} (h : m_X11_image_h19 rec19 T x1 x2 = some res) : Fr (fun a b => (a = 10 ∧ b = 2) ∨ (a = 10 ∧ b = 3) ∨ (a = 10 ∧ b = 4)) (fun _ _ => False) (fun _ _ => False) T res.2 := by
  unfold m_X11_image_h19 at h
  have F0 : Fr (fun a b => (a = 10 ∧ b = 2) ∨ (a = 10 ∧ b = 3) ∨ (a = 10 ∧ b = 4)) (fun _ _ => False) (fun _ _ => False) T T := Fr.rf
  rcases ifo h with h | h
  · obtain ⟨gi, h⟩ := gd h
    obtain ⟨T4, eT4, h⟩ := bTe h
    have FT4 := (F0.wA eT4 (Or.inr (Or.inl ⟨rfl, rfl⟩)))
    have hq := some_i h
    subst hq
    exact FT4
  · obtain ⟨gi, h⟩ := gd h
    obtain ⟨gi, h⟩ := gd h
    obtain ⟨T5, eT5, h⟩ := bTe h
    have FT5 := (F0.wA eT5 (Or.inl ⟨rfl, rfl⟩))
    obtain ⟨y6, ey6, h⟩ := bTe h
    exact FT5.trans (hrec19 h)
set_option maxHeartbeats 4000000 in
set_option maxRecDepth 100000 in
theorem fr_X11_image_l19 {res : Int32 × TT} : ∀ (n : Nat) {T : TT} {x1 : Int32} {x2 : Int32} (h : m_X11_image_l19 n T x1 x2 = some res), Fr (fun a b => (a = 10 ∧ b = 2) ∨ (a = 10 ∧ b = 3) ∨ (a = 10 ∧ b = 4)) (fun _ _ => False) (fun _ _ => False) T res.2 := by
  intro n
  induction n with
  | zero =>
    intro T x1 x2 h
    exact no_some h
  | succ n ih =>
    intro T x1 x2 h
    have h : m_X11_image_h19 (m_X11_image_l19 n) T x1 x2 = some res := h
    exact fr_X11_image_h19 (rec19 := m_X11_image_l19 n) (fun h => ih h) h
set_option maxHeartbeats 4000000 in
set_option maxRecDepth 100000 in
theorem fr_X11_image {T : TT} {x1 : Int32} {res : Int32 × TT} (h : m_X11_image T x1 = some res) : Fr (fun a b => (a = 10 ∧ b = 2) ∨ (a = 10 ∧ b = 3) ∨ (a = 10 ∧ b = 4)) (fun _ _ => False) (fun _ _ => False) T res.2 := by
  unfold m_X11_image at h
  have F0 : Fr (fun a b => (a = 10 ∧ b = 2) ∨ (a = 10 ∧ b = 3) ∨ (a = 10 ∧ b = 4)) (fun _ _ => False) (fun _ _ => False) T T := Fr.rf
  obtain ⟨z1, ez1, h⟩ := bnd h
  rcases ifo h with h | h
  · obtain ⟨z2, ez2, h⟩ := bnd h
    have Fz2 := F0.trans ((fr_X11_bad ez2).mono (fun a b h => (Or.inr (Or.inr h))) (fun a b h => False.elim h) (fun a b h => False.elim h))
    have hq := some_i h
    subst hq
    exact Fz2
  · exact F0.trans (fr_X11_image_l19 _ h)
set_option maxHeartbeats 4000000 in
set_option maxRecDepth 100000 in
theorem fr_X11_from_h33 {rec33 : TT → Int32 → Int32 → Option (Int32 × TT)} {res : Int32 × TT} (hrec33 : ∀ {T : TT} {x1 : Int32} {x2 : Int32}, rec33 T x1 x2 = some res → Fr (fun a b => (a = 10 ∧ b = 1) ∨ (a = 10 ∧ b = 4)) (fun _ _ => False) (fun _ _ => False) T res.2) {T : TT} {x1 : Int32} {x2 : Int32} (h : m_X11_from_h33 rec33 T x1 x2 = some res) : Fr (fun a b => (a = 10 ∧ b = 1) ∨ (a = 10 ∧ b = 4)) (fun _ _ => False) (fun _ _ => False) T res.2 := by
  unfold m_X11_from_h33 at h
  have F0 : Fr (fun a b => (a = 10 ∧ b = 1) ∨ (a = 10 ∧ b = 4)) (fun _ _ => False) (fun _ _ => False) T T := Fr.rf
  rcases ifo h with h | h
  · have hq := some_i h
    subst hq
    exact F0
  · obtain ⟨gi, h⟩ := gd h
    obtain ⟨gi, h⟩ := gd h
    obtain ⟨T6, eT6, h⟩ := bTe h
    have FT6 := (F0.wA eT6 (Or.inl ⟨rfl, rfl⟩))
    obtain ⟨y7, ey7, h⟩ := bTe h
    exact FT6.trans (hrec33 h)
set_option maxHeartbeats 4000000 in
set_option maxRecDepth 100000 in
theorem fr_X11_from_l33 {res : Int32 × TT} : ∀ (n : Nat) {T : TT} {x1 : Int32} {x2 : Int32} (h : m_X11_from_l33 n T x1 x2 = some res), Fr (fun a b => (a = 10 ∧ b = 1) ∨ (a = 10 ∧ b = 4)) (fun _ _ => False) (fun _ _ => False) T res.2 := by
  intro n
  induction n with
  | zero =>
    intro T x1 x2 h
    exact no_some h
  | succ n ih =>
    intro T x1 x2 h
    have h : m_X11_from_h33 (m_X11_from_l33 n) T x1 x2 = some res := h
    exact fr_X11_from_h33 (rec33 := m_X11_from_l33 n) (fun h => ih h) h
set_option maxHeartbeats 4000000 in
set_option maxRecDepth 100000 in
theorem fr_X11_from {T : TT} {x1 : Int32} {res : Int32 × TT} (h : m_X11_from T x1 = some res) : Fr (fun a b => (a = 10 ∧ b = 1) ∨ (a = 10 ∧ b = 4)) (fun _ _ => False) (fun _ _ => False) T res.2 := by
  unfold m_X11_from at h
  have F0 : Fr (fun a b => (a = 10 ∧ b = 1) ∨ (a = 10 ∧ b = 4)) (fun _ _ => False) (fun _ _ => False) T T := Fr.rf
  obtain ⟨z1, ez1, h⟩ := bnd h
  rcases ifo h with h | h
  · obtain ⟨z4, ez4, h⟩ := bnd h
    have Fz4 := F0.trans ((fr_X11_bad ez4).mono (fun a b h => (Or.inr h)) (fun a b h => False.elim h) (fun a b h => False.elim h))
    have hq := some_i h
    subst hq
    exact Fz4
  · obtain ⟨gi, h⟩ := gd h
    rcases ifo h with h | h
    · obtain ⟨z2, ez2, h⟩ := bnd h
      have Fz2 := F0.trans ((fr_X11_no ez2).mono (fun a b h => (Or.inr h)) (fun a b h => False.elim h) (fun a b h => False.elim h))
      have hq := some_i h
      subst hq
      exact Fz2
    · exact F0.trans (fr_X11_from_l33 _ h)
set_option maxHeartbeats 4000000 in
set_option maxRecDepth 100000 in
theorem fr_X11_status {T : TT} {x1 : Int32} {res : Int32 × TT} (h : m_X11_status T x1 = some res) : Fr (fun a b => (a = 10 ∧ b = 4)) (fun _ _ => False) (fun _ _ => False) T res.2 := by
  unfold m_X11_status at h
  have F0 : Fr (fun a b => (a = 10 ∧ b = 4)) (fun _ _ => False) (fun _ _ => False) T T := Fr.rf
  obtain ⟨z1, ez1, h⟩ := bnd h
  rcases ifo h with h | h
  · obtain ⟨z2, ez2, h⟩ := bnd h
    have Fz2 := F0.trans ((fr_X11_bad ez2).mono (fun a b h => h) (fun a b h => False.elim h) (fun a b h => False.elim h))
    have hq := some_i h
    subst hq
    exact Fz2
  · obtain ⟨gi, h⟩ := gd h
    have hq := some_i h
    subst hq
    exact F0
set_option maxHeartbeats 4000000 in
set_option maxRecDepth 100000 in
theorem fr_X11_count {T : TT} {x1 : Int32} {res : Int32 × TT} (h : m_X11_count T x1 = some res) : Fr (fun a b => (a = 10 ∧ b = 4)) (fun _ _ => False) (fun _ _ => False) T res.2 := by
  unfold m_X11_count at h
  have F0 : Fr (fun a b => (a = 10 ∧ b = 4)) (fun _ _ => False) (fun _ _ => False) T T := Fr.rf
  obtain ⟨z1, ez1, h⟩ := bnd h
  rcases ifo h with h | h
  · obtain ⟨z2, ez2, h⟩ := bnd h
    have Fz2 := F0.trans ((fr_X11_bad ez2).mono (fun a b h => h) (fun a b h => False.elim h) (fun a b h => False.elim h))
    have hq := some_i h
    subst hq
    exact Fz2
  · obtain ⟨z3, ez3, h⟩ := bnd h
    have hq := some_i h
    subst hq
    exact F0
