/-! the two sides keep step -/
def J_ (n d : Nat) (va vb vc ve vth wl : NI_) (u : CT_) (s : MT_) : Prop := PI_ (gM_ wl) n ∧ MI_ (gM_ wl) n d ∧ TH_ vth ∧ cI_ (gM_ wl) n d u ∧ mI_ (gM_ wl) n s ∧ gC_ va vb vc ve = gM_ wl
section JJ
variable {n d : Nat} {va vb vc ve vth wl : NI_} {u : CT_} {s : MT_}
def s8_ (s : MT_) : MU_ := (s.1, s.2.1, s.2.2.1, s.2.2.2.1, s.2.2.2.2.1, s.2.2.2.2.2.1, s.2.2.2.2.2.2.1, s.2.2.2.2.2.2.2.1)
def s9_ (t : MU_) (x : Nat → Int64) : MT_ := (t.1, t.2.1, t.2.2.1, t.2.2.2.1, t.2.2.2.2.1, t.2.2.2.2.2.1, t.2.2.2.2.2.2.1, t.2.2.2.2.2.2.2, x)
def sT_ (s : MT_) (x : Nat → Int64) : MT_ := (s.1, s.2.1, s.2.2.1, s.2.2.2.1, s.2.2.2.2.1, s.2.2.2.2.2.1, s.2.2.2.2.2.2.1, s.2.2.2.2.2.2.2.1, x)
theorem yn_one {x y : Int32} {P : Prop} (h : yn_ x P) (h' : yn_ y P) : x = y := by
  rcases h with ⟨rfl, a⟩ | ⟨rfl, a⟩
  · rcases h' with ⟨rfl, b⟩ | ⟨rfl, b⟩
    · rfl
    · exact absurd a b
  · rcases h' with ⟨rfl, b⟩ | ⟨rfl, b⟩
    · exact absurd b a
    · rfl
theorem j_faces (hJ : J_ n d va vb vc ve vth wl u s) (p : Int32) : ∃ (a : Int32) (u2 : CT_) (s2 : MT_), fX5_faces (nI d) (nI n) u.1 u.2.1 u.2.2.1 va vb vc ve vth u.2.2.2.1 u.2.2.2.2.1 u.2.2.2.2.2.1 u.2.2.2.2.2.2.1 u.2.2.2.2.2.2.2.1 u.2.2.2.2.2.2.2.2.1 u.2.2.2.2.2.2.2.2.2.1 u.2.2.2.2.2.2.2.2.2.2.1 u.2.2.2.2.2.2.2.2.2.2.2.1 u.2.2.2.2.2.2.2.2.2.2.2.2.1 u.2.2.2.2.2.2.2.2.2.2.2.2.2.1 u.2.2.2.2.2.2.2.2.2.2.2.2.2.2.1 u.2.2.2.2.2.2.2.2.2.2.2.2.2.2.2.1 u.2.2.2.2.2.2.2.2.2.2.2.2.2.2.2.2.1 u.2.2.2.2.2.2.2.2.2.2.2.2.2.2.2.2.2.1 u.2.2.2.2.2.2.2.2.2.2.2.2.2.2.2.2.2.2.1 u.2.2.2.2.2.2.2.2.2.2.2.2.2.2.2.2.2.2.2.1 u.2.2.2.2.2.2.2.2.2.2.2.2.2.2.2.2.2.2.2.2.1 u.2.2.2.2.2.2.2.2.2.2.2.2.2.2.2.2.2.2.2.2.2.1 u.2.2.2.2.2.2.2.2.2.2.2.2.2.2.2.2.2.2.2.2.2.2.1 u.2.2.2.2.2.2.2.2.2.2.2.2.2.2.2.2.2.2.2.2.2.2.2.1 u.2.2.2.2.2.2.2.2.2.2.2.2.2.2.2.2.2.2.2.2.2.2.2.2.1 u.2.2.2.2.2.2.2.2.2.2.2.2.2.2.2.2.2.2.2.2.2.2.2.2.2 p = some (a, u2) ∧ fX6_faces (nI d) (nI n) s.1 s.2.1 s.2.2.1 wl s.2.2.2.1 s.2.2.2.2.1 s.2.2.2.2.2.1 s.2.2.2.2.2.2.1 s.2.2.2.2.2.2.2.1 s.2.2.2.2.2.2.2.2 p = some (a, s2) ∧ J_ n d va vb vc ve vth wl u2 s2 := by
  obtain ⟨hP, hM, hT, hc, hm, hG⟩ := hJ
  obtain ⟨u2, e, h⟩ := c_faces (by rw [hG]; exact hP) hT (by rw [hG]; exact hc) p
  rw [hG] at h; rw [hG] at e
  obtain ⟨t2, e2, h2⟩ := m_faces hM hm p
  exact ⟨_, u2, t2, e, e2, hP, hM, hT, h, h2, hG⟩
theorem j_face (hJ : J_ n d va vb vc ve vth wl u s) (p q : Int32) : ∃ (a : Int32) (u2 : CT_) (s2 : MT_), fX5_face (nI d) (nI n) u.1 u.2.1 u.2.2.1 va vb vc ve vth u.2.2.2.1 u.2.2.2.2.1 u.2.2.2.2.2.1 u.2.2.2.2.2.2.1 u.2.2.2.2.2.2.2.1 u.2.2.2.2.2.2.2.2.1 u.2.2.2.2.2.2.2.2.2.1 u.2.2.2.2.2.2.2.2.2.2.1 u.2.2.2.2.2.2.2.2.2.2.2.1 u.2.2.2.2.2.2.2.2.2.2.2.2.1 u.2.2.2.2.2.2.2.2.2.2.2.2.2.1 u.2.2.2.2.2.2.2.2.2.2.2.2.2.2.1 u.2.2.2.2.2.2.2.2.2.2.2.2.2.2.2.1 u.2.2.2.2.2.2.2.2.2.2.2.2.2.2.2.2.1 u.2.2.2.2.2.2.2.2.2.2.2.2.2.2.2.2.2.1 u.2.2.2.2.2.2.2.2.2.2.2.2.2.2.2.2.2.2.1 u.2.2.2.2.2.2.2.2.2.2.2.2.2.2.2.2.2.2.2.1 u.2.2.2.2.2.2.2.2.2.2.2.2.2.2.2.2.2.2.2.2.1 u.2.2.2.2.2.2.2.2.2.2.2.2.2.2.2.2.2.2.2.2.2.1 u.2.2.2.2.2.2.2.2.2.2.2.2.2.2.2.2.2.2.2.2.2.2.1 u.2.2.2.2.2.2.2.2.2.2.2.2.2.2.2.2.2.2.2.2.2.2.2.1 u.2.2.2.2.2.2.2.2.2.2.2.2.2.2.2.2.2.2.2.2.2.2.2.2.1 u.2.2.2.2.2.2.2.2.2.2.2.2.2.2.2.2.2.2.2.2.2.2.2.2.2 p q = some (a, u2) ∧ fX6_face (nI d) (nI n) s.1 s.2.1 s.2.2.1 wl s.2.2.2.1 s.2.2.2.2.1 s.2.2.2.2.2.1 s.2.2.2.2.2.2.1 s.2.2.2.2.2.2.2.1 s.2.2.2.2.2.2.2.2 p q = some (a, s2) ∧ J_ n d va vb vc ve vth wl u2 s2 := by
  obtain ⟨hP, hM, hT, hc, hm, hG⟩ := hJ
  obtain ⟨x, u2, e, hx, h⟩ := c_face (by rw [hG]; exact hP) hT (by rw [hG]; exact hc) p q
  rw [hG] at h hx
  obtain ⟨y, t2, e2, hy, h2⟩ := m_face hM hm p q
  obtain rfl : x = y := vF_one hM.1 hx hy
  exact ⟨_, u2, t2, e, e2, hP, hM, hT, h, h2, hG⟩
theorem j_width (hJ : J_ n d va vb vc ve vth wl u s) (p : Int32) : ∃ (a : Int32) (u2 : CT_) (s2 : MT_), fX5_width (nI d) (nI n) u.1 u.2.1 u.2.2.1 va vb vc ve vth u.2.2.2.1 u.2.2.2.2.1 u.2.2.2.2.2.1 u.2.2.2.2.2.2.1 u.2.2.2.2.2.2.2.1 u.2.2.2.2.2.2.2.2.1 u.2.2.2.2.2.2.2.2.2.1 u.2.2.2.2.2.2.2.2.2.2.1 u.2.2.2.2.2.2.2.2.2.2.2.1 u.2.2.2.2.2.2.2.2.2.2.2.2.1 u.2.2.2.2.2.2.2.2.2.2.2.2.2.1 u.2.2.2.2.2.2.2.2.2.2.2.2.2.2.1 u.2.2.2.2.2.2.2.2.2.2.2.2.2.2.2.1 u.2.2.2.2.2.2.2.2.2.2.2.2.2.2.2.2.1 u.2.2.2.2.2.2.2.2.2.2.2.2.2.2.2.2.2.1 u.2.2.2.2.2.2.2.2.2.2.2.2.2.2.2.2.2.2.1 u.2.2.2.2.2.2.2.2.2.2.2.2.2.2.2.2.2.2.2.1 u.2.2.2.2.2.2.2.2.2.2.2.2.2.2.2.2.2.2.2.2.1 u.2.2.2.2.2.2.2.2.2.2.2.2.2.2.2.2.2.2.2.2.2.1 u.2.2.2.2.2.2.2.2.2.2.2.2.2.2.2.2.2.2.2.2.2.2.1 u.2.2.2.2.2.2.2.2.2.2.2.2.2.2.2.2.2.2.2.2.2.2.2.1 u.2.2.2.2.2.2.2.2.2.2.2.2.2.2.2.2.2.2.2.2.2.2.2.2.1 u.2.2.2.2.2.2.2.2.2.2.2.2.2.2.2.2.2.2.2.2.2.2.2.2.2 p = some (a, u2) ∧ fX6_width (nI d) (nI n) s.1 s.2.1 s.2.2.1 wl s.2.2.2.1 s.2.2.2.2.1 s.2.2.2.2.2.1 s.2.2.2.2.2.2.1 s.2.2.2.2.2.2.2.1 s.2.2.2.2.2.2.2.2 p = some (a, s2) ∧ J_ n d va vb vc ve vth wl u2 s2 := by
  obtain ⟨hP, hM, hT, hc, hm, hG⟩ := hJ
  obtain ⟨u2, e, h⟩ := c_width (by rw [hG]; exact hP) hT (by rw [hG]; exact hc) p
  rw [hG] at h; rw [hG] at e
  obtain ⟨a1, a2, a3, a4, a5, a6, a7, a8, a9, e2, h2⟩ := m_width hM (od := s.1) (w := s.2.2.2.1) hm s.2.1 s.2.2.1 s.2.2.2.2.1 s.2.2.2.2.2.1 s.2.2.2.2.2.2.1 s.2.2.2.2.2.2.2.1 s.2.2.2.2.2.2.2.2 p
  exact ⟨_, u2, (a1, a2, a3, a4, a5, a6, a7, a8, a9), e, e2, hP, hM, hT, h, h2, hG⟩
theorem j_bounded (hJ : J_ n d va vb vc ve vth wl u s) (p : Int32) : ∃ (a : Int32) (u2 : CT_) (s2 : MT_), fX5_bounded (nI d) (nI n) u.1 u.2.1 u.2.2.1 va vb vc ve vth u.2.2.2.1 u.2.2.2.2.1 u.2.2.2.2.2.1 u.2.2.2.2.2.2.1 u.2.2.2.2.2.2.2.1 u.2.2.2.2.2.2.2.2.1 u.2.2.2.2.2.2.2.2.2.1 u.2.2.2.2.2.2.2.2.2.2.1 u.2.2.2.2.2.2.2.2.2.2.2.1 u.2.2.2.2.2.2.2.2.2.2.2.2.1 u.2.2.2.2.2.2.2.2.2.2.2.2.2.1 u.2.2.2.2.2.2.2.2.2.2.2.2.2.2.1 u.2.2.2.2.2.2.2.2.2.2.2.2.2.2.2.1 u.2.2.2.2.2.2.2.2.2.2.2.2.2.2.2.2.1 u.2.2.2.2.2.2.2.2.2.2.2.2.2.2.2.2.2.1 u.2.2.2.2.2.2.2.2.2.2.2.2.2.2.2.2.2.2.1 u.2.2.2.2.2.2.2.2.2.2.2.2.2.2.2.2.2.2.2.1 u.2.2.2.2.2.2.2.2.2.2.2.2.2.2.2.2.2.2.2.2.1 u.2.2.2.2.2.2.2.2.2.2.2.2.2.2.2.2.2.2.2.2.2.1 u.2.2.2.2.2.2.2.2.2.2.2.2.2.2.2.2.2.2.2.2.2.2.1 u.2.2.2.2.2.2.2.2.2.2.2.2.2.2.2.2.2.2.2.2.2.2.2.1 u.2.2.2.2.2.2.2.2.2.2.2.2.2.2.2.2.2.2.2.2.2.2.2.2.1 u.2.2.2.2.2.2.2.2.2.2.2.2.2.2.2.2.2.2.2.2.2.2.2.2.2 p = some (a, u2) ∧ fX6_bounded (nI d) (nI n) s.1 s.2.1 s.2.2.1 wl s.2.2.2.1 s.2.2.2.2.1 s.2.2.2.2.2.1 s.2.2.2.2.2.2.1 s.2.2.2.2.2.2.2.1 s.2.2.2.2.2.2.2.2 p = some (a, s2) ∧ J_ n d va vb vc ve vth wl u2 s2 := by
  obtain ⟨hP, hM, hT, hc, hm, hG⟩ := hJ
  obtain ⟨x, u2, e, hx, h⟩ := c_bounded (by rw [hG]; exact hM) (by rw [hG]; exact hP) hT (by rw [hG]; exact hc) p
  rw [hG] at h hx
  obtain ⟨y, t2, e2, hy, h2⟩ := m_bounded hM hm p
  obtain rfl : x = y := yn_one hx hy
  exact ⟨_, u2, t2, e, e2, hP, hM, hT, h, h2, hG⟩
theorem j_boundedRooms (hJ : J_ n d va vb vc ve vth wl u s) : ∃ (a : Int32) (u2 : CT_) (s2 : MT_), fX5_boundedRooms (nI d) (nI n) u.1 u.2.1 u.2.2.1 va vb vc ve vth u.2.2.2.1 u.2.2.2.2.1 u.2.2.2.2.2.1 u.2.2.2.2.2.2.1 u.2.2.2.2.2.2.2.1 u.2.2.2.2.2.2.2.2.1 u.2.2.2.2.2.2.2.2.2.1 u.2.2.2.2.2.2.2.2.2.2.1 u.2.2.2.2.2.2.2.2.2.2.2.1 u.2.2.2.2.2.2.2.2.2.2.2.2.1 u.2.2.2.2.2.2.2.2.2.2.2.2.2.1 u.2.2.2.2.2.2.2.2.2.2.2.2.2.2.1 u.2.2.2.2.2.2.2.2.2.2.2.2.2.2.2.1 u.2.2.2.2.2.2.2.2.2.2.2.2.2.2.2.2.1 u.2.2.2.2.2.2.2.2.2.2.2.2.2.2.2.2.2.1 u.2.2.2.2.2.2.2.2.2.2.2.2.2.2.2.2.2.2.1 u.2.2.2.2.2.2.2.2.2.2.2.2.2.2.2.2.2.2.2.1 u.2.2.2.2.2.2.2.2.2.2.2.2.2.2.2.2.2.2.2.2.1 u.2.2.2.2.2.2.2.2.2.2.2.2.2.2.2.2.2.2.2.2.2.1 u.2.2.2.2.2.2.2.2.2.2.2.2.2.2.2.2.2.2.2.2.2.2.1 u.2.2.2.2.2.2.2.2.2.2.2.2.2.2.2.2.2.2.2.2.2.2.2.1 u.2.2.2.2.2.2.2.2.2.2.2.2.2.2.2.2.2.2.2.2.2.2.2.2.1 u.2.2.2.2.2.2.2.2.2.2.2.2.2.2.2.2.2.2.2.2.2.2.2.2.2  = some (a, u2) ∧ fX6_boundedRooms (nI d) (nI n) s.1 s.2.1 s.2.2.1 wl s.2.2.2.1 s.2.2.2.2.1 s.2.2.2.2.2.1 s.2.2.2.2.2.2.1 s.2.2.2.2.2.2.2.1 s.2.2.2.2.2.2.2.2  = some (a, s2) ∧ J_ n d va vb vc ve vth wl u2 s2 := by
  obtain ⟨hP, hM, hT, hc, hm, hG⟩ := hJ
  obtain ⟨u2, e, h⟩ := c_boundedRooms (by rw [hG]; exact hM) (by rw [hG]; exact hP) hT (by rw [hG]; exact hc) 
  rw [hG] at h; rw [hG] at e
  obtain ⟨t2, e2, h2⟩ := m_boundedRooms hM hm 
  exact ⟨_, u2, t2, e, e2, hP, hM, hT, h, h2, hG⟩
theorem j_poly (hJ : J_ n d va vb vc ve vth wl u s) (p : Int32) : ∃ (a : Int32) (u2 : CT_) (t2 : Nat → Int64), fX5_poly (nI d) (nI n) u.1 u.2.1 u.2.2.1 va vb vc ve vth u.2.2.2.1 u.2.2.2.2.1 u.2.2.2.2.2.1 u.2.2.2.2.2.2.1 u.2.2.2.2.2.2.2.1 u.2.2.2.2.2.2.2.2.1 u.2.2.2.2.2.2.2.2.2.1 u.2.2.2.2.2.2.2.2.2.2.1 u.2.2.2.2.2.2.2.2.2.2.2.1 u.2.2.2.2.2.2.2.2.2.2.2.2.1 u.2.2.2.2.2.2.2.2.2.2.2.2.2.1 u.2.2.2.2.2.2.2.2.2.2.2.2.2.2.1 u.2.2.2.2.2.2.2.2.2.2.2.2.2.2.2.1 u.2.2.2.2.2.2.2.2.2.2.2.2.2.2.2.2.1 u.2.2.2.2.2.2.2.2.2.2.2.2.2.2.2.2.2.1 u.2.2.2.2.2.2.2.2.2.2.2.2.2.2.2.2.2.2.1 u.2.2.2.2.2.2.2.2.2.2.2.2.2.2.2.2.2.2.2.1 u.2.2.2.2.2.2.2.2.2.2.2.2.2.2.2.2.2.2.2.2.1 u.2.2.2.2.2.2.2.2.2.2.2.2.2.2.2.2.2.2.2.2.2.1 u.2.2.2.2.2.2.2.2.2.2.2.2.2.2.2.2.2.2.2.2.2.2.1 u.2.2.2.2.2.2.2.2.2.2.2.2.2.2.2.2.2.2.2.2.2.2.2.1 u.2.2.2.2.2.2.2.2.2.2.2.2.2.2.2.2.2.2.2.2.2.2.2.2.1 u.2.2.2.2.2.2.2.2.2.2.2.2.2.2.2.2.2.2.2.2.2.2.2.2.2 p = some (a, u2) ∧ fX6_poly (nI d) (nI n) wl s.2.2.2.2.2.2.2.2 p = some (a, t2) ∧ J_ n d va vb vc ve vth wl u2 (sT_ s t2) := by
  obtain ⟨hP, hM, hT, hc, hm, hG⟩ := hJ
  obtain ⟨u2, e, h⟩ := c_poly (by rw [hG]; exact hP) hT (by rw [hG]; exact hc) p
  rw [hG] at h; rw [hG] at e
  obtain ⟨t2, e2⟩ := m_poly hM s.2.2.2.2.2.2.2.2 p
  exact ⟨_, u2, t2, e, e2, hP, hM, hT, h, hm, hG⟩
theorem j_without (hJ : J_ n d va vb vc ve vth wl u s) (p q : Int32) : ∃ (a : Int32) (u2 : CT_) (t2 : Nat → Int64), fX5_without (nI d) (nI n) u.1 u.2.1 u.2.2.1 va vb vc ve vth u.2.2.2.1 u.2.2.2.2.1 u.2.2.2.2.2.1 u.2.2.2.2.2.2.1 u.2.2.2.2.2.2.2.1 u.2.2.2.2.2.2.2.2.1 u.2.2.2.2.2.2.2.2.2.1 u.2.2.2.2.2.2.2.2.2.2.1 u.2.2.2.2.2.2.2.2.2.2.2.1 u.2.2.2.2.2.2.2.2.2.2.2.2.1 u.2.2.2.2.2.2.2.2.2.2.2.2.2.1 u.2.2.2.2.2.2.2.2.2.2.2.2.2.2.1 u.2.2.2.2.2.2.2.2.2.2.2.2.2.2.2.1 u.2.2.2.2.2.2.2.2.2.2.2.2.2.2.2.2.1 u.2.2.2.2.2.2.2.2.2.2.2.2.2.2.2.2.2.1 u.2.2.2.2.2.2.2.2.2.2.2.2.2.2.2.2.2.2.1 u.2.2.2.2.2.2.2.2.2.2.2.2.2.2.2.2.2.2.2.1 u.2.2.2.2.2.2.2.2.2.2.2.2.2.2.2.2.2.2.2.2.1 u.2.2.2.2.2.2.2.2.2.2.2.2.2.2.2.2.2.2.2.2.2.1 u.2.2.2.2.2.2.2.2.2.2.2.2.2.2.2.2.2.2.2.2.2.2.1 u.2.2.2.2.2.2.2.2.2.2.2.2.2.2.2.2.2.2.2.2.2.2.2.1 u.2.2.2.2.2.2.2.2.2.2.2.2.2.2.2.2.2.2.2.2.2.2.2.2.1 u.2.2.2.2.2.2.2.2.2.2.2.2.2.2.2.2.2.2.2.2.2.2.2.2.2 p q = some (a, u2) ∧ fX6_without (nI d) (nI n) wl s.2.2.2.2.2.2.2.2 p q = some (a, t2) ∧ J_ n d va vb vc ve vth wl u2 (sT_ s t2) := by
  obtain ⟨hP, hM, hT, hc, hm, hG⟩ := hJ
  obtain ⟨u2, e, h⟩ := c_without (by rw [hG]; exact hP) hT (by rw [hG]; exact hc) p q
  rw [hG] at h; rw [hG] at e
  obtain ⟨t2, e2⟩ := m_without hM s.2.2.2.2.2.2.2.2 p q
  exact ⟨_, u2, t2, e, e2, hP, hM, hT, h, hm, hG⟩
theorem j_on (hJ : J_ n d va vb vc ve vth wl u s) (p q : Int32) : ∃ (a : Int32) (u2 : CT_) (t2 : Nat → Int64), fX5_on (nI d) (nI n) u.1 u.2.1 u.2.2.1 va vb vc ve vth u.2.2.2.1 u.2.2.2.2.1 u.2.2.2.2.2.1 u.2.2.2.2.2.2.1 u.2.2.2.2.2.2.2.1 u.2.2.2.2.2.2.2.2.1 u.2.2.2.2.2.2.2.2.2.1 u.2.2.2.2.2.2.2.2.2.2.1 u.2.2.2.2.2.2.2.2.2.2.2.1 u.2.2.2.2.2.2.2.2.2.2.2.2.1 u.2.2.2.2.2.2.2.2.2.2.2.2.2.1 u.2.2.2.2.2.2.2.2.2.2.2.2.2.2.1 u.2.2.2.2.2.2.2.2.2.2.2.2.2.2.2.1 u.2.2.2.2.2.2.2.2.2.2.2.2.2.2.2.2.1 u.2.2.2.2.2.2.2.2.2.2.2.2.2.2.2.2.2.1 u.2.2.2.2.2.2.2.2.2.2.2.2.2.2.2.2.2.2.1 u.2.2.2.2.2.2.2.2.2.2.2.2.2.2.2.2.2.2.2.1 u.2.2.2.2.2.2.2.2.2.2.2.2.2.2.2.2.2.2.2.2.1 u.2.2.2.2.2.2.2.2.2.2.2.2.2.2.2.2.2.2.2.2.2.1 u.2.2.2.2.2.2.2.2.2.2.2.2.2.2.2.2.2.2.2.2.2.2.1 u.2.2.2.2.2.2.2.2.2.2.2.2.2.2.2.2.2.2.2.2.2.2.2.1 u.2.2.2.2.2.2.2.2.2.2.2.2.2.2.2.2.2.2.2.2.2.2.2.2.1 u.2.2.2.2.2.2.2.2.2.2.2.2.2.2.2.2.2.2.2.2.2.2.2.2.2 p q = some (a, u2) ∧ fX6_on (nI d) (nI n) wl s.2.2.2.2.2.2.2.2 p q = some (a, t2) ∧ J_ n d va vb vc ve vth wl u2 (sT_ s t2) := by
  obtain ⟨hP, hM, hT, hc, hm, hG⟩ := hJ
  obtain ⟨u2, e, h⟩ := c_on (by rw [hG]; exact hP) hT (by rw [hG]; exact hc) p q
  rw [hG] at h; rw [hG] at e
  obtain ⟨t2, e2⟩ := m_on hM s.2.2.2.2.2.2.2.2 p q
  exact ⟨_, u2, t2, e, e2, hP, hM, hT, h, hm, hG⟩
theorem j_walls (hJ : J_ n d va vb vc ve vth wl u s) (p : Int32) : ∃ (a : Int32) (u2 : CT_) (t2 : MU_), fX5_walls (nI d) (nI n) u.1 u.2.1 u.2.2.1 va vb vc ve vth u.2.2.2.1 u.2.2.2.2.1 u.2.2.2.2.2.1 u.2.2.2.2.2.2.1 u.2.2.2.2.2.2.2.1 u.2.2.2.2.2.2.2.2.1 u.2.2.2.2.2.2.2.2.2.1 u.2.2.2.2.2.2.2.2.2.2.1 u.2.2.2.2.2.2.2.2.2.2.2.1 u.2.2.2.2.2.2.2.2.2.2.2.2.1 u.2.2.2.2.2.2.2.2.2.2.2.2.2.1 u.2.2.2.2.2.2.2.2.2.2.2.2.2.2.1 u.2.2.2.2.2.2.2.2.2.2.2.2.2.2.2.1 u.2.2.2.2.2.2.2.2.2.2.2.2.2.2.2.2.1 u.2.2.2.2.2.2.2.2.2.2.2.2.2.2.2.2.2.1 u.2.2.2.2.2.2.2.2.2.2.2.2.2.2.2.2.2.2.1 u.2.2.2.2.2.2.2.2.2.2.2.2.2.2.2.2.2.2.2.1 u.2.2.2.2.2.2.2.2.2.2.2.2.2.2.2.2.2.2.2.2.1 u.2.2.2.2.2.2.2.2.2.2.2.2.2.2.2.2.2.2.2.2.2.1 u.2.2.2.2.2.2.2.2.2.2.2.2.2.2.2.2.2.2.2.2.2.2.1 u.2.2.2.2.2.2.2.2.2.2.2.2.2.2.2.2.2.2.2.2.2.2.2.1 u.2.2.2.2.2.2.2.2.2.2.2.2.2.2.2.2.2.2.2.2.2.2.2.2.1 u.2.2.2.2.2.2.2.2.2.2.2.2.2.2.2.2.2.2.2.2.2.2.2.2.2 p = some (a, u2) ∧ fX6_walls (nI d) (nI n) s.1 s.2.1 s.2.2.1 wl s.2.2.2.1 s.2.2.2.2.1 s.2.2.2.2.2.1 s.2.2.2.2.2.2.1 s.2.2.2.2.2.2.2.1 p = some (a, t2) ∧ J_ n d va vb vc ve vth wl u2 (s9_ t2 s.2.2.2.2.2.2.2.2) := by
  obtain ⟨hP, hM, hT, hc, hm, hG⟩ := hJ
  obtain ⟨u2, e, h⟩ := c_walls (by rw [hG]; exact hP) hT (by rw [hG]; exact hc) p
  rw [hG] at h; rw [hG] at e
  obtain ⟨t2, e2, h2⟩ := m_walls hM (s := s8_ s) hm p
  exact ⟨_, u2, t2, e, e2, hP, hM, hT, h, h2, hG⟩
theorem j_beside (hJ : J_ n d va vb vc ve vth wl u s) (p q : Int32) : ∃ (a : Int32) (u2 : CT_) (t2 : MU_), fX5_beside (nI d) (nI n) u.1 u.2.1 u.2.2.1 va vb vc ve vth u.2.2.2.1 u.2.2.2.2.1 u.2.2.2.2.2.1 u.2.2.2.2.2.2.1 u.2.2.2.2.2.2.2.1 u.2.2.2.2.2.2.2.2.1 u.2.2.2.2.2.2.2.2.2.1 u.2.2.2.2.2.2.2.2.2.2.1 u.2.2.2.2.2.2.2.2.2.2.2.1 u.2.2.2.2.2.2.2.2.2.2.2.2.1 u.2.2.2.2.2.2.2.2.2.2.2.2.2.1 u.2.2.2.2.2.2.2.2.2.2.2.2.2.2.1 u.2.2.2.2.2.2.2.2.2.2.2.2.2.2.2.1 u.2.2.2.2.2.2.2.2.2.2.2.2.2.2.2.2.1 u.2.2.2.2.2.2.2.2.2.2.2.2.2.2.2.2.2.1 u.2.2.2.2.2.2.2.2.2.2.2.2.2.2.2.2.2.2.1 u.2.2.2.2.2.2.2.2.2.2.2.2.2.2.2.2.2.2.2.1 u.2.2.2.2.2.2.2.2.2.2.2.2.2.2.2.2.2.2.2.2.1 u.2.2.2.2.2.2.2.2.2.2.2.2.2.2.2.2.2.2.2.2.2.1 u.2.2.2.2.2.2.2.2.2.2.2.2.2.2.2.2.2.2.2.2.2.2.1 u.2.2.2.2.2.2.2.2.2.2.2.2.2.2.2.2.2.2.2.2.2.2.2.1 u.2.2.2.2.2.2.2.2.2.2.2.2.2.2.2.2.2.2.2.2.2.2.2.2.1 u.2.2.2.2.2.2.2.2.2.2.2.2.2.2.2.2.2.2.2.2.2.2.2.2.2 p q = some (a, u2) ∧ fX6_beside (nI d) (nI n) s.1 s.2.1 s.2.2.1 wl s.2.2.2.1 s.2.2.2.2.1 s.2.2.2.2.2.1 s.2.2.2.2.2.2.1 s.2.2.2.2.2.2.2.1 p q = some (a, t2) ∧ J_ n d va vb vc ve vth wl u2 (s9_ t2 s.2.2.2.2.2.2.2.2) := by
  obtain ⟨hP, hM, hT, hc, hm, hG⟩ := hJ
  obtain ⟨u2, e, h⟩ := c_beside (by rw [hG]; exact hP) hT (by rw [hG]; exact hc) p q
  rw [hG] at h; rw [hG] at e
  obtain ⟨t2, e2, h2⟩ := m_beside hM (s := s8_ s) hm p q
  exact ⟨_, u2, t2, e, e2, hP, hM, hT, h, h2, hG⟩
theorem j_way (hJ : J_ n d va vb vc ve vth wl u s) (p q : Int32) : ∃ (a : Int32) (u2 : CT_) (t2 : MU_), fX5_way (nI d) (nI n) u.1 u.2.1 u.2.2.1 va vb vc ve vth u.2.2.2.1 u.2.2.2.2.1 u.2.2.2.2.2.1 u.2.2.2.2.2.2.1 u.2.2.2.2.2.2.2.1 u.2.2.2.2.2.2.2.2.1 u.2.2.2.2.2.2.2.2.2.1 u.2.2.2.2.2.2.2.2.2.2.1 u.2.2.2.2.2.2.2.2.2.2.2.1 u.2.2.2.2.2.2.2.2.2.2.2.2.1 u.2.2.2.2.2.2.2.2.2.2.2.2.2.1 u.2.2.2.2.2.2.2.2.2.2.2.2.2.2.1 u.2.2.2.2.2.2.2.2.2.2.2.2.2.2.2.1 u.2.2.2.2.2.2.2.2.2.2.2.2.2.2.2.2.1 u.2.2.2.2.2.2.2.2.2.2.2.2.2.2.2.2.2.1 u.2.2.2.2.2.2.2.2.2.2.2.2.2.2.2.2.2.2.1 u.2.2.2.2.2.2.2.2.2.2.2.2.2.2.2.2.2.2.2.1 u.2.2.2.2.2.2.2.2.2.2.2.2.2.2.2.2.2.2.2.2.1 u.2.2.2.2.2.2.2.2.2.2.2.2.2.2.2.2.2.2.2.2.2.1 u.2.2.2.2.2.2.2.2.2.2.2.2.2.2.2.2.2.2.2.2.2.2.1 u.2.2.2.2.2.2.2.2.2.2.2.2.2.2.2.2.2.2.2.2.2.2.2.1 u.2.2.2.2.2.2.2.2.2.2.2.2.2.2.2.2.2.2.2.2.2.2.2.2.1 u.2.2.2.2.2.2.2.2.2.2.2.2.2.2.2.2.2.2.2.2.2.2.2.2.2 p q = some (a, u2) ∧ fX6_way (nI d) (nI n) s.1 s.2.1 s.2.2.1 wl s.2.2.2.1 s.2.2.2.2.1 s.2.2.2.2.2.1 s.2.2.2.2.2.2.1 s.2.2.2.2.2.2.2.1 p q = some (a, t2) ∧ J_ n d va vb vc ve vth wl u2 (s9_ t2 s.2.2.2.2.2.2.2.2) := by
  obtain ⟨hP, hM, hT, hc, hm, hG⟩ := hJ
  obtain ⟨u2, e, h⟩ := c_way (by rw [hG]; exact hP) hT (by rw [hG]; exact hc) p q
  rw [hG] at h; rw [hG] at e
  obtain ⟨t2, e2, h2⟩ := m_way hM (s := s8_ s) hm p q
  exact ⟨_, u2, t2, e, e2, hP, hM, hT, h, h2, hG⟩
theorem j_step (hJ : J_ n d va vb vc ve vth wl u s) (p q : Int32) : ∃ (a : Int32) (u2 : CT_) (t2 : MU_), fX5_step (nI d) (nI n) u.1 u.2.1 u.2.2.1 va vb vc ve vth u.2.2.2.1 u.2.2.2.2.1 u.2.2.2.2.2.1 u.2.2.2.2.2.2.1 u.2.2.2.2.2.2.2.1 u.2.2.2.2.2.2.2.2.1 u.2.2.2.2.2.2.2.2.2.1 u.2.2.2.2.2.2.2.2.2.2.1 u.2.2.2.2.2.2.2.2.2.2.2.1 u.2.2.2.2.2.2.2.2.2.2.2.2.1 u.2.2.2.2.2.2.2.2.2.2.2.2.2.1 u.2.2.2.2.2.2.2.2.2.2.2.2.2.2.1 u.2.2.2.2.2.2.2.2.2.2.2.2.2.2.2.1 u.2.2.2.2.2.2.2.2.2.2.2.2.2.2.2.2.1 u.2.2.2.2.2.2.2.2.2.2.2.2.2.2.2.2.2.1 u.2.2.2.2.2.2.2.2.2.2.2.2.2.2.2.2.2.2.1 u.2.2.2.2.2.2.2.2.2.2.2.2.2.2.2.2.2.2.2.1 u.2.2.2.2.2.2.2.2.2.2.2.2.2.2.2.2.2.2.2.2.1 u.2.2.2.2.2.2.2.2.2.2.2.2.2.2.2.2.2.2.2.2.2.1 u.2.2.2.2.2.2.2.2.2.2.2.2.2.2.2.2.2.2.2.2.2.2.1 u.2.2.2.2.2.2.2.2.2.2.2.2.2.2.2.2.2.2.2.2.2.2.2.1 u.2.2.2.2.2.2.2.2.2.2.2.2.2.2.2.2.2.2.2.2.2.2.2.2.1 u.2.2.2.2.2.2.2.2.2.2.2.2.2.2.2.2.2.2.2.2.2.2.2.2.2 p q = some (a, u2) ∧ fX6_step (nI d) (nI n) s.1 s.2.1 s.2.2.1 wl s.2.2.2.1 s.2.2.2.2.1 s.2.2.2.2.2.1 s.2.2.2.2.2.2.1 s.2.2.2.2.2.2.2.1 p q = some (a, t2) ∧ J_ n d va vb vc ve vth wl u2 (s9_ t2 s.2.2.2.2.2.2.2.2) := by
  obtain ⟨hP, hM, hT, hc, hm, hG⟩ := hJ
  obtain ⟨x, u2, e, hx, h⟩ := c_step (by rw [hG]; exact hP) hT (by rw [hG]; exact hc) p q
  rw [hG] at h hx
  obtain ⟨y, t2, e2, hy, h2⟩ := m_step hM (s := s8_ s) hm p q
  obtain rfl : x = y := vS_one hx hy
  exact ⟨_, u2, t2, e, e2, hP, hM, hT, h, h2, hG⟩
theorem j_count (hJ : J_ n d va vb vc ve vth wl u s) (p : Int32) : ∃ (a : Int32) (u2 : CT_) (s2 : MT_), fX5_count (nI d) (nI n) u.1 u.2.1 u.2.2.1 va vb vc ve vth u.2.2.2.1 u.2.2.2.2.1 u.2.2.2.2.2.1 u.2.2.2.2.2.2.1 u.2.2.2.2.2.2.2.1 u.2.2.2.2.2.2.2.2.1 u.2.2.2.2.2.2.2.2.2.1 u.2.2.2.2.2.2.2.2.2.2.1 u.2.2.2.2.2.2.2.2.2.2.2.1 u.2.2.2.2.2.2.2.2.2.2.2.2.1 u.2.2.2.2.2.2.2.2.2.2.2.2.2.1 u.2.2.2.2.2.2.2.2.2.2.2.2.2.2.1 u.2.2.2.2.2.2.2.2.2.2.2.2.2.2.2.1 u.2.2.2.2.2.2.2.2.2.2.2.2.2.2.2.2.1 u.2.2.2.2.2.2.2.2.2.2.2.2.2.2.2.2.2.1 u.2.2.2.2.2.2.2.2.2.2.2.2.2.2.2.2.2.2.1 u.2.2.2.2.2.2.2.2.2.2.2.2.2.2.2.2.2.2.2.1 u.2.2.2.2.2.2.2.2.2.2.2.2.2.2.2.2.2.2.2.2.1 u.2.2.2.2.2.2.2.2.2.2.2.2.2.2.2.2.2.2.2.2.2.1 u.2.2.2.2.2.2.2.2.2.2.2.2.2.2.2.2.2.2.2.2.2.2.1 u.2.2.2.2.2.2.2.2.2.2.2.2.2.2.2.2.2.2.2.2.2.2.2.1 u.2.2.2.2.2.2.2.2.2.2.2.2.2.2.2.2.2.2.2.2.2.2.2.2.1 u.2.2.2.2.2.2.2.2.2.2.2.2.2.2.2.2.2.2.2.2.2.2.2.2.2 p = some (a, u2) ∧ fX6_count (nI d) (nI n) s.1 s.2.1 s.2.2.1 wl s.2.2.2.1 s.2.2.2.2.1 s.2.2.2.2.2.1 s.2.2.2.2.2.2.1 s.2.2.2.2.2.2.2.1 s.2.2.2.2.2.2.2.2 p = some (a, s2) ∧ J_ n d va vb vc ve vth wl u2 s2 := by
  obtain ⟨hP, hM, hT, hc, hm, hG⟩ := hJ
  obtain ⟨u2, e, h⟩ := c_count hM.2.2.1 (by rw [hG]; exact hP) hT (by rw [hG]; exact hc) p
  rw [hG] at h; rw [hG] at e
  obtain ⟨t2, e2, h2⟩ := m_count hM hm p
  exact ⟨_, u2, t2, e, e2, hP, hM, hT, h, h2, hG⟩
theorem j_told (hJ : J_ n d va vb vc ve vth wl u s) (p q : Int32) : ∃ a : Int32, fX5_told (nI n) va vb vc ve p q = some a ∧ fX6_told (nI n) wl p q = some a := by
  obtain ⟨hP, hM, hT, hc, hm, hG⟩ := hJ
  have e := c_told (va := va) (vb := vb) (vc := vc) (ve := ve) hM.1 p q
  rw [hG] at e
  exact ⟨_, e, m_told hM.1 p q⟩
theorem j_row (hJ : J_ n d va vb vc ve vth wl u s) (x y z : Int32) : ∃ a : Int32, fX5_row (nI d) (nI n) va vb vc ve vth x y z = some a ∧ fX6_row (nI d) (nI n) wl x y z = some a := by
  obtain ⟨hP, hM, hT, hc, hm, hG⟩ := hJ
  have e := c_row (va := va) (vb := vb) (vc := vc) (ve := ve) hM.1 hM.2.2.1 (by rw [hG]; exact hM.2.2.2.1) hT x y z
  rw [hG] at e
  exact ⟨_, e, m_row hM.1 hM.2.2.1 hM.2.2.2.1 x y z⟩
theorem j_far (hJ : J_ n d va vb vc ve vth wl u s) : ∃ (a : Int32) (t2 : MU_), fX5_far (nI n) = some a ∧ fX6_far (nI d) (nI n) s.1 s.2.1 s.2.2.1 wl s.2.2.2.1 s.2.2.2.2.1 s.2.2.2.2.2.1 s.2.2.2.2.2.2.1 s.2.2.2.2.2.2.2.1 = some (a, t2) ∧ J_ n d va vb vc ve vth wl u (s9_ t2 s.2.2.2.2.2.2.2.2) := by
  obtain ⟨hP, hM, hT, hc, hm, hG⟩ := hJ
  obtain ⟨t2, e2, h2⟩ := m_far hM (s := s8_ s) hm
  exact ⟨_, t2, rfl, e2, hP, hM, hT, hc, h2, hG⟩
theorem j_left (hJ : J_ n d va vb vc ve vth wl u s) (vtu : NI_) (p : Int32) : ∃ (a : Int32) (tu : NI_), fX5_left (nI d) (nI n) va vb vc ve vtu p = some (a, tu) ∧ fX6_left (nI d) (nI n) wl p = some a := by
  obtain ⟨hP, hM, hT, hc, hm, hG⟩ := hJ
  rcases m_left hM p with ⟨k, hk, rfl, e⟩ | ⟨hk, e⟩
  · rcases c_left (va := va) (vb := vb) (vc := vc) (ve := ve) hM.1 (by rw [hG]; exact hM.2.2.2.1) hM.2.1 hM.2.2.1 vtu (nI k) with ⟨j, hj, ej, tu, e2⟩ | ⟨hn, _⟩
    · obtain rfl : k = j := by
        have h := congrArg Int32.toNatClampNeg ej
        have := pr_lt hj
        have := pr_lt hk
        rw [nI_clamp (by omega), nI_clamp (by omega)] at h; exact h
      rw [hG] at e2
      exact ⟨_, tu, e2, e⟩
    · exact absurd ⟨k, hk, rfl⟩ hn
  · rcases c_left (va := va) (vb := vb) (vc := vc) (ve := ve) hM.1 (by rw [hG]; exact hM.2.2.2.1) hM.2.1 hM.2.2.1 vtu p with ⟨j, hj, ej, _⟩ | ⟨_, e2⟩
    · exact absurd ⟨j, hj, ej⟩ hk
    · exact ⟨_, vtu, e2, e⟩
def u0_ (u : CT_) : CT_ := ((0 : Int32), u.2.1, u.2.2.1, u.2.2.2.1, u.2.2.2.2.1, u.2.2.2.2.2.1, u.2.2.2.2.2.2.1, u.2.2.2.2.2.2.2.1, u.2.2.2.2.2.2.2.2.1, u.2.2.2.2.2.2.2.2.2.1, u.2.2.2.2.2.2.2.2.2.2.1, u.2.2.2.2.2.2.2.2.2.2.2.1, u.2.2.2.2.2.2.2.2.2.2.2.2.1, u.2.2.2.2.2.2.2.2.2.2.2.2.2.1, u.2.2.2.2.2.2.2.2.2.2.2.2.2.2.1, u.2.2.2.2.2.2.2.2.2.2.2.2.2.2.2.1, u.2.2.2.2.2.2.2.2.2.2.2.2.2.2.2.2.1, u.2.2.2.2.2.2.2.2.2.2.2.2.2.2.2.2.2.1, u.2.2.2.2.2.2.2.2.2.2.2.2.2.2.2.2.2.2.1, u.2.2.2.2.2.2.2.2.2.2.2.2.2.2.2.2.2.2.2.1, u.2.2.2.2.2.2.2.2.2.2.2.2.2.2.2.2.2.2.2.2.1, u.2.2.2.2.2.2.2.2.2.2.2.2.2.2.2.2.2.2.2.2.2.1, u.2.2.2.2.2.2.2.2.2.2.2.2.2.2.2.2.2.2.2.2.2.2.1, u.2.2.2.2.2.2.2.2.2.2.2.2.2.2.2.2.2.2.2.2.2.2.2.1, u.2.2.2.2.2.2.2.2.2.2.2.2.2.2.2.2.2.2.2.2.2.2.2.2.1, u.2.2.2.2.2.2.2.2.2.2.2.2.2.2.2.2.2.2.2.2.2.2.2.2.2)
def sO_ (s : MT_) : MT_ := ((1 : Int32), s.2.1, s.2.2.1, s.2.2.2.1, s.2.2.2.2.1, s.2.2.2.2.2.1, s.2.2.2.2.2.2.1, s.2.2.2.2.2.2.2.1, s.2.2.2.2.2.2.2.2)
theorem cI_z {G H : Nat → Wl_} {n m d : Nat} {u : CT_} (h : cI_ G n d u) : cI_ H m d (u0_ u) := by
  have h0 : u.2.2.2.1 0 = 0 := by
    rcases h with h | h
    · exact h.2
    · exact h.2.1
  exact Or.inl ⟨rfl, h0⟩
theorem mI_o {G : Nat → Wl_} {n : Nat} {s : MT_} : mI_ G n (sO_ s) := fun h => by
  have h : (1 : Int32) = 0 := h
  exact absurd h (by decide)
theorem j_wall (hJ : J_ n d va vb vc ve vth wl u s) (p q r t : Int32) : ∃ (a : Int32) (n2 : Nat) (va2 vb2 vc2 ve2 wl2 : NI_) (u2 : CT_) (s2 : MT_),
    fX5_wall (nI d) (nI n) u.1 va vb vc ve p q r t = some (a, nI n2, u2.1, va2, vb2, vc2, ve2) ∧ u2 = (u2.1, u.2) ∧ fX6_wall (nI d) (nI n) s.1 wl p q r t = some (a, nI n2, s2.1, wl2) ∧ s2 = (s2.1, s.2) ∧ J_ n2 d va2 vb2 vc2 ve2 vth wl2 u2 s2 := by
  obtain ⟨hP, hM, hT, hc, hm, hG⟩ := hJ
  have hb : ∀ k, k < n → bw_ (gC_ va vb vc ve k) := by rw [hG]; exact hM.2.2.2.1
  rcases m_wall (wl := wl) hM.1 hM.2.1 hM.2.2.1 hM.2.2.2.1 s.1 p q r t with ⟨hw, e⟩ | ⟨hw, e⟩
  · rcases c_wall hM.1 hM.2.1 hM.2.2.1 hb u.1 p q r t with ⟨_, e2⟩ | ⟨hn, _⟩
    · refine ⟨_, n + 1, _, _, _, _, _, u0_ u, sO_ s, e2, rfl, e, rfl, ?_, ?_, hT, cI_z hc, mI_o, ?_⟩
      · rw [gM_upd]; exact ga_PI hP hw
      · rw [gM_upd]; exact ga_MI hM hw
      · rw [gM_upd, gC_upd, hG]
    · rw [hG] at hn; exact absurd hw hn
  · rcases c_wall hM.1 hM.2.1 hM.2.2.1 hb u.1 p q r t with ⟨hn, _⟩ | ⟨_, e2⟩
    · rw [hG] at hn; exact absurd hn hw
    · exact ⟨_, n, _, _, _, _, _, u, s, e2, rfl, e, rfl, hP, hM, hT, hc, hm, hG⟩
theorem j_take (hJ : J_ n d va vb vc ve vth wl u s) (p : Int32) : ∃ (a : Int32) (n2 : Nat) (va2 vb2 vc2 ve2 wl2 : NI_) (u2 : CT_) (s2 : MT_),
    fX5_take (nI n) u.1 va vb vc ve p = some (a, nI n2, u2.1, va2, vb2, vc2, ve2) ∧ u2 = (u2.1, u.2) ∧ fX6_take (nI n) s.1 wl p = some (a, nI n2, s2.1, wl2) ∧ s2 = (s2.1, s.2) ∧ J_ n2 d va2 vb2 vc2 ve2 vth wl2 u2 s2 := by
  obtain ⟨hP, hM, hT, hc, hm, hG⟩ := hJ
  rcases m_take (wl := wl) hM.1 s.1 p with ⟨i, hi, rfl, e⟩ | ⟨hw, e⟩
  · rcases c_take (va := va) (vb := vb) (vc := vc) (ve := ve) hM.1 u.1 (nI i) with ⟨j, hj, ej, e2⟩ | ⟨hn, _⟩
    · obtain rfl : i = j := by
        have h := congrArg Int32.toNatClampNeg ej
        have := hM.1
        rw [nI_clamp (by omega), nI_clamp (by omega)] at h; exact h
      refine ⟨_, n - 1, _, _, _, _, _, u0_ u, sO_ s, e2, rfl, e, rfl, ?_, ?_, hT, cI_z hc, mI_o, ?_⟩
      · rw [gM_sq hi]; exact gd_PI i hP
      · rw [gM_sq hi]; exact gd_MI i hM
      · rw [gM_sq hi, gC_sh hi, hG]
    · exact absurd ⟨i, hi, rfl⟩ hn
  · rcases c_take (va := va) (vb := vb) (vc := vc) (ve := ve) hM.1 u.1 p with ⟨j, hj, ej, _⟩ | ⟨_, e2⟩
    · exact absurd ⟨j, hj, ej⟩ hw
    · exact ⟨_, n, _, _, _, _, _, u, s, e2, rfl, e, rfl, hP, hM, hT, hc, hm, hG⟩
end JJ
