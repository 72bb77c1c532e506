/-! questions about a row: faces, rooms, widths -/
noncomputable def pb_ (P : Prop) : Bool := @decide P (Classical.propDecidable P)
theorem pb_t {P : Prop} : pb_ P = true ↔ P := by unfold pb_; exact @decide_eq_true_iff P (Classical.propDecidable P)
theorem pb_f {P : Prop} : pb_ P = false ↔ ¬ P := by
  have := @pb_t P
  cases h : pb_ P with
  | false => exact ⟨fun _ q => (by rw [this.mpr q] at h; cases h), fun _ => rfl⟩
  | true => exact ⟨fun q => (by cases q), fun q => absurd (this.mp h) q⟩
noncomputable def ci2_ (P : Prop) (a b : Int32) : Int32 := @ite Int32 P (Classical.propDecidable P) a b
theorem ci2_t {P : Prop} {a b : Int32} (h : P) : ci2_ P a b = a := by unfold ci2_; exact if_pos h
theorem ci2_f {P : Prop} {a b : Int32} (h : ¬ P) : ci2_ P a b = b := by unfold ci2_; exact if_neg h
/-- a room: a face on no wall -/
def Ro_ (G : Nat → Wl_) (n r : Nat) : Prop := Fa_ G n r ∧ ∀ k, k < n → dg_ r k ≠ 1
def FaI_ (G : Nat → Wl_) (n : Nat) (p : Int32) : Prop := ∃ r, p = nI r ∧ Fa_ G n r
def RoI_ (G : Nat → Wl_) (n : Nat) (p : Int32) : Prop := ∃ r, p = nI r ∧ Ro_ G n r
theorem FaI_nI {G : Nat → Wl_} {n : Nat} (hn : n ≤ 8) {r : Nat} (hr : r < 2 ^ 31) : FaI_ G n (nI r) ↔ Fa_ G n r := by
  constructor
  · rintro ⟨r', e, h⟩
    have := Fa_lt h
    have h3 := p3_6561 hn
    rw [(nI_eq hr (by omega)).mp e]; exact h
  · intro h; exact ⟨r, rfl, h⟩
theorem RoI_nI {G : Nat → Wl_} {n : Nat} (hn : n ≤ 8) {r : Nat} (hr : r < 2 ^ 31) : RoI_ G n (nI r) ↔ Ro_ G n r := by
  constructor
  · rintro ⟨r', e, h⟩
    have := Fa_lt h.1
    have h3 := p3_6561 hn
    rw [(nI_eq hr (by omega)).mp e]; exact h
  · intro h; exact ⟨r, rfl, h⟩
theorem FaI_neg {G : Nat → Wl_} {n : Nat} (hn : n ≤ 8) {p : Int32} (h : p < 0 ∨ nI 6561 ≤ p) : ¬ FaI_ G n p := by
  rintro ⟨r, rfl, hF⟩
  have := Fa_lt hF
  have h3 := p3_6561 hn
  rcases h with h | h
  · exact nI_pos (by omega) h
  · exact nI_ge (show r < 6561 by omega) (by decide) h
theorem RoI_Fa {G : Nat → Wl_} {n : Nat} {p : Int32} (h : RoI_ G n p) : FaI_ G n p := by obtain ⟨r, e, h1, _⟩ := h; exact ⟨r, e, h1⟩
/-- a width's face -/
def Wd_ (G : Nat → Wl_) (n d r : Nat) (w : Int32) : Prop := Fa_ G n r ∧ nI d - nI (rk_ (hS_ G (mk_ 8 r 1))) = w
noncomputable def vw_ (G : Nat → Wl_) (n d : Nat) (p : Int32) : Int32 := ci2_ (FaI_ G n p) (nI d - nI (rk_ (hS_ G (mk_ 8 p.toNatClampNeg 1)))) (-1)
section QM
variable {wl : Nat → Int32} {n d : Nat}
/-- what the reference's walls keep to -/
def MI_ (G : Nat → Wl_) (n d : Nat) : Prop := n ≤ 8 ∧ 1 ≤ d ∧ d ≤ 3 ∧ (∀ k, k < n → bw_ (G k)) ∧ (∀ k, k < n → nv_ (G k) ≠ o3_) ∧ (∀ k, k < n → ∀ j, j < 3 → d ≤ j → cf_ j (G k) = 0) ∧ DI_ G n
theorem m_isFace (hI : MI_ (gM_ wl) n d) {od : Int32} {w : Nat → Int32} (hod : od = 0 → WF_ (gM_ wl) n w) (sm nm : Int32) (ev ne : Nat → Int32) (su nx : Nat → Int64) (p : Int32) :
    ∃ x od' sm' nm' w' ev' ne' su' nx', fX6_isFace (nI d) (nI n) od sm nm wl w ev ne su nx p = some (x, od', sm', nm', w', ev', ne', su', nx') ∧ yn_ x (FaI_ (gM_ wl) n p) ∧ (od' = 0 → WF_ (gM_ wl) n w') := by
  obtain ⟨hn, hd1, hd, hb, hnv, hz, _⟩ := hI
  unfold fX6_isFace
  obtain ⟨sm1, nm1, w1, ev1, ne1, su1, nx1, e, hW⟩ := m_works (d := d) hn hd hb hz (sm := sm) (nm := nm) (ev := ev) (ne := ne) (su := su) (nx := nx) hod
  rw [bind_yes e]
  dsimp only
  unfold fX6_in
  by_cases h0 : p < 0
  · rw [if_pos h0, Option.bind_some, if_pos rfl]
    exact ⟨_, _, _, _, _, _, _, _, _, rfl, Or.inr ⟨rfl, FaI_neg hn (Or.inl h0)⟩, fun _ => hW⟩
  · rw [if_neg h0]
    obtain ⟨r, hr, rfl⟩ := nI_of h0
    by_cases h1 : r < 6561
    · rw [if_neg (show ¬ (6560 : Int32) < nI r from nI_nlt (a := 6560) (b := r) (by omega) (by decide)), Option.bind_some, if_neg (show ¬ (1 : Int32) = 0 by decide), ck_yes (in_R_nI h1 (by decide)), nI_clamp hr]
      rcases hW r h1 with ⟨q, hF⟩ | ⟨q, hF⟩
      · rw [if_neg (by rw [q]; decide)]
        exact ⟨_, _, _, _, _, _, _, _, _, rfl, Or.inl ⟨rfl, (FaI_nI hn hr).mpr hF⟩, fun _ => hW⟩
      · rw [if_pos q]
        exact ⟨_, _, _, _, _, _, _, _, _, rfl, Or.inr ⟨rfl, fun w => hF ((FaI_nI hn hr).mp w)⟩, fun _ => hW⟩
    · rw [if_pos (show (6560 : Int32) < nI r from nI_lt (a := 6560) (b := r) (by omega) hr), Option.bind_some, if_pos rfl]
      exact ⟨_, _, _, _, _, _, _, _, _, rfl, Or.inr ⟨rfl, FaI_neg hn (Or.inr (nI_le (by omega) hr))⟩, fun _ => hW⟩
theorem m_onWalls (hn : n ≤ 8) {r : Nat} (hr : r < 2 ^ 31) : fX6_onWalls (nI n) (nI r) = some (nI (bn_ (fun k => decide (dg_ r k = 1)) n)) := by
  unfold fX6_onWalls
  refine bind_yes (a := (nI n, nI (bn_ (fun k => decide (dg_ r k = 1)) n))) ?_
  refine lp_seq (body := fun (st : (Int32 × Int32)) => fX6_onWalls_L4 (nI n) (nI r) st.1 st.2) (fun k => (nI k, nI (bn_ (fun k => decide (dg_ r k = 1)) k))) n (by omega) ?_ ?_
  · intro k hk
    show fX6_onWalls_L4 (nI n) (nI r) (nI k) _ = _
    unfold fX6_onWalls_L4
    rw [if_neg (nI_ge hk (by omega)), bind_yes (f_sign hr (by omega))]
    have hle := dg_le r k
    have e1 : (nI (dg_ r k) = (1 : Int32)) ↔ dg_ r k = 1 := nI_eq (b := 1) (by omega) (by decide)
    by_cases q : dg_ r k = 1
    · rw [if_pos (e1.mpr q), sh_1 k (by omega), nI_or, or_add (bn_lt _ k), nI_1]
      simp [bn_, q]
    · rw [if_neg (fun z => q (e1.mp z)), nI_1, show (0 : Int32) = nI 0 from rfl, nI_or]
      simp [bn_, q]
  · show fX6_onWalls_L4 (nI n) (nI r) (nI n) _ = _
    unfold fX6_onWalls_L4
    rw [if_pos (nI_le (Nat.le_refl n) (by omega))]
theorem on_0 {r n : Nat} : bn_ (fun k => decide (dg_ r k = 1)) n = 0 ↔ ∀ k, k < n → dg_ r k ≠ 1 := by
  rw [bn_zero]
  simp only [decide_eq_false_iff_not]
theorem m_isRoom (hI : MI_ (gM_ wl) n d) {od : Int32} {w : Nat → Int32} (hod : od = 0 → WF_ (gM_ wl) n w) (sm nm : Int32) (ev ne : Nat → Int32) (su nx : Nat → Int64) (p : Int32) :
    ∃ x od' sm' nm' w' ev' ne' su' nx', fX6_isRoom (nI d) (nI n) od sm nm wl w ev ne su nx p = some (x, od', sm', nm', w', ev', ne', su', nx') ∧ yn_ x (RoI_ (gM_ wl) n p) ∧ (od' = 0 → WF_ (gM_ wl) n w') := by
  obtain ⟨x, od1, sm1, nm1, w1, ev1, ne1, su1, nx1, e, hy, hW⟩ := m_isFace hI hod sm nm ev ne su nx p
  have hn := hI.1
  unfold fX6_isRoom
  rw [bind_yes e]
  dsimp only
  rcases hy with ⟨rfl, r, rfl, hF⟩ | ⟨rfl, hF⟩
  · have h3 := p3_6561 hn
    have hr := Fa_lt hF
    have hb8 := bn_lt8 (fun k => decide (dg_ r k = 1)) hn
    rw [if_neg (by decide), bind_yes (m_onWalls hn (by omega))]
    by_cases q : bn_ (fun k => decide (dg_ r k = 1)) n = 0
    · rw [if_pos (by rw [q]; rfl)]
      exact ⟨_, _, _, _, _, _, _, _, _, rfl, Or.inl ⟨rfl, r, rfl, hF, on_0.mp q⟩, hW⟩
    · rw [if_neg (nI_ne0 (by omega) (by omega))]
      exact ⟨_, _, _, _, _, _, _, _, _, rfl, Or.inr ⟨rfl, fun z => q (on_0.mpr ((RoI_nI hn (by omega)).mp z).2)⟩, hW⟩
  · rw [if_pos rfl]
    exact ⟨_, _, _, _, _, _, _, _, _, rfl, Or.inr ⟨rfl, fun z => hF (RoI_Fa z)⟩, hW⟩
theorem m_width (hI : MI_ (gM_ wl) n d) {od : Int32} {w : Nat → Int32} (hod : od = 0 → WF_ (gM_ wl) n w) (sm nm : Int32) (ev ne : Nat → Int32) (su nx ta : Nat → Int64) (p : Int32) :
    ∃ od' sm' nm' w' ev' ne' su' nx' ta', fX6_width (nI d) (nI n) od sm nm wl w ev ne su nx ta p = some (vw_ (gM_ wl) n d p, od', sm', nm', w', ev', ne', su', nx', ta') ∧ (od' = 0 → WF_ (gM_ wl) n w') := by
  obtain ⟨x, od1, sm1, nm1, w1, ev1, ne1, su1, nx1, e, hy, hW⟩ := m_isFace hI hod sm nm ev ne su nx p
  obtain ⟨hn, hd1, hd, hb, hnv, hz, _⟩ := hI
  unfold fX6_width vw_
  rw [bind_yes e]
  dsimp only
  rcases hy with ⟨rfl, hF⟩ | ⟨rfl, hF⟩
  · rw [ci2_t hF]
    obtain ⟨r, rfl, hF⟩ := hF
    have h3 := p3_6561 hn
    have hr := Fa_lt hF
    obtain ⟨t', e2⟩ := m_rank3 hn hb hnv (h := bn_ (fun k => decide (dg_ r k = 1)) n) (bn_lt _ n) ta
    rw [if_neg (by decide), bind_yes (m_onWalls hn (by omega)), bind_yes e2, nI_clamp (by omega), mk_dig hn hr (by decide)]
    exact ⟨_, _, _, _, _, _, _, _, _, rfl, hW⟩
  · rw [ci2_f hF, if_pos rfl]
    exact ⟨_, _, _, _, _, _, _, _, _, rfl, hW⟩
end QM
section QC
variable {G : Nat → Wl_} {n d fo li : Nat} {rk cm mk ro wi la lb : Nat → Int32}
theorem f_hasFace (hn : n ≤ 8) (hC : CU_ G n d fo li rk cm mk ro wi la lb) (p : Int32) : ∃ x, fX1_hasFace mk p = some x ∧ yn_ x (FaI_ G n p) := by
  unfold fX1_hasFace
  by_cases h0 : p < 0
  · rw [if_pos h0]; exact ⟨_, rfl, Or.inr ⟨rfl, FaI_neg hn (Or.inl h0)⟩⟩
  · rw [if_neg h0]
    obtain ⟨r, hr, rfl⟩ := nI_of h0
    by_cases h1 : r < 6561
    · rw [if_neg (show ¬ (6561 : Int32) ≤ nI r from nI_ge (a := r) (b := 6561) h1 (by decide)), bind_yes (f_isMarked mk h1)]
      have := hC.1 r h1
      cases e : mkd_ mk r with
      | false =>
        rw [if_pos (show (if false = true then (1 : Int32) else 0) = 0 from rfl)]
        exact ⟨_, rfl, Or.inr ⟨rfl, fun z => by rw [this.mpr ((FaI_nI hn hr).mp z)] at e; cases e⟩⟩
      | true =>
        rw [if_pos rfl, if_neg (by decide)]
        exact ⟨_, rfl, Or.inl ⟨rfl, (FaI_nI hn hr).mpr (this.mp e)⟩⟩
    · rw [if_pos (show (6561 : Int32) ≤ nI r from nI_le (a := 6561) (b := r) (by omega) hr)]
      exact ⟨_, rfl, Or.inr ⟨rfl, FaI_neg hn (Or.inr (nI_le (by omega) hr))⟩⟩
theorem f_hasRoom (hn : n ≤ 8) (hC : CU_ G n d fo li rk cm mk ro wi la lb) (p : Int32) : ∃ x, fX1_hasRoom mk p = some x ∧ yn_ x (RoI_ G n p) := by
  obtain ⟨x, e, hy⟩ := f_hasFace hn hC p
  unfold fX1_hasRoom
  rw [bind_yes e]
  rcases hy with ⟨rfl, r, rfl, hF⟩ | ⟨rfl, hF⟩
  · have h3 := p3_6561 hn
    have hr := Fa_lt hF
    have hb8 := bn_lt8 (fun k => decide (dg_ r k = 1)) hn
    rw [if_neg (by decide), show (1 : Int32) = nI 1 from rfl, bind_yes (f_maskOf (by omega) (by decide)), mk_dig hn hr (by decide)]
    by_cases q : bn_ (fun k => decide (dg_ r k = 1)) n = 0
    · rw [if_pos (by rw [q]; rfl)]
      exact ⟨_, rfl, Or.inl ⟨rfl, r, rfl, hF, on_0.mp q⟩⟩
    · rw [if_neg (nI_ne0 (by omega) (by omega))]
      exact ⟨_, rfl, Or.inr ⟨rfl, fun z => q (on_0.mpr ((RoI_nI hn (by omega)).mp z).2)⟩⟩
  · rw [if_pos rfl]
    exact ⟨_, rfl, Or.inr ⟨rfl, fun z => hF (RoI_Fa z)⟩⟩
end QC
