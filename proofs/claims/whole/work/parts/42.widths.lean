/-! the class's fresh cut; how many faces of a width -/
abbrev NI_ : Type := Nat → Int32
abbrev CT_ : Type := Int32 × Int32 × Int32 × NI_ × NI_ × NI_ × NI_ × NI_ × NI_ × NI_ × NI_ × NI_ × NI_ × NI_ × Int32 × Int32 × Int32 × Int32 × Int32 × Int32 × Int32 × Int32 × Int32 × Int32 × Int32 × Int32
abbrev MT_ : Type := Int32 × Int32 × Int32 × NI_ × NI_ × NI_ × (Nat → Int64) × (Nat → Int64) × (Nat → Int64)
/-- the cut is there -/
def cF_ (G : Nat → Wl_) (n d : Nat) (u : CT_) : Prop := u.1 = 1 ∧ u.2.2.2.1 0 = 0 ∧ ∃ fo li, u.2.1 = nI fo ∧ u.2.2.1 = nI li ∧ CU_ G n d fo li u.2.2.2.1 u.2.2.2.2.1 u.2.2.2.2.2.2.2.2.1 u.2.2.2.2.2.2.2.2.2.2.1 u.2.2.2.2.2.2.2.2.2.2.2.1 u.2.2.2.2.2.2.2.2.2.2.2.2.1 u.2.2.2.2.2.2.2.2.2.2.2.2.2.1
/-- the cut is there, or is to be made anew -/
def cI_ (G : Nat → Wl_) (n d : Nat) (u : CT_) : Prop := u.1 = 0 ∧ u.2.2.2.1 0 = 0 ∨ cF_ G n d u
def mI_ (G : Nat → Wl_) (n : Nat) (s : MT_) : Prop := s.1 = 0 → WF_ G n s.2.2.2.1
section FR
variable {va vb vc ve vth : Nat → Int32} {n d : Nat}
theorem f_freshCut (hP : PI_ (gC_ va vb vc ve) n) (hT : TH_ vth) {u : CT_} (hu : cI_ (gC_ va vb vc ve) n d u) : ∃ u' : CT_, fX5_freshCut (nI d) (nI n) u.1 u.2.1 u.2.2.1 va vb vc ve vth u.2.2.2.1 u.2.2.2.2.1 u.2.2.2.2.2.1 u.2.2.2.2.2.2.1 u.2.2.2.2.2.2.2.1 u.2.2.2.2.2.2.2.2.1 u.2.2.2.2.2.2.2.2.2.1 u.2.2.2.2.2.2.2.2.2.2.1 u.2.2.2.2.2.2.2.2.2.2.2.1 u.2.2.2.2.2.2.2.2.2.2.2.2.1 u.2.2.2.2.2.2.2.2.2.2.2.2.2.1 u.2.2.2.2.2.2.2.2.2.2.2.2.2.2.1 u.2.2.2.2.2.2.2.2.2.2.2.2.2.2.2.1 u.2.2.2.2.2.2.2.2.2.2.2.2.2.2.2.2.1 u.2.2.2.2.2.2.2.2.2.2.2.2.2.2.2.2.2.1 u.2.2.2.2.2.2.2.2.2.2.2.2.2.2.2.2.2.2.1 u.2.2.2.2.2.2.2.2.2.2.2.2.2.2.2.2.2.2.2.1 u.2.2.2.2.2.2.2.2.2.2.2.2.2.2.2.2.2.2.2.2.1 u.2.2.2.2.2.2.2.2.2.2.2.2.2.2.2.2.2.2.2.2.2.1 u.2.2.2.2.2.2.2.2.2.2.2.2.2.2.2.2.2.2.2.2.2.2.1 u.2.2.2.2.2.2.2.2.2.2.2.2.2.2.2.2.2.2.2.2.2.2.2.1 u.2.2.2.2.2.2.2.2.2.2.2.2.2.2.2.2.2.2.2.2.2.2.2.2.1 u.2.2.2.2.2.2.2.2.2.2.2.2.2.2.2.2.2.2.2.2.2.2.2.2.2 = some u' ∧ cF_ (gC_ va vb vc ve) n d u' := by
  unfold fX5_freshCut
  rcases hu with ⟨h0, h1⟩ | hF
  · rw [if_pos h0]
    obtain ⟨fo, li, rk, cm, kx, ky, kz, mk, re, ro, wi, la, lb, a1, a2, a3, a4, a5, a6, a7, a8, a9, a10, a11, a12, e, hr, hC⟩ := f_cutAnew (d := d) (vcm := u.2.2.2.2.1) (vkx := u.2.2.2.2.2.1) (vky := u.2.2.2.2.2.2.1) (vkz := u.2.2.2.2.2.2.2.1) (vmk := u.2.2.2.2.2.2.2.2.1) (vre := u.2.2.2.2.2.2.2.2.2.1) (vro := u.2.2.2.2.2.2.2.2.2.2.1) (vwi := u.2.2.2.2.2.2.2.2.2.2.2.1) (vla := u.2.2.2.2.2.2.2.2.2.2.2.2.1) (vlb := u.2.2.2.2.2.2.2.2.2.2.2.2.2.1) hP hT h1 u.2.2.2.2.2.2.2.2.2.2.2.2.2.2.1 u.2.2.2.2.2.2.2.2.2.2.2.2.2.2.2.1 u.2.2.2.2.2.2.2.2.2.2.2.2.2.2.2.2.1 u.2.2.2.2.2.2.2.2.2.2.2.2.2.2.2.2.2.1 u.2.2.2.2.2.2.2.2.2.2.2.2.2.2.2.2.2.2.1 u.2.2.2.2.2.2.2.2.2.2.2.2.2.2.2.2.2.2.2.1 u.2.2.2.2.2.2.2.2.2.2.2.2.2.2.2.2.2.2.2.2.1 u.2.2.2.2.2.2.2.2.2.2.2.2.2.2.2.2.2.2.2.2.2.1 u.2.2.2.2.2.2.2.2.2.2.2.2.2.2.2.2.2.2.2.2.2.2.1 u.2.2.2.2.2.2.2.2.2.2.2.2.2.2.2.2.2.2.2.2.2.2.2.1 u.2.2.2.2.2.2.2.2.2.2.2.2.2.2.2.2.2.2.2.2.2.2.2.2.1 u.2.2.2.2.2.2.2.2.2.2.2.2.2.2.2.2.2.2.2.2.2.2.2.2.2
    rw [bind_yes e]
    exact ⟨_, rfl, rfl, hr, fo, li, rfl, rfl, hC⟩
  · rw [if_neg (by rw [hF.1]; decide)]
    exact ⟨u, rfl, hF⟩
end FR
/-- sums over what is marked -/
theorem sm_ct (p : Nat → Bool) (g : Nat → Nat) : ∀ N, fb_sm g (fb_ct p N) = fb_sm (fun r => if p r = true then g (fb_ct p r) else 0) N := by
  intro N
  induction N with
  | zero => rfl
  | succ N ih =>
    rw [fb_ct_succ, fb_sm_succ]
    cases e : p N with
    | false => simp; exact ih
    | true => simp only [if_true]; rw [fb_sm_succ, ih]
theorem ct_sm (p : Nat → Bool) : ∀ N, fb_ct p N = fb_sm (fun r => if p r = true then 1 else 0) N := by
  intro N
  induction N with
  | zero => rfl
  | succ N ih => rw [fb_ct_succ, fb_sm_succ, ih]
theorem ct_iN (P : Nat → Prop) : ∀ N, fb_ct (fun r => pb_ (P r)) N = fb_sm (fun r => iN_ (P r)) N := by
  intro N
  rw [ct_sm]
  refine fb_sm_cong (fun r _ => ?_)
  by_cases h : P r
  · rw [if_pos (pb_t.mpr h), iN_1 h]
  · rw [if_neg (fun q => h (pb_t.mp q)), iN_0 h]
theorem rk_d {G : Nat → Wl_} {n d : Nat} (hI : MI_ G n d) {h : Nat} (hh : h < 2 ^ n) : rk_ (hS_ G h) ≤ d := by
  obtain ⟨_, hd1, hd, _, _, hz, _⟩ := hI
  have z : ∀ x, hS_ G h x → ∀ j, j < 3 → d ≤ j → cf_ j x = 0 := by
    rintro x ⟨k, hk, rfl⟩ j hj hdj
    exact hz k (lt_bit hh hk) j hj hdj
  have h3 := rk_le3 (hS_ G h)
  rcases (show d = 3 ∨ d = 2 ∨ d = 1 by omega) with rfl | rfl | rfl
  · exact h3
  · refine Classical.byContradiction fun q => ?_
    obtain ⟨x, y, w, hx, hy, hw, hd⟩ := rk_inv3 (show rk_ (hS_ G h) = 3 by omega)
    apply hd
    have a := z x hx 2 (by decide) (by decide)
    have b := z y hy 2 (by decide) (by decide)
    have c := z w hw 2 (by decide) (by decide)
    simp only [cf_] at a b c
    simp at a b c
    simp only [dt_, dr_, cx_, a, b, c]
    grind
  · refine Classical.byContradiction fun q => ?_
    have hR2 : R2_ (hS_ G h) := by
      rcases (show rk_ (hS_ G h) = 3 ∨ rk_ (hS_ G h) = 2 by omega) with w | w
      · exact R3_R2 (rk_inv3 w)
      · exact (rk_inv2 w).1
    obtain ⟨x, y, hx, hy, hc⟩ := hR2
    apply hc
    have a := z x hx 2 (by decide) (by decide)
    have b := z y hy 2 (by decide) (by decide)
    have a' := z x hx 1 (by decide) (by decide)
    have b' := z y hy 1 (by decide) (by decide)
    simp only [cf_] at a b a' b'
    simp at a b a' b'
    simp only [cx_, a, b, a', b', o3_, Prod.mk.injEq]
    refine ⟨?_, ?_, ?_⟩ <;> grind
theorem Wd_in {G : Nat → Wl_} {n d : Nat} (hI : MI_ G n d) {r : Nat} {w : Int32} (h : Wd_ G n d r w) : ∃ j, j ≤ d ∧ w = nI j := by
  obtain ⟨hF, rfl⟩ := h
  have := rk_d hI (hS_row hI.1 (Fa_lt hF))
  exact ⟨d - rk_ (hS_ G (mk_ 8 r 1)), by omega, pk_sub this⟩
theorem Wd_vw {G : Nat → Wl_} {n d : Nat} (hI : MI_ G n d) {r : Nat} (hr : r < 2 ^ 31) {w : Int32} (hw : w ≠ -1) : vw_ G n d (nI r) = w ↔ Wd_ G n d r w := by
  unfold vw_ Wd_
  by_cases h : FaI_ G n (nI r)
  · rw [ci2_t h, nI_clamp hr]
    exact ⟨fun e => ⟨(FaI_nI hI.1 hr).mp h, e⟩, fun e => e.2⟩
  · rw [ci2_f h]
    exact ⟨fun e => absurd e.symm hw, fun e => absurd ((FaI_nI hI.1 hr).mpr e.1) h⟩
noncomputable def vf_ (G : Nat → Wl_) (n d : Nat) (w : Int32) : Int32 := ci2_ (w < 0 ∨ nI d < w) (-1) (nI (fb_sm (fun r => iN_ (Wd_ G n d r w)) (3 ^ n)))
theorem sm_iN_le (P : Nat → Prop) : ∀ N, fb_sm (fun r => iN_ (P r)) N ≤ N := by
  intro N
  induction N with
  | zero => exact Nat.le_refl _
  | succ N ih =>
    have := iN_le (P N)
    rw [fb_sm_succ]
    omega
section FW
variable {wl : Nat → Int32} {n d : Nat}
theorem m_faces (hI : MI_ (gM_ wl) n d) {s : MT_} (hs : mI_ (gM_ wl) n s) (w : Int32) : ∃ s' : MT_, fX6_faces (nI d) (nI n) s.1 s.2.1 s.2.2.1 wl s.2.2.2.1 s.2.2.2.2.1 s.2.2.2.2.2.1 s.2.2.2.2.2.2.1 s.2.2.2.2.2.2.2.1 s.2.2.2.2.2.2.2.2 w = some (vf_ (gM_ wl) n d w, s') ∧ mI_ (gM_ wl) n s' := by
  have hn := hI.1
  have hd := hI.2.2.1
  have h3 := p3_6561 hn
  unfold fX6_faces fX6_in vf_
  by_cases h0 : w < 0
  · rw [if_pos h0, Option.bind_some, if_pos rfl, ci2_t (Or.inl h0)]
    exact ⟨s, rfl, hs⟩
  · rw [if_neg h0]
    by_cases h1 : nI d < w
    · rw [if_pos h1, Option.bind_some, if_pos rfl, ci2_t (Or.inr h1)]
      exact ⟨s, rfl, hs⟩
    · rw [if_neg h1, Option.bind_some, if_neg (show ¬ (1 : Int32) = 0 by decide), ci2_f (fun q => by rcases q with q | q; exact h0 q; exact h1 q)]
      have hw : w ≠ -1 := fun q => h0 (by rw [q]; decide)
      have hlp := lp_for (body := fun (st : (Int32 × Int32 × MT_)) => fX6_faces_L18 (nI n) (nI d) wl w st.1 st.2.1 st.2.2.1 st.2.2.2.1 st.2.2.2.2.1 st.2.2.2.2.2.1 st.2.2.2.2.2.2.1 st.2.2.2.2.2.2.2.1 st.2.2.2.2.2.2.2.2.1 st.2.2.2.2.2.2.2.2.2.1 st.2.2.2.2.2.2.2.2.2.2)
        (fun r st => st.1 = nI r ∧ st.2.1 = nI (fb_sm (fun r => iN_ (Wd_ (gM_ wl) n d r w)) r) ∧ mI_ (gM_ wl) n st.2.2)
        (fun st => st.2.1 = nI (fb_sm (fun r => iN_ (Wd_ (gM_ wl) n d r w)) (3 ^ n)) ∧ mI_ (gM_ wl) n st.2.2) (3 ^ n) (by omega) (s := ((0 : Int32), (0 : Int32), s)) ⟨rfl, rfl, hs⟩ ?_ ?_
      · obtain ⟨⟨i, x, s'⟩, e1, e2, e3⟩ := hlp
        dsimp only at e2 e3
        subst e2
        refine ⟨s', ?_, e3⟩
        rw [bind_yes e1]
      · rintro r ⟨i, x, t⟩ hr ⟨e1, e2, e3⟩
        dsimp only at e1 e2 e3 ⊢
        subst e1 e2
        left
        unfold fX6_faces_L18
        obtain ⟨od', sm', nm', w', ev', ne', su', nx', ta', e, hW⟩ := m_width hI e3 t.2.1 t.2.2.1 t.2.2.2.2.1 t.2.2.2.2.2.1 t.2.2.2.2.2.2.1 t.2.2.2.2.2.2.2.1 t.2.2.2.2.2.2.2.2 (nI r)
        rw [bind_yes (f_power (by omega)), if_neg (nI_ge hr (by omega)), bind_yes e]
        dsimp only
        by_cases q : vw_ (gM_ wl) n d (nI r) = w
        · rw [if_pos q]
          refine ⟨_, rfl, nI_1 r, ?_, hW⟩
          rw [fb_sm_succ, iN_1 ((Wd_vw hI (by omega) hw).mp q)]
          exact nI_1 _
        · rw [if_neg q]
          refine ⟨_, rfl, nI_1 r, ?_, hW⟩
          rw [fb_sm_succ, iN_0 (fun z => q ((Wd_vw hI (by omega) hw).mpr z))]
          exact nI_add _ 0
      · rintro ⟨i, x, t⟩ ⟨e1, e2, e3⟩
        dsimp only at e1 e2 e3 ⊢
        subst e1 e2
        unfold fX6_faces_L18
        rw [bind_yes (f_power (by omega)), if_pos (nI_le (Nat.le_refl _) (by omega))]
        exact ⟨_, rfl, rfl, e3⟩
end FW
section FC
variable {G : Nat → Wl_} {n d fo li : Nat} {rk cm mk ro wi la lb : Nat → Int32}
theorem f_countOf (hfo : fo ≤ 577) (w : Int32) : fX1_countOfWidth (nI fo) wi w = some (nI (fb_ct (fun i => decide (wi i = w)) fo)) := by
  unfold fX1_countOfWidth
  refine bind_yes (a := (nI fo, nI (fb_ct (fun i => decide (wi i = w)) fo))) ?_
  refine lp_seq (body := fun (st : (Int32 × Int32)) => fX1_countOfWidth_L4 (nI fo) wi w st.1 st.2) (fun k => (nI k, nI (fb_ct (fun i => decide (wi i = w)) k))) fo (by omega) ?_ ?_
  · intro k hk
    show fX1_countOfWidth_L4 (nI fo) wi w (nI k) _ = _
    unfold fX1_countOfWidth_L4
    rw [if_neg (nI_ge hk (by omega)), ck_yes (in_R_nI (show k < 577 by omega) (by decide)), nI_clamp (by omega), nI_1]
    by_cases q : wi k = w
    · rw [if_pos q, nI_1]; simp [fb_ct_succ, q]
    · rw [if_neg q]; simp [fb_ct_succ, q]
  · show fX1_countOfWidth_L4 (nI fo) wi w (nI fo) _ = _
    unfold fX1_countOfWidth_L4
    rw [if_pos (nI_le (Nat.le_refl _) (by omega))]
/-- widths in the order of the rows -/
theorem ct_W (hC : CU_ G n d fo li rk cm mk ro wi la lb) (w : Int32) : ∀ r, r ≤ 6561 → fb_ct (fun i => decide (wi i = w)) (fb_ct (mkd_ mk) r) = fb_ct (fun r => pb_ (Wd_ G n d r w)) r := by
  intro r
  induction r with
  | zero => intro _; rfl
  | succ r ih =>
    intro hr
    have ihr := ih (by omega)
    have hm := hC.1 r (by omega)
    rw [fb_ct_succ (mkd_ mk), fb_ct_succ (fun r => pb_ (Wd_ G n d r w))]
    cases e : mkd_ mk r with
    | false =>
      have : pb_ (Wd_ G n d r w) = false := pb_f.mpr (fun q => by rw [hm.mpr q.1] at e; cases e)
      simp only [this, Bool.false_eq_true, if_false, Nat.add_zero]
      exact ihr
    | true =>
      simp only [if_true]
      rw [fb_ct_succ, ihr]
      congr 1
      have hw := (hC.2.2.2.1 r (by omega) e).2
      by_cases q : Wd_ G n d r w
      · rw [pb_t.mpr q, if_pos (decide_eq_true (by rw [hw]; exact q.2))]; rfl
      · rw [pb_f.mpr q, if_neg (fun z => q ⟨hm.mp e, by rw [← hw]; exact of_decide_eq_true z⟩)]; rfl
theorem ct_W_all (hn : n ≤ 8) (hC : CU_ G n d fo li rk cm mk ro wi la lb) (w : Int32) : fb_ct (fun i => decide (wi i = w)) fo = fb_sm (fun r => iN_ (Wd_ G n d r w)) (3 ^ n) := by
  have h3 := p3_6561 hn
  have e := ct_W hC w 6561 (Nat.le_refl _)
  rw [← hC.2.1] at e
  rw [e, show 6561 = 3 ^ n + (6561 - 3 ^ n) by omega, fb_ct_split, ← ct_iN]
  have : fb_ct (fun k => pb_ (Wd_ G n d (3 ^ n + k) w)) (6561 - 3 ^ n) = 0 := fb_ct_zero.mpr (fun k _ => pb_f.mpr (fun q => by have := Fa_lt q.1; omega))
  omega
end FC
section FX
variable {va vb vc ve vth : Nat → Int32} {n d : Nat}
theorem c_faces (hP : PI_ (gC_ va vb vc ve) n) (hT : TH_ vth) {u : CT_} (hu : cI_ (gC_ va vb vc ve) n d u) (w : Int32) : ∃ u' : CT_, fX5_faces (nI d) (nI n) u.1 u.2.1 u.2.2.1 va vb vc ve vth u.2.2.2.1 u.2.2.2.2.1 u.2.2.2.2.2.1 u.2.2.2.2.2.2.1 u.2.2.2.2.2.2.2.1 u.2.2.2.2.2.2.2.2.1 u.2.2.2.2.2.2.2.2.2.1 u.2.2.2.2.2.2.2.2.2.2.1 u.2.2.2.2.2.2.2.2.2.2.2.1 u.2.2.2.2.2.2.2.2.2.2.2.2.1 u.2.2.2.2.2.2.2.2.2.2.2.2.2.1 u.2.2.2.2.2.2.2.2.2.2.2.2.2.2.1 u.2.2.2.2.2.2.2.2.2.2.2.2.2.2.2.1 u.2.2.2.2.2.2.2.2.2.2.2.2.2.2.2.2.1 u.2.2.2.2.2.2.2.2.2.2.2.2.2.2.2.2.2.1 u.2.2.2.2.2.2.2.2.2.2.2.2.2.2.2.2.2.2.1 u.2.2.2.2.2.2.2.2.2.2.2.2.2.2.2.2.2.2.2.1 u.2.2.2.2.2.2.2.2.2.2.2.2.2.2.2.2.2.2.2.2.1 u.2.2.2.2.2.2.2.2.2.2.2.2.2.2.2.2.2.2.2.2.2.1 u.2.2.2.2.2.2.2.2.2.2.2.2.2.2.2.2.2.2.2.2.2.2.1 u.2.2.2.2.2.2.2.2.2.2.2.2.2.2.2.2.2.2.2.2.2.2.2.1 u.2.2.2.2.2.2.2.2.2.2.2.2.2.2.2.2.2.2.2.2.2.2.2.2.1 u.2.2.2.2.2.2.2.2.2.2.2.2.2.2.2.2.2.2.2.2.2.2.2.2.2 w = some (vf_ (gC_ va vb vc ve) n d w, u') ∧ cI_ (gC_ va vb vc ve) n d u' := by
  unfold fX5_faces vf_
  by_cases h0 : w < 0
  · rw [if_pos h0, ci2_t (Or.inl h0)]
    exact ⟨u, rfl, hu⟩
  · rw [if_neg h0]
    by_cases h1 : nI d < w
    · rw [if_neg (fun q => by
        rw [Int32.le_iff_toInt_le] at q
        rw [Int32.lt_iff_toInt_lt] at h1
        omega), ci2_t (Or.inr h1)]
      exact ⟨u, rfl, hu⟩
    · rw [if_pos (by
        rw [Int32.le_iff_toInt_le]
        rw [Int32.lt_iff_toInt_lt] at h1
        omega), ci2_f (fun q => by rcases q with q | q; exact h0 q; exact h1 q)]
      obtain ⟨u', e, hF⟩ := f_freshCut hP hT hu
      obtain ⟨h5, h6, fo, li, h7, h8, hC⟩ := hF
      rw [bind_yes e, h7, bind_yes (f_countOf hC.2.2.1 w), ct_W_all hP.1 hC w, ← h7]
      exact ⟨u', rfl, Or.inr ⟨h5, h6, fo, li, h7, h8, hC⟩⟩
theorem c_width (hP : PI_ (gC_ va vb vc ve) n) (hT : TH_ vth) {u : CT_} (hu : cI_ (gC_ va vb vc ve) n d u) (p : Int32) : ∃ u' : CT_, fX5_width (nI d) (nI n) u.1 u.2.1 u.2.2.1 va vb vc ve vth u.2.2.2.1 u.2.2.2.2.1 u.2.2.2.2.2.1 u.2.2.2.2.2.2.1 u.2.2.2.2.2.2.2.1 u.2.2.2.2.2.2.2.2.1 u.2.2.2.2.2.2.2.2.2.1 u.2.2.2.2.2.2.2.2.2.2.1 u.2.2.2.2.2.2.2.2.2.2.2.1 u.2.2.2.2.2.2.2.2.2.2.2.2.1 u.2.2.2.2.2.2.2.2.2.2.2.2.2.1 u.2.2.2.2.2.2.2.2.2.2.2.2.2.2.1 u.2.2.2.2.2.2.2.2.2.2.2.2.2.2.2.1 u.2.2.2.2.2.2.2.2.2.2.2.2.2.2.2.2.1 u.2.2.2.2.2.2.2.2.2.2.2.2.2.2.2.2.2.1 u.2.2.2.2.2.2.2.2.2.2.2.2.2.2.2.2.2.2.1 u.2.2.2.2.2.2.2.2.2.2.2.2.2.2.2.2.2.2.2.1 u.2.2.2.2.2.2.2.2.2.2.2.2.2.2.2.2.2.2.2.2.1 u.2.2.2.2.2.2.2.2.2.2.2.2.2.2.2.2.2.2.2.2.2.1 u.2.2.2.2.2.2.2.2.2.2.2.2.2.2.2.2.2.2.2.2.2.2.1 u.2.2.2.2.2.2.2.2.2.2.2.2.2.2.2.2.2.2.2.2.2.2.2.1 u.2.2.2.2.2.2.2.2.2.2.2.2.2.2.2.2.2.2.2.2.2.2.2.2.1 u.2.2.2.2.2.2.2.2.2.2.2.2.2.2.2.2.2.2.2.2.2.2.2.2.2 p = some (vw_ (gC_ va vb vc ve) n d p, u') ∧ cI_ (gC_ va vb vc ve) n d u' := by
  unfold fX5_width vw_
  have hn := hP.1
  obtain ⟨u', e, hF⟩ := f_freshCut hP hT hu
  obtain ⟨h5, h6, fo, li, h7, h8, hC⟩ := hF
  obtain ⟨x, e2, hy⟩ := f_hasFace hn hC p
  rw [bind_yes e, bind_yes e2]
  rcases hy with ⟨rfl, hFa⟩ | ⟨rfl, hFa⟩
  · rw [ci2_t hFa]
    obtain ⟨r, rfl, hFa⟩ := hFa
    have h3 := p3_6561 hn
    have hr := Fa_lt hFa
    have hm := hS_row hn hr
    have h2n : 2 ^ n ≤ 256 := Nat.pow_le_pow_right (n := 2) (j := 8) (by decide) hn
    rw [if_neg (by decide), show (1 : Int32) = nI 1 from rfl, bind_yes (f_maskOf (by omega) (by decide)), ck_yes (in_R_nI (show mk_ 8 r 1 < 256 by omega) (by decide)), nI_clamp (by omega), nI_clamp (by omega), hC.2.2.2.2.1 _ hm]
    exact ⟨u', rfl, Or.inr ⟨h5, h6, fo, li, h7, h8, hC⟩⟩
  · rw [ci2_f hFa, if_pos rfl]
    exact ⟨u', rfl, Or.inr ⟨h5, h6, fo, li, h7, h8, hC⟩⟩
end FX
