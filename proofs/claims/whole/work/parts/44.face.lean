/-! the i-th face; rooms, walls of a room, ways -/
abbrev MU_ : Type := Int32 × Int32 × Int32 × NI_ × NI_ × NI_ × (Nat → Int64) × (Nat → Int64)
def mJ_ (G : Nat → Wl_) (n : Nat) (s : MU_) : Prop := s.1 = 0 → WF_ G n s.2.2.2.1
/-- the row of the i-th face of a width -/
def vF_ (G : Nat → Wl_) (n d : Nat) (w i x : Int32) : Prop :=
  (∃ r, Wd_ G n d r w ∧ i = nI (fb_ct (fun r => pb_ (Wd_ G n d r w)) r) ∧ x = nI r) ∨ (¬ ∃ r, Wd_ G n d r w ∧ i = nI (fb_ct (fun r => pb_ (Wd_ G n d r w)) r)) ∧ x = -1
theorem vF_one {G : Nat → Wl_} {n d : Nat} (hn : n ≤ 8) {w i x y : Int32} (hx : vF_ G n d w i x) (hy : vF_ G n d w i y) : x = y := by
  have h3 := p3_6561 hn
  rcases hx with ⟨r, h1, h2, rfl⟩ | ⟨h1, rfl⟩
  · rcases hy with ⟨r', g1, g2, rfl⟩ | ⟨g1, rfl⟩
    · have hr := Fa_lt h1.1
      have hr' := Fa_lt g1.1
      have a := fb_ct_le (fun r => pb_ (Wd_ G n d r w)) r
      have b := fb_ct_le (fun r => pb_ (Wd_ G n d r w)) r'
      have e := (nI_eq (by omega) (by omega)).mp (h2.symm.trans g2)
      rw [fb_ct_kth_one (p := fun r => pb_ (Wd_ G n d r w)) (pb_t.mpr h1) (pb_t.mpr g1) e]
    · exact absurd ⟨r, h1, h2⟩ g1
  · rcases hy with ⟨r', g1, g2, rfl⟩ | ⟨g1, rfl⟩
    · exact absurd ⟨r', g1, g2⟩ h1
    · rfl
section FA
variable {wl : Nat → Int32} {n d : Nat}
theorem m_face (hI : MI_ (gM_ wl) n d) {s : MT_} (hs : mI_ (gM_ wl) n s) (w i : Int32) : ∃ x, ∃ s' : MT_, fX6_face (nI d) (nI n) s.1 s.2.1 s.2.2.1 wl s.2.2.2.1 s.2.2.2.2.1 s.2.2.2.2.2.1 s.2.2.2.2.2.2.1 s.2.2.2.2.2.2.2.1 s.2.2.2.2.2.2.2.2 w i = some (x, s') ∧ vF_ (gM_ wl) n d w i x ∧ mI_ (gM_ wl) n s' := by
  have hn := hI.1
  have hd := hI.2.2.1
  have h3 := p3_6561 hn
  unfold fX6_face fX6_in
  by_cases h0 : w < 0
  · rw [if_pos h0, Option.bind_some, if_pos rfl]
    refine ⟨_, s, rfl, Or.inr ⟨?_, rfl⟩, hs⟩
    rintro ⟨r, h1, _⟩
    obtain ⟨j, hj, rfl⟩ := Wd_in hI h1
    exact nI_pos (by omega) h0
  · rw [if_neg h0]
    by_cases h1 : nI d < w
    · rw [if_pos h1, Option.bind_some, if_pos rfl]
      refine ⟨_, s, rfl, Or.inr ⟨?_, rfl⟩, hs⟩
      rintro ⟨r, h2, _⟩
      obtain ⟨j, hj, rfl⟩ := Wd_in hI h2
      exact nI_nlt hj (by omega) h1
    · rw [if_neg h1, Option.bind_some, if_neg (show ¬ (1 : Int32) = 0 by decide)]
      have hw : w ≠ -1 := fun q => h0 (by rw [q]; decide)
      by_cases h2 : 0 ≤ i
      · rw [if_pos h2]
        have h2' : ¬ i < 0 := fun q => by
          rw [Int32.lt_iff_toInt_lt] at q
          rw [Int32.le_iff_toInt_le] at h2
          omega
        obtain ⟨i0, hi0, rfl⟩ := nI_of h2'
        have hlp := lp_for (body := fun (st : (Int32 × Int32 × MT_)) => fX6_face_L23 (nI n) (nI d) wl w st.1 st.2.1 st.2.2.1 st.2.2.2.1 st.2.2.2.2.1 st.2.2.2.2.2.1 st.2.2.2.2.2.2.1 st.2.2.2.2.2.2.2.1 st.2.2.2.2.2.2.2.2.1 st.2.2.2.2.2.2.2.2.2.1 st.2.2.2.2.2.2.2.2.2.2)
          (fun r st => st.1 = nI r ∧ fb_ct (fun r => pb_ (Wd_ (gM_ wl) n d r w)) r ≤ i0 ∧ st.2.1 = nI (i0 - fb_ct (fun r => pb_ (Wd_ (gM_ wl) n d r w)) r) ∧ mI_ (gM_ wl) n st.2.2)
          (fun u => ∃ x, ∃ s' : MT_, Sum.elim (fun (x20 : (Int32 × Int32 × MT_)) => some ((-1 : Int32), x20.2.2.1, x20.2.2.2.1, x20.2.2.2.2.1, x20.2.2.2.2.2.1, x20.2.2.2.2.2.2.1, x20.2.2.2.2.2.2.2.1, x20.2.2.2.2.2.2.2.2.1, x20.2.2.2.2.2.2.2.2.2.1, x20.2.2.2.2.2.2.2.2.2.2)) (fun y => some y) u = some (x, s') ∧ vF_ (gM_ wl) n d w (nI i0) x ∧ mI_ (gM_ wl) n s') (3 ^ n) (by omega) (s := ((0 : Int32), nI i0, s)) ⟨rfl, Nat.zero_le _, rfl, hs⟩ ?_ ?_
        · obtain ⟨u, e1, x, s', e2, e3, e4⟩ := hlp
          refine ⟨x, s', ?_, e3, e4⟩
          rw [bind_yes e1]
          exact e2
        · rintro r ⟨j, y, t⟩ hr ⟨e1, e2, e3, e4⟩
          dsimp only at e1 e2 e3 e4 ⊢
          subst e1 e3
          unfold fX6_face_L23
          obtain ⟨od', sm', nm', w', ev', ne', su', nx', ta', e, hW⟩ := m_width hI e4 t.2.1 t.2.2.1 t.2.2.2.2.1 t.2.2.2.2.2.1 t.2.2.2.2.2.2.1 t.2.2.2.2.2.2.2.1 t.2.2.2.2.2.2.2.2 (nI r)
          rw [bind_yes (f_power (by omega)), if_neg (nI_ge hr (by omega)), bind_yes e]
          dsimp only
          by_cases q : vw_ (gM_ wl) n d (nI r) = w
          · have hWd := (Wd_vw hI (by omega) hw).mp q
            rw [if_pos q]
            by_cases z : i0 = fb_ct (fun r => pb_ (Wd_ (gM_ wl) n d r w)) r
            · right
              rw [if_pos (by rw [← z, Nat.sub_self]; rfl)]
              exact ⟨_, rfl, _, _, rfl, Or.inl ⟨r, hWd, by rw [← z], rfl⟩, hW⟩
            · left
              have hc : fb_ct (fun r => pb_ (Wd_ (gM_ wl) n d r w)) (r + 1) = fb_ct (fun r => pb_ (Wd_ (gM_ wl) n d r w)) r + 1 := by rw [fb_ct_succ, pb_t.mpr hWd]; rfl
              rw [if_neg (nI_ne0 (by omega) (by omega))]
              refine ⟨_, rfl, nI_1 r, by rw [hc]; omega, ?_, hW⟩
              rw [hc]
              obtain ⟨m, hm⟩ : ∃ m, i0 - fb_ct (fun r => pb_ (Wd_ (gM_ wl) n d r w)) r = m + 1 := ⟨i0 - fb_ct (fun r => pb_ (Wd_ (gM_ wl) n d r w)) r - 1, by omega⟩
              dsimp only
              rw [hm, pk_m1]
              congr 1
              omega
          · left
            have hc : fb_ct (fun r => pb_ (Wd_ (gM_ wl) n d r w)) (r + 1) = fb_ct (fun r => pb_ (Wd_ (gM_ wl) n d r w)) r := by
              rw [fb_ct_succ, pb_f.mpr (fun z => q ((Wd_vw hI (by omega) hw).mpr z))]; simp
            rw [if_neg q]
            exact ⟨_, rfl, nI_1 r, by rw [hc]; exact e2, by rw [hc], hW⟩
        · rintro ⟨j, y, t⟩ ⟨e1, e2, e3, e4⟩
          dsimp only at e1 e2 e3 e4 ⊢
          subst e1 e3
          unfold fX6_face_L23
          rw [bind_yes (f_power (by omega)), if_pos (nI_le (Nat.le_refl _) (by omega))]
          refine ⟨_, rfl, _, t, rfl, Or.inr ⟨?_, rfl⟩, e4⟩
          rintro ⟨r, g1, g2⟩
          have hr := Fa_lt g1.1
          have m := fb_ct_mono (fun r => pb_ (Wd_ (gM_ wl) n d r w)) (show r + 1 ≤ 3 ^ n by omega)
          rw [fb_ct_succ] at m
          simp only [pb_t.mpr g1, if_true] at m
          have a := fb_ct_le (fun r => pb_ (Wd_ (gM_ wl) n d r w)) r
          have e := (nI_eq hi0 (by omega)).mp g2
          omega
      · rw [if_neg h2]
        refine ⟨_, s, rfl, Or.inr ⟨?_, rfl⟩, hs⟩
        rintro ⟨r, h4, h5⟩
        apply h2
        rw [h5]
        have hr := Fa_lt h4.1
        have a := fb_ct_le (fun r => pb_ (Wd_ (gM_ wl) n d r w)) r
        exact nI_pos' (by omega)
/-- rooms, with the state in one piece -/
theorem m_room (hI : MI_ (gM_ wl) n d) {s : MU_} (hs : mJ_ (gM_ wl) n s) (p : Int32) : ∃ x, ∃ s' : MU_, fX6_isRoom (nI d) (nI n) s.1 s.2.1 s.2.2.1 wl s.2.2.2.1 s.2.2.2.2.1 s.2.2.2.2.2.1 s.2.2.2.2.2.2.1 s.2.2.2.2.2.2.2 p = some (x, s') ∧ yn_ x (RoI_ (gM_ wl) n p) ∧ mJ_ (gM_ wl) n s' := by
  obtain ⟨x, od1, sm1, nm1, w1, ev1, ne1, su1, nx1, e, hy, hW⟩ := m_isRoom hI hs s.2.1 s.2.2.1 s.2.2.2.2.1 s.2.2.2.2.2.1 s.2.2.2.2.2.2.1 s.2.2.2.2.2.2.2 p
  exact ⟨x, (od1, sm1, nm1, w1, ev1, ne1, su1, nx1), e, hy, hW⟩
theorem m_faceQ (hI : MI_ (gM_ wl) n d) {s : MU_} (hs : mJ_ (gM_ wl) n s) (p : Int32) : ∃ x, ∃ s' : MU_, fX6_isFace (nI d) (nI n) s.1 s.2.1 s.2.2.1 wl s.2.2.2.1 s.2.2.2.2.1 s.2.2.2.2.2.1 s.2.2.2.2.2.2.1 s.2.2.2.2.2.2.2 p = some (x, s') ∧ yn_ x (FaI_ (gM_ wl) n p) ∧ mJ_ (gM_ wl) n s' := by
  obtain ⟨x, od1, sm1, nm1, w1, ev1, ne1, su1, nx1, e, hy, hW⟩ := m_isFace hI hs s.2.1 s.2.2.1 s.2.2.2.2.1 s.2.2.2.2.2.1 s.2.2.2.2.2.2.1 s.2.2.2.2.2.2.2 p
  exact ⟨x, (od1, sm1, nm1, w1, ev1, ne1, su1, nx1), e, hy, hW⟩
end FA
section FB
variable {G : Nat → Wl_} {n d fo li : Nat} {rk cm mk ro wi la lb : Nat → Int32}
theorem f_rowOf2 (hn : n ≤ 8) (hC : CU_ G n d fo li rk cm mk ro wi la lb) (w i : Int32) : ∃ x, fX1_rowOfWidth (nI fo) ro wi w i = some x ∧ vF_ G n d w i x := by
  have h577 := hC.2.2.1
  have h3 := p3_6561 hn
  -- the row at a place of the order
  have at_ : ∀ k, k < fo → ∃ r, r < 6561 ∧ mkd_ mk r = true ∧ fb_ct (mkd_ mk) r = k := by
    intro k hk
    rw [hC.2.1] at hk
    obtain ⟨r, h1, h2, h4⟩ := fb_ct_kth hk
    exact ⟨r, h1, h2, h4⟩
  unfold fX1_rowOfWidth
  have hlp := lp_for (body := fun (st : (Int32 × Int32)) => fX1_rowOfWidth_L5 (nI fo) wi w i ro st.1 st.2)
    (fun k st => st.1 = nI k ∧ st.2 = nI (fb_ct (fun i => decide (wi i = w)) k) ∧ ∀ k', k' < k → wi k' = w → i ≠ nI (fb_ct (fun i => decide (wi i = w)) k'))
    (fun u => ∃ x, Sum.elim (fun (x7 : (Int32 × Int32)) => some (-1 : Int32)) (fun y => some y) u = some x ∧ vF_ G n d w i x) fo (by omega) (s := ((0 : Int32), (0 : Int32))) ⟨rfl, rfl, fun k' hk => absurd hk (Nat.not_lt_zero k')⟩ ?_ ?_
  · obtain ⟨u, e1, x, e2, e3⟩ := hlp
    refine ⟨x, ?_, e3⟩
    rw [bind_yes e1]; exact e2
  · rintro k ⟨j, y⟩ hk ⟨e1, e2, e3⟩
    dsimp only at e1 e2 e3 ⊢
    subst e1 e2
    unfold fX1_rowOfWidth_L5
    rw [if_neg (nI_ge hk (by omega)), ck_yes (in_R_nI (show k < 577 by omega) (by decide)), ck_yes (in_R_nI (show k < 577 by omega) (by decide)), nI_clamp (by omega), nI_1]
    by_cases q : wi k = w
    · rw [if_pos q]
      by_cases z : nI (fb_ct (fun i => decide (wi i = w)) k) = i
      · right
        rw [if_pos z]
        refine ⟨_, rfl, _, rfl, Or.inl ?_⟩
        obtain ⟨r, hr, hm, hc⟩ := at_ k hk
        obtain ⟨hro, hwi⟩ := hC.2.2.2.1 r hr hm
        rw [hc] at hro hwi
        refine ⟨r, ⟨(hC.1 r hr).mp hm, by rw [← hwi]; exact q⟩, ?_, hro⟩
        rw [← z, ← ct_W hC w r (by omega), hc]
      · left
        rw [if_neg z, nI_1]
        refine ⟨_, rfl, rfl, by rw [fb_ct_succ, if_pos (decide_eq_true q)], fun k' hk' hw' => ?_⟩
        rcases (show k' < k ∨ k' = k by omega) with c | rfl
        · exact e3 k' c hw'
        · exact fun c => z c.symm
    · left
      rw [if_neg q]
      refine ⟨_, rfl, rfl, by rw [fb_ct_succ, if_neg (fun c => q (of_decide_eq_true c))]; rfl, fun k' hk' hw' => ?_⟩
      rcases (show k' < k ∨ k' = k by omega) with c | rfl
      · exact e3 k' c hw'
      · exact absurd hw' q
  · rintro ⟨j, y⟩ ⟨e1, e2, e3⟩
    dsimp only at e1 e2 e3 ⊢
    subst e1 e2
    unfold fX1_rowOfWidth_L5
    rw [if_pos (nI_le (Nat.le_refl _) (by omega))]
    refine ⟨_, rfl, _, rfl, Or.inr ⟨?_, rfl⟩⟩
    rintro ⟨r, g1, g2⟩
    have hr := Fa_lt g1.1
    have hm := (hC.1 r (by omega)).mpr g1.1
    have hwi := (hC.2.2.2.1 r (by omega) hm).2
    have hlt : fb_ct (mkd_ mk) r < fo := by
      have m := fb_ct_mono (mkd_ mk) (show r + 1 ≤ 6561 by omega)
      rw [fb_ct_succ, hm] at m
      simp only [if_true] at m
      rw [hC.2.1]; omega
    refine e3 _ hlt (by rw [hwi]; exact g1.2) ?_
    rw [ct_W hC w r (by omega)]; exact g2
end FB
section FD
variable {va vb vc ve vth : Nat → Int32} {n d : Nat}
theorem c_face (hP : PI_ (gC_ va vb vc ve) n) (hT : TH_ vth) {u : CT_} (hu : cI_ (gC_ va vb vc ve) n d u) (w i : Int32) : ∃ x, ∃ u' : CT_, fX5_face (nI d) (nI n) u.1 u.2.1 u.2.2.1 va vb vc ve vth u.2.2.2.1 u.2.2.2.2.1 u.2.2.2.2.2.1 u.2.2.2.2.2.2.1 u.2.2.2.2.2.2.2.1 u.2.2.2.2.2.2.2.2.1 u.2.2.2.2.2.2.2.2.2.1 u.2.2.2.2.2.2.2.2.2.2.1 u.2.2.2.2.2.2.2.2.2.2.2.1 u.2.2.2.2.2.2.2.2.2.2.2.2.1 u.2.2.2.2.2.2.2.2.2.2.2.2.2.1 u.2.2.2.2.2.2.2.2.2.2.2.2.2.2.1 u.2.2.2.2.2.2.2.2.2.2.2.2.2.2.2.1 u.2.2.2.2.2.2.2.2.2.2.2.2.2.2.2.2.1 u.2.2.2.2.2.2.2.2.2.2.2.2.2.2.2.2.2.1 u.2.2.2.2.2.2.2.2.2.2.2.2.2.2.2.2.2.2.1 u.2.2.2.2.2.2.2.2.2.2.2.2.2.2.2.2.2.2.2.1 u.2.2.2.2.2.2.2.2.2.2.2.2.2.2.2.2.2.2.2.2.1 u.2.2.2.2.2.2.2.2.2.2.2.2.2.2.2.2.2.2.2.2.2.1 u.2.2.2.2.2.2.2.2.2.2.2.2.2.2.2.2.2.2.2.2.2.2.1 u.2.2.2.2.2.2.2.2.2.2.2.2.2.2.2.2.2.2.2.2.2.2.2.1 u.2.2.2.2.2.2.2.2.2.2.2.2.2.2.2.2.2.2.2.2.2.2.2.2.1 u.2.2.2.2.2.2.2.2.2.2.2.2.2.2.2.2.2.2.2.2.2.2.2.2.2 w i = some (x, u') ∧ vF_ (gC_ va vb vc ve) n d w i x ∧ cI_ (gC_ va vb vc ve) n d u' := by
  unfold fX5_face
  obtain ⟨u', e, hF⟩ := f_freshCut hP hT hu
  obtain ⟨h5, h6, fo, li, h7, h8, hC⟩ := hF
  obtain ⟨x, e2, hx⟩ := f_rowOf2 hP.1 hC w i
  rw [← h7] at e2
  rw [bind_yes e, bind_yes e2]
  exact ⟨x, u', rfl, hx, Or.inr ⟨h5, h6, fo, li, h7, h8, hC⟩⟩
end FD
