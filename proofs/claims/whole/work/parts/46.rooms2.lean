/-! rooms of the class; counts; the farthest way -/
section RC
variable {va vb vc ve vth : Nat → Int32} {n d : Nat}
theorem f_holds {p : Int32} (hn : n ≤ 8) : ∃ x, fX3_holds (nI n) p = some x ∧ yn_ x (∃ k, k < n ∧ p = nI k) := by
  unfold fX3_holds
  by_cases h0 : p < 0
  · rw [if_pos h0]
    exact ⟨_, rfl, Or.inr ⟨rfl, fun w => by
      obtain ⟨k, hk, rfl⟩ := w
      exact nI_pos (by omega) h0⟩⟩
  · rw [if_neg h0]
    obtain ⟨k, hk, rfl⟩ := nI_of h0
    by_cases h1 : k < n
    · rw [if_neg (nI_ge h1 (by omega))]
      exact ⟨_, rfl, Or.inl ⟨rfl, k, h1, rfl⟩⟩
    · rw [if_pos (nI_le (show n ≤ k by omega) hk)]
      exact ⟨_, rfl, Or.inr ⟨rfl, fun w => by
        obtain ⟨k', hk', e⟩ := w
        have := (nI_eq hk (by omega)).mp e
        omega⟩⟩
theorem c_walls (hP : PI_ (gC_ va vb vc ve) n) (hT : TH_ vth) {u : CT_} (hu : cI_ (gC_ va vb vc ve) n d u) (p : Int32) : ∃ u' : CT_, fX5_walls (nI d) (nI n) u.1 u.2.1 u.2.2.1 va vb vc ve vth u.2.2.2.1 u.2.2.2.2.1 u.2.2.2.2.2.1 u.2.2.2.2.2.2.1 u.2.2.2.2.2.2.2.1 u.2.2.2.2.2.2.2.2.1 u.2.2.2.2.2.2.2.2.2.1 u.2.2.2.2.2.2.2.2.2.2.1 u.2.2.2.2.2.2.2.2.2.2.2.1 u.2.2.2.2.2.2.2.2.2.2.2.2.1 u.2.2.2.2.2.2.2.2.2.2.2.2.2.1 u.2.2.2.2.2.2.2.2.2.2.2.2.2.2.1 u.2.2.2.2.2.2.2.2.2.2.2.2.2.2.2.1 u.2.2.2.2.2.2.2.2.2.2.2.2.2.2.2.2.1 u.2.2.2.2.2.2.2.2.2.2.2.2.2.2.2.2.2.1 u.2.2.2.2.2.2.2.2.2.2.2.2.2.2.2.2.2.2.1 u.2.2.2.2.2.2.2.2.2.2.2.2.2.2.2.2.2.2.2.1 u.2.2.2.2.2.2.2.2.2.2.2.2.2.2.2.2.2.2.2.2.1 u.2.2.2.2.2.2.2.2.2.2.2.2.2.2.2.2.2.2.2.2.2.1 u.2.2.2.2.2.2.2.2.2.2.2.2.2.2.2.2.2.2.2.2.2.2.1 u.2.2.2.2.2.2.2.2.2.2.2.2.2.2.2.2.2.2.2.2.2.2.2.1 u.2.2.2.2.2.2.2.2.2.2.2.2.2.2.2.2.2.2.2.2.2.2.2.2.1 u.2.2.2.2.2.2.2.2.2.2.2.2.2.2.2.2.2.2.2.2.2.2.2.2.2 p = some (vW_ (gC_ va vb vc ve) n p, u') ∧ cI_ (gC_ va vb vc ve) n d u' := by
  unfold fX5_walls vW_
  have hn := hP.1
  have h3 := p3_6561 hn
  obtain ⟨u', e, hF⟩ := f_freshCut hP hT hu
  obtain ⟨h5, h6, fo, li, h7, h8, hC⟩ := hF
  obtain ⟨x, e2, hy⟩ := f_hasRoom hn hC p
  rw [bind_yes e, bind_yes e2]
  rcases hy with ⟨rfl, hR⟩ | ⟨rfl, hR⟩
  · rw [if_neg (by decide), ci2_t hR]
    obtain ⟨r, rfl, hR⟩ := hR
    have hr := Fa_lt hR.1
    rw [bind_yes (f_wallsOf hn hC (by omega) hR.2), nI_clamp (by omega)]
    exact ⟨u', rfl, Or.inr ⟨h5, h6, fo, li, h7, h8, hC⟩⟩
  · rw [if_pos rfl, ci2_f hR]
    exact ⟨u', rfl, Or.inr ⟨h5, h6, fo, li, h7, h8, hC⟩⟩
theorem c_beside (hP : PI_ (gC_ va vb vc ve) n) (hT : TH_ vth) {u : CT_} (hu : cI_ (gC_ va vb vc ve) n d u) (p q : Int32) : ∃ u' : CT_, fX5_beside (nI d) (nI n) u.1 u.2.1 u.2.2.1 va vb vc ve vth u.2.2.2.1 u.2.2.2.2.1 u.2.2.2.2.2.1 u.2.2.2.2.2.2.1 u.2.2.2.2.2.2.2.1 u.2.2.2.2.2.2.2.2.1 u.2.2.2.2.2.2.2.2.2.1 u.2.2.2.2.2.2.2.2.2.2.1 u.2.2.2.2.2.2.2.2.2.2.2.1 u.2.2.2.2.2.2.2.2.2.2.2.2.1 u.2.2.2.2.2.2.2.2.2.2.2.2.2.1 u.2.2.2.2.2.2.2.2.2.2.2.2.2.2.1 u.2.2.2.2.2.2.2.2.2.2.2.2.2.2.2.1 u.2.2.2.2.2.2.2.2.2.2.2.2.2.2.2.2.1 u.2.2.2.2.2.2.2.2.2.2.2.2.2.2.2.2.2.1 u.2.2.2.2.2.2.2.2.2.2.2.2.2.2.2.2.2.2.1 u.2.2.2.2.2.2.2.2.2.2.2.2.2.2.2.2.2.2.2.1 u.2.2.2.2.2.2.2.2.2.2.2.2.2.2.2.2.2.2.2.2.1 u.2.2.2.2.2.2.2.2.2.2.2.2.2.2.2.2.2.2.2.2.2.1 u.2.2.2.2.2.2.2.2.2.2.2.2.2.2.2.2.2.2.2.2.2.2.1 u.2.2.2.2.2.2.2.2.2.2.2.2.2.2.2.2.2.2.2.2.2.2.2.1 u.2.2.2.2.2.2.2.2.2.2.2.2.2.2.2.2.2.2.2.2.2.2.2.2.1 u.2.2.2.2.2.2.2.2.2.2.2.2.2.2.2.2.2.2.2.2.2.2.2.2.2 p q = some (vB_ (gC_ va vb vc ve) n p q, u') ∧ cI_ (gC_ va vb vc ve) n d u' := by
  unfold fX5_beside vB_
  have hn := hP.1
  have h3 := p3_6561 hn
  obtain ⟨u', e, hF⟩ := f_freshCut hP hT hu
  obtain ⟨h5, h6, fo, li, h7, h8, hC⟩ := hF
  have hU : cI_ (gC_ va vb vc ve) n d u' := Or.inr ⟨h5, h6, fo, li, h7, h8, hC⟩
  obtain ⟨y, e3, hy3⟩ := f_holds (p := q) hn
  obtain ⟨x, e2, hy⟩ := f_hasRoom hn hC p
  rw [bind_yes e, bind_yes e3]
  rcases hy3 with ⟨rfl, hq⟩ | ⟨rfl, hq⟩
  · rw [if_neg (by decide), bind_yes e2]
    rcases hy with ⟨rfl, hR⟩ | ⟨rfl, hR⟩
    · rw [if_neg (by decide)]
      have hR0 := hR
      have hq0 := hq
      obtain ⟨r, rfl, hR⟩ := hR
      obtain ⟨k, hk, rfl⟩ := hq
      have hr := Fa_lt hR.1
      have hax := xr_lt (show r < 6561 by omega) (show k < 8 by omega)
      obtain ⟨z, e4, hz⟩ := f_hasRoom hn hC (nI (xr_ r k))
      rw [bind_yes (f_across (by omega) (by omega) (hR.2 k hk)), bind_yes e4, nI_clamp (by omega), nI_clamp (by omega)]
      have hz' := yn_cg hz (RoI_nI hn (by omega))
      rcases hz' with ⟨rfl, w⟩ | ⟨rfl, w⟩
      · rw [if_neg (by decide), ci2_t ⟨hR0, hq0, w⟩]
        exact ⟨u', rfl, hU⟩
      · rw [if_pos rfl, ci2_f (fun z => w z.2.2)]
        exact ⟨u', rfl, hU⟩
    · rw [if_pos rfl, ci2_f (fun z => hR z.1)]
      exact ⟨u', rfl, hU⟩
  · rw [if_pos rfl, ci2_f (fun z => hq z.2.1)]
    exact ⟨u', rfl, hU⟩
theorem c_way (hP : PI_ (gC_ va vb vc ve) n) (hT : TH_ vth) {u : CT_} (hu : cI_ (gC_ va vb vc ve) n d u) (p q : Int32) : ∃ u' : CT_, fX5_way (nI d) (nI n) u.1 u.2.1 u.2.2.1 va vb vc ve vth u.2.2.2.1 u.2.2.2.2.1 u.2.2.2.2.2.1 u.2.2.2.2.2.2.1 u.2.2.2.2.2.2.2.1 u.2.2.2.2.2.2.2.2.1 u.2.2.2.2.2.2.2.2.2.1 u.2.2.2.2.2.2.2.2.2.2.1 u.2.2.2.2.2.2.2.2.2.2.2.1 u.2.2.2.2.2.2.2.2.2.2.2.2.1 u.2.2.2.2.2.2.2.2.2.2.2.2.2.1 u.2.2.2.2.2.2.2.2.2.2.2.2.2.2.1 u.2.2.2.2.2.2.2.2.2.2.2.2.2.2.2.1 u.2.2.2.2.2.2.2.2.2.2.2.2.2.2.2.2.1 u.2.2.2.2.2.2.2.2.2.2.2.2.2.2.2.2.2.1 u.2.2.2.2.2.2.2.2.2.2.2.2.2.2.2.2.2.2.1 u.2.2.2.2.2.2.2.2.2.2.2.2.2.2.2.2.2.2.2.1 u.2.2.2.2.2.2.2.2.2.2.2.2.2.2.2.2.2.2.2.2.1 u.2.2.2.2.2.2.2.2.2.2.2.2.2.2.2.2.2.2.2.2.2.1 u.2.2.2.2.2.2.2.2.2.2.2.2.2.2.2.2.2.2.2.2.2.2.1 u.2.2.2.2.2.2.2.2.2.2.2.2.2.2.2.2.2.2.2.2.2.2.2.1 u.2.2.2.2.2.2.2.2.2.2.2.2.2.2.2.2.2.2.2.2.2.2.2.2.1 u.2.2.2.2.2.2.2.2.2.2.2.2.2.2.2.2.2.2.2.2.2.2.2.2.2 p q = some (vY_ (gC_ va vb vc ve) n p q, u') ∧ cI_ (gC_ va vb vc ve) n d u' := by
  unfold fX5_way vY_
  have hn := hP.1
  have h3 := p3_6561 hn
  obtain ⟨u', e, hF⟩ := f_freshCut hP hT hu
  obtain ⟨h5, h6, fo, li, h7, h8, hC⟩ := hF
  have hU : cI_ (gC_ va vb vc ve) n d u' := Or.inr ⟨h5, h6, fo, li, h7, h8, hC⟩
  obtain ⟨x, e2, hy⟩ := f_hasRoom hn hC p
  obtain ⟨y, e3, hy3⟩ := f_hasRoom hn hC q
  rw [bind_yes e, bind_yes e2]
  rcases hy with ⟨rfl, hR⟩ | ⟨rfl, hR⟩
  · rw [if_neg (by decide), bind_yes e3]
    rcases hy3 with ⟨rfl, hR2⟩ | ⟨rfl, hR2⟩
    · rw [if_neg (by decide), ci2_t ⟨hR, hR2⟩]
      obtain ⟨r, rfl, hR⟩ := hR
      obtain ⟨r', rfl, hR2⟩ := hR2
      have hr := Fa_lt hR.1
      have hr' := Fa_lt hR2.1
      have hpt : pt_ n r r' < 256 := bn_lt8 _ hn
      rw [nI_clamp (by omega), nI_clamp (by omega), bind_yes (c_parted hn hr hr' hR.2 hR2.2), bind_yes (f_bitCount (show pt_ n r r' < 2 ^ 32 from Nat.lt_trans hpt (by decide))), pop_8 hpt]
      exact ⟨u', rfl, hU⟩
    · rw [if_pos rfl, ci2_f (fun z => hR2 z.2)]
      exact ⟨u', rfl, hU⟩
  · rw [if_pos rfl, ci2_f (fun z => hR z.1)]
    exact ⟨u', rfl, hU⟩
theorem c_step (hP : PI_ (gC_ va vb vc ve) n) (hT : TH_ vth) {u : CT_} (hu : cI_ (gC_ va vb vc ve) n d u) (p q : Int32) : ∃ x, ∃ u' : CT_, fX5_step (nI d) (nI n) u.1 u.2.1 u.2.2.1 va vb vc ve vth u.2.2.2.1 u.2.2.2.2.1 u.2.2.2.2.2.1 u.2.2.2.2.2.2.1 u.2.2.2.2.2.2.2.1 u.2.2.2.2.2.2.2.2.1 u.2.2.2.2.2.2.2.2.2.1 u.2.2.2.2.2.2.2.2.2.2.1 u.2.2.2.2.2.2.2.2.2.2.2.1 u.2.2.2.2.2.2.2.2.2.2.2.2.1 u.2.2.2.2.2.2.2.2.2.2.2.2.2.1 u.2.2.2.2.2.2.2.2.2.2.2.2.2.2.1 u.2.2.2.2.2.2.2.2.2.2.2.2.2.2.2.1 u.2.2.2.2.2.2.2.2.2.2.2.2.2.2.2.2.1 u.2.2.2.2.2.2.2.2.2.2.2.2.2.2.2.2.2.1 u.2.2.2.2.2.2.2.2.2.2.2.2.2.2.2.2.2.2.1 u.2.2.2.2.2.2.2.2.2.2.2.2.2.2.2.2.2.2.2.1 u.2.2.2.2.2.2.2.2.2.2.2.2.2.2.2.2.2.2.2.2.1 u.2.2.2.2.2.2.2.2.2.2.2.2.2.2.2.2.2.2.2.2.2.1 u.2.2.2.2.2.2.2.2.2.2.2.2.2.2.2.2.2.2.2.2.2.2.1 u.2.2.2.2.2.2.2.2.2.2.2.2.2.2.2.2.2.2.2.2.2.2.2.1 u.2.2.2.2.2.2.2.2.2.2.2.2.2.2.2.2.2.2.2.2.2.2.2.2.1 u.2.2.2.2.2.2.2.2.2.2.2.2.2.2.2.2.2.2.2.2.2.2.2.2.2 p q = some (x, u') ∧ vS_ (gC_ va vb vc ve) n p q x ∧ cI_ (gC_ va vb vc ve) n d u' := by
  unfold fX5_step
  have hn := hP.1
  have h3 := p3_6561 hn
  obtain ⟨u', e, hF⟩ := f_freshCut hP hT hu
  obtain ⟨h5, h6, fo, li, h7, h8, hC⟩ := hF
  have hU : cI_ (gC_ va vb vc ve) n d u' := Or.inr ⟨h5, h6, fo, li, h7, h8, hC⟩
  obtain ⟨x, e2, hy⟩ := f_hasRoom hn hC p
  obtain ⟨y, e3, hy3⟩ := f_hasRoom hn hC q
  rw [bind_yes e, bind_yes e2]
  rcases hy with ⟨rfl, hR⟩ | ⟨rfl, hR⟩
  · rw [if_neg (by decide), bind_yes e3]
    rcases hy3 with ⟨rfl, hR2⟩ | ⟨rfl, hR2⟩
    · rw [if_neg (by decide)]
      have hRR : RoI_ (gC_ va vb vc ve) n p ∧ RoI_ (gC_ va vb vc ve) n q := ⟨hR, hR2⟩
      obtain ⟨r, rfl, hR⟩ := hR
      obtain ⟨r', rfl, hR2⟩ := hR2
      have hr := Fa_lt hR.1
      have hr' := Fa_lt hR2.1
      have hpt : pt_ n r r' < 256 := bn_lt8 _ hn
      rw [bind_yes (c_parted hn hr hr' hR.2 hR2.2), bind_yes (f_wallsOf hn hC (by omega) hR.2)]
      have hand : pt_ n r r' &&& wm_ (gC_ va vb vc ve) n r < 2 ^ 31 := Nat.lt_of_le_of_lt Nat.and_le_left (by omega)
      have hlp := lp_for (body := fun (st : Int32) => fX5_step_L39 (nI n) (nI (pt_ n r r')) (nI (wm_ (gC_ va vb vc ve) n r)) u' st)
        (fun k st => st = nI k ∧ ∀ j, j < k → (pt_ n r r' &&& wm_ (gC_ va vb vc ve) n r).testBit j = false)
        (fun w => ∃ x, ∃ s' : CT_, Sum.elim (fun (x16 : Int32) => some ((-1 : Int32), u')) (fun y => some y) w = some (x, s') ∧ fs_ n (pt_ n r r' &&& wm_ (gC_ va vb vc ve) n r) x ∧ cI_ (gC_ va vb vc ve) n d s') n (by omega) (s := (0 : Int32)) ⟨rfl, fun j hj => absurd hj (Nat.not_lt_zero j)⟩ ?_ ?_
      · obtain ⟨w, g1, x, s', g2, g3, g4⟩ := hlp
        refine ⟨x, s', ?_, Or.inl ⟨hRR, by rw [nI_clamp (by omega), nI_clamp (by omega)]; exact g3⟩, g4⟩
        rw [bind_yes g1]; exact g2
      · rintro k st hk ⟨rfl, h5⟩
        unfold fX5_step_L39
        rw [if_neg (nI_ge hk (by omega)), nI_and]
        have hb := bit_t1 hand (show k < 31 by omega)
        cases e : (pt_ n r r' &&& wm_ (gC_ va vb vc ve) n r).testBit k with
        | false =>
          left
          rw [if_neg (fun w => by rw [hb.mp w] at e; cases e)]
          refine ⟨_, rfl, nI_1 k, fun j hj => ?_⟩
          rcases (show j < k ∨ j = k by omega) with w | rfl
          · exact h5 j w
          · exact e
        | true =>
          right
          rw [if_pos (hb.mpr e)]
          exact ⟨_, rfl, _, u', rfl, Or.inl ⟨k, hk, e, h5, rfl⟩, hU⟩
      · rintro st ⟨rfl, h5⟩
        unfold fX5_step_L39
        rw [if_pos (nI_le (Nat.le_refl n) (by omega))]
        exact ⟨_, rfl, _, u', rfl, Or.inr ⟨h5, rfl⟩, hU⟩
    · rw [if_pos rfl]
      exact ⟨_, u', rfl, Or.inr ⟨fun z => hR2 z.2, rfl⟩, hU⟩
  · rw [if_pos rfl]
    exact ⟨_, u', rfl, Or.inr ⟨fun z => hR z.1, rfl⟩, hU⟩
end RC
noncomputable def vC_ (G : Nat → Wl_) (n d : Nat) (p : Int32) : Int32 :=
  if p = 0 then nI d else if p = 1 then nI n else if p = 2 then nI (fb_sm (fun r => iN_ (Ro_ G n r)) (3 ^ n)) else if p = 3 then nI (fb_sm (fun r => iN_ (Fa_ G n r)) (3 ^ n)) else if p = 4 then nI (rk_ (hS_ G (2 ^ n - 1))) else -1
theorem Wd_room {G : Nat → Wl_} {n d : Nat} (hn : n ≤ 8) (hd : d ≤ 3) {r : Nat} : Wd_ G n d r (nI d) ↔ Ro_ G n r := by
  unfold Wd_ Ro_
  constructor
  · rintro ⟨hF, h⟩
    refine ⟨hF, fun k hk hdg => ?_⟩
    have hr := Fa_lt hF
    have h3 := rk_le3 (hS_ G (mk_ 8 r 1))
    have h0 : rk_ (hS_ G (mk_ 8 r 1)) = 0 := by
      have e : (nI d - nI (rk_ (hS_ G (mk_ 8 r 1)))).toInt = (d : Int) - rk_ (hS_ G (mk_ 8 r 1)) := pk_sub_toInt (by omega) (by omega)
      rw [h, nI_toInt (by omega)] at e
      omega
    apply rk_inv0 h0
    exact ⟨G k, k, by rw [mk_dig hn hr (by decide), bn_bit]; simp [hk, hdg], rfl⟩
  · rintro ⟨hF, h⟩
    refine ⟨hF, ?_⟩
    have hr := Fa_lt hF
    have h0 : mk_ 8 r 1 = 0 := by rw [mk_dig hn hr (by decide)]; exact on_0.mpr h
    have hk0 := (KV_0 G 0 0 0).1
    rw [h0, ← hk0]
    exact Int32.sub_zero _
section CN
variable {wl : Nat → Int32} {n d : Nat}
theorem m_count (hI : MI_ (gM_ wl) n d) {s : MT_} (hs : mI_ (gM_ wl) n s) (p : Int32) : ∃ s' : MT_, fX6_count (nI d) (nI n) s.1 s.2.1 s.2.2.1 wl s.2.2.2.1 s.2.2.2.2.1 s.2.2.2.2.2.1 s.2.2.2.2.2.2.1 s.2.2.2.2.2.2.2.1 s.2.2.2.2.2.2.2.2 p = some (vC_ (gM_ wl) n d p, s') ∧ mI_ (gM_ wl) n s' := by
  have hn := hI.1
  have h3 := p3_6561 hn
  unfold fX6_count vC_
  by_cases h0 : p = 0
  · rw [if_pos h0, if_pos h0]; exact ⟨s, rfl, hs⟩
  rw [if_neg h0, if_neg h0]
  by_cases h1 : p = 1
  · rw [if_pos h1, if_pos h1]; exact ⟨s, rfl, hs⟩
  rw [if_neg h1, if_neg h1]
  by_cases h2 : p = 2
  · rw [if_pos h2, if_pos h2]
    have hlp := lp_for (body := fun (st : (Int32 × Int32 × MU_)) => fX6_count_L48 (nI n) (nI d) wl st.1 st.2.1 st.2.2.1 st.2.2.2.1 st.2.2.2.2.1 st.2.2.2.2.2.1 st.2.2.2.2.2.2.1 st.2.2.2.2.2.2.2.1 st.2.2.2.2.2.2.2.2.1 st.2.2.2.2.2.2.2.2.2)
      (fun r st => st.1 = nI r ∧ st.2.1 = nI (fb_sm (fun r => iN_ (Ro_ (gM_ wl) n r)) r) ∧ mJ_ (gM_ wl) n st.2.2)
      (fun st => st.2.1 = nI (fb_sm (fun r => iN_ (Ro_ (gM_ wl) n r)) (3 ^ n)) ∧ mJ_ (gM_ wl) n st.2.2) (3 ^ n) (by omega) (s := ((0 : Int32), (0 : Int32), s.1, s.2.1, s.2.2.1, s.2.2.2.1, s.2.2.2.2.1, s.2.2.2.2.2.1, s.2.2.2.2.2.2.1, s.2.2.2.2.2.2.2.1)) ⟨rfl, rfl, hs⟩ ?_ ?_
    · obtain ⟨⟨i, y, s'⟩, e1, e2, e3⟩ := hlp
      dsimp only at e2 e3
      subst e2
      rw [bind_yes e1]
      exact ⟨(s'.1, s'.2.1, s'.2.2.1, s'.2.2.2.1, s'.2.2.2.2.1, s'.2.2.2.2.2.1, s'.2.2.2.2.2.2.1, s'.2.2.2.2.2.2.2, s.2.2.2.2.2.2.2.2), rfl, e3⟩
    · rintro r ⟨i, y, t⟩ hr ⟨e1, e2, e3⟩
      dsimp only at e1 e2 e3 ⊢
      subst e1 e2
      left
      unfold fX6_count_L48
      obtain ⟨x, t', e4, hy, ht⟩ := m_room hI e3 (nI r)
      rw [bind_yes (f_power (by omega)), if_neg (nI_ge hr (by omega)), bind_yes e4]
      dsimp only
      have hy' := yn_cg hy (RoI_nI hn (by omega))
      rcases hy' with ⟨rfl, q⟩ | ⟨rfl, q⟩
      · rw [if_neg (by decide)]
        exact ⟨_, rfl, nI_1 r, by rw [fb_sm_succ, iN_1 q]; exact nI_1 _, ht⟩
      · rw [if_pos rfl]
        exact ⟨_, rfl, nI_1 r, by rw [fb_sm_succ, iN_0 q]; exact nI_add _ 0, ht⟩
    · rintro ⟨i, y, t⟩ ⟨e1, e2, e3⟩
      dsimp only at e1 e2 e3 ⊢
      subst e1 e2
      unfold fX6_count_L48
      rw [bind_yes (f_power (by omega)), if_pos (nI_le (Nat.le_refl _) (by omega))]
      exact ⟨_, rfl, rfl, e3⟩
  rw [if_neg h2, if_neg h2]
  by_cases h4 : p = 3
  · rw [if_pos h4, if_pos h4]
    have hlp := lp_for (body := fun (st : (Int32 × Int32 × MU_)) => fX6_count_L85 (nI n) (nI d) wl st.1 st.2.1 st.2.2.1 st.2.2.2.1 st.2.2.2.2.1 st.2.2.2.2.2.1 st.2.2.2.2.2.2.1 st.2.2.2.2.2.2.2.1 st.2.2.2.2.2.2.2.2.1 st.2.2.2.2.2.2.2.2.2)
      (fun r st => st.1 = nI r ∧ st.2.1 = nI (fb_sm (fun r => iN_ (Fa_ (gM_ wl) n r)) r) ∧ mJ_ (gM_ wl) n st.2.2)
      (fun st => st.2.1 = nI (fb_sm (fun r => iN_ (Fa_ (gM_ wl) n r)) (3 ^ n)) ∧ mJ_ (gM_ wl) n st.2.2) (3 ^ n) (by omega) (s := ((0 : Int32), (0 : Int32), s.1, s.2.1, s.2.2.1, s.2.2.2.1, s.2.2.2.2.1, s.2.2.2.2.2.1, s.2.2.2.2.2.2.1, s.2.2.2.2.2.2.2.1)) ⟨rfl, rfl, hs⟩ ?_ ?_
    · obtain ⟨⟨i, y, s'⟩, e1, e2, e3⟩ := hlp
      dsimp only at e2 e3
      subst e2
      rw [bind_yes e1]
      exact ⟨(s'.1, s'.2.1, s'.2.2.1, s'.2.2.2.1, s'.2.2.2.2.1, s'.2.2.2.2.2.1, s'.2.2.2.2.2.2.1, s'.2.2.2.2.2.2.2, s.2.2.2.2.2.2.2.2), rfl, e3⟩
    · rintro r ⟨i, y, t⟩ hr ⟨e1, e2, e3⟩
      dsimp only at e1 e2 e3 ⊢
      subst e1 e2
      left
      unfold fX6_count_L85
      obtain ⟨x, t', e4, hy, ht⟩ := m_faceQ hI e3 (nI r)
      rw [bind_yes (f_power (by omega)), if_neg (nI_ge hr (by omega)), bind_yes e4]
      dsimp only
      have hy' := yn_cg hy (FaI_nI hn (by omega))
      rcases hy' with ⟨rfl, q⟩ | ⟨rfl, q⟩
      · rw [if_neg (by decide)]
        exact ⟨_, rfl, nI_1 r, by rw [fb_sm_succ, iN_1 q]; exact nI_1 _, ht⟩
      · rw [if_pos rfl]
        exact ⟨_, rfl, nI_1 r, by rw [fb_sm_succ, iN_0 q]; exact nI_add _ 0, ht⟩
    · rintro ⟨i, y, t⟩ ⟨e1, e2, e3⟩
      dsimp only at e1 e2 e3 ⊢
      subst e1 e2
      unfold fX6_count_L85
      rw [bind_yes (f_power (by omega)), if_pos (nI_le (Nat.le_refl _) (by omega))]
      exact ⟨_, rfl, rfl, e3⟩
  rw [if_neg h4, if_neg h4]
  by_cases h5 : p = 4
  · rw [if_pos h5, if_pos h5, nI_all hn]
    obtain ⟨t', e⟩ := m_rank3 hn hI.2.2.2.1 hI.2.2.2.2.1 (h := 2 ^ n - 1) (by have := Nat.pow_pos (n := n) (show 0 < 2 by decide); omega) s.2.2.2.2.2.2.2.2
    rw [bind_yes e]
    exact ⟨(s.1, s.2.1, s.2.2.1, s.2.2.2.1, s.2.2.2.2.1, s.2.2.2.2.2.1, s.2.2.2.2.2.2.1, s.2.2.2.2.2.2.2.1, t'), rfl, hs⟩
  · rw [if_neg h5, if_neg h5]; exact ⟨s, rfl, hs⟩
end CN
section CP
variable {va vb vc ve vth : Nat → Int32} {n d : Nat}
theorem f_rankAll (hn : n ≤ 8) {G : Nat → Wl_} {fo li : Nat} {rk cm mk ro wi la lb : Nat → Int32} (hC : CU_ G n d fo li rk cm mk ro wi la lb) : fX2_rankOfAll (nI n) rk = some (nI (rk_ (hS_ G (2 ^ n - 1)))) := by
  have h2n : 2 ^ n ≤ 256 := Nat.pow_le_pow_right (n := 2) (j := 8) (by decide) hn
  have h2p : 0 < 2 ^ n := Nat.pow_pos (by decide)
  unfold fX2_rankOfAll
  rw [nI_all hn, ck_yes (in_R_nI (show 2 ^ n - 1 < 256 by omega) (by decide)), nI_clamp (by omega), hC.2.2.2.2.1 _ (by omega)]
theorem c_count (hd : d ≤ 3) (hP : PI_ (gC_ va vb vc ve) n) (hT : TH_ vth) {u : CT_} (hu : cI_ (gC_ va vb vc ve) n d u) (p : Int32) : ∃ u' : CT_, fX5_count (nI d) (nI n) u.1 u.2.1 u.2.2.1 va vb vc ve vth u.2.2.2.1 u.2.2.2.2.1 u.2.2.2.2.2.1 u.2.2.2.2.2.2.1 u.2.2.2.2.2.2.2.1 u.2.2.2.2.2.2.2.2.1 u.2.2.2.2.2.2.2.2.2.1 u.2.2.2.2.2.2.2.2.2.2.1 u.2.2.2.2.2.2.2.2.2.2.2.1 u.2.2.2.2.2.2.2.2.2.2.2.2.1 u.2.2.2.2.2.2.2.2.2.2.2.2.2.1 u.2.2.2.2.2.2.2.2.2.2.2.2.2.2.1 u.2.2.2.2.2.2.2.2.2.2.2.2.2.2.2.1 u.2.2.2.2.2.2.2.2.2.2.2.2.2.2.2.2.1 u.2.2.2.2.2.2.2.2.2.2.2.2.2.2.2.2.2.1 u.2.2.2.2.2.2.2.2.2.2.2.2.2.2.2.2.2.2.1 u.2.2.2.2.2.2.2.2.2.2.2.2.2.2.2.2.2.2.2.1 u.2.2.2.2.2.2.2.2.2.2.2.2.2.2.2.2.2.2.2.2.1 u.2.2.2.2.2.2.2.2.2.2.2.2.2.2.2.2.2.2.2.2.2.1 u.2.2.2.2.2.2.2.2.2.2.2.2.2.2.2.2.2.2.2.2.2.2.1 u.2.2.2.2.2.2.2.2.2.2.2.2.2.2.2.2.2.2.2.2.2.2.2.1 u.2.2.2.2.2.2.2.2.2.2.2.2.2.2.2.2.2.2.2.2.2.2.2.2.1 u.2.2.2.2.2.2.2.2.2.2.2.2.2.2.2.2.2.2.2.2.2.2.2.2.2 p = some (vC_ (gC_ va vb vc ve) n d p, u') ∧ cI_ (gC_ va vb vc ve) n d u' := by
  have hn := hP.1
  have h3 := p3_6561 hn
  obtain ⟨u', e, hF⟩ := f_freshCut hP hT hu
  obtain ⟨h5, h6, fo, li, h7, h8, hC⟩ := hF
  have hU : cI_ (gC_ va vb vc ve) n d u' := Or.inr ⟨h5, h6, fo, li, h7, h8, hC⟩
  unfold fX5_count vC_
  by_cases h0 : p = 0
  · rw [if_pos h0, if_pos h0]; exact ⟨u, rfl, hu⟩
  rw [if_neg h0, if_neg h0]
  by_cases h1 : p = 1
  · rw [if_pos h1, if_pos h1]; exact ⟨u, rfl, hu⟩
  rw [if_neg h1, if_neg h1]
  by_cases h2 : p = 2
  · have hcnt : fb_sm (fun r => iN_ (Wd_ (gC_ va vb vc ve) n d r (nI d))) (3 ^ n) = fb_sm (fun r => iN_ (Ro_ (gC_ va vb vc ve) n r)) (3 ^ n) := fb_sm_cong (fun r _ => iN_cg (Wd_room hn hd))
    rw [if_pos h2, if_pos h2, bind_yes e, h7, bind_yes (f_countOf hC.2.2.1 (nI d)), ct_W_all hn hC (nI d), ← h7, hcnt]
    exact ⟨u', rfl, hU⟩
  rw [if_neg h2, if_neg h2]
  by_cases h4 : p = 3
  · rw [if_pos h4, if_pos h4, bind_yes e]
    have : fo = fb_sm (fun r => iN_ (Fa_ (gC_ va vb vc ve) n r)) (3 ^ n) := by
      rw [hC.2.1, show 6561 = 3 ^ n + (6561 - 3 ^ n) by omega, fb_ct_split, ← ct_iN]
      have e1 : fb_ct (mkd_ u'.2.2.2.2.2.2.2.2.1) (3 ^ n) = fb_ct (fun r => pb_ (Fa_ (gC_ va vb vc ve) n r)) (3 ^ n) := fb_ct_cong (fun r hr => by
        have := hC.1 r (by omega)
        cases h : mkd_ u'.2.2.2.2.2.2.2.2.1 r with
        | true => exact (pb_t.mpr (this.mp h)).symm
        | false => exact (pb_f.mpr (fun q => by rw [this.mpr q] at h; cases h)).symm)
      have e2 : fb_ct (fun k => mkd_ u'.2.2.2.2.2.2.2.2.1 (3 ^ n + k)) (6561 - 3 ^ n) = 0 := fb_ct_zero.mpr (fun k hk => by
        cases h : mkd_ u'.2.2.2.2.2.2.2.2.1 (3 ^ n + k) with
        | false => rfl
        | true => have := Fa_lt ((hC.1 _ (by omega)).mp h); omega)
      rw [e1, e2]; rfl
    rw [← this, h7.symm]
    exact ⟨u', rfl, hU⟩
  rw [if_neg h4, if_neg h4]
  by_cases h9 : p = 4
  · rw [if_pos h9, if_pos h9, bind_yes e, bind_yes (f_rankAll hn hC)]
    exact ⟨u', rfl, hU⟩
  · rw [if_neg h9, if_neg h9]; exact ⟨u, rfl, hu⟩
end CP
