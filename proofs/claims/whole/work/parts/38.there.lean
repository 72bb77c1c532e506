/-! the reference's isThere: whether a row of signs has a place -/
def rl_ (m : Nat) (su : Nat → Int64) (ev : Nat → Int32) : List Rw_ := (List.range m).map (fr_ su ev)
theorem rl_mem {m : Nat} {su : Nat → Int64} {ev : Nat → Int32} {x : Rw_} : x ∈ rl_ m su ev ↔ ∃ r, r < m ∧ fr_ su ev r = x := by
  unfold rl_
  rw [List.mem_map]
  constructor
  · rintro ⟨r, hr, e⟩; exact ⟨r, List.mem_range.mp hr, e⟩
  · rintro ⟨r, hr, e⟩; exact ⟨r, List.mem_range.mpr hr, e⟩
def NN_ : Nat → Nat
  | 0 => 8
  | 1 => 16
  | 2 => 64
  | _ => 1024
theorem NN_le (i : Nat) : NN_ i ≤ 1024 := by unfold NN_; split <;> omega
def FS_ (d i m : Nat) (su : Nat → Int64) (ev : Nat → Int32) : Prop := m ≤ NN_ i ∧ PB_ m su ev (BB_ i) ∧ ∀ s, s < m → ∀ j, j < 3 → (j < i ∨ d ≤ j) → cf_ j (tR_ su s) = 0
theorem m_copyL {m : Nat} (hm : m ≤ 1024) (a0 b0 : Int32) (ne : Nat → Int32) (nx su : Nat → Int64) : ∃ j su', lp_ (fun (st : (Int32 × (Nat → Int64))) => fX6_takesOut_L231 (a0, nI m, ne, nx) st.1 st.2) fu_ ((0 : Int32), su) = some (j, su') ∧ ∀ k, k < 4 * m → su' k = nx k := by
  have hlp := lp_for (body := fun (st : (Int32 × (Nat → Int64))) => fX6_takesOut_L231 (a0, nI m, ne, nx) st.1 st.2) (fun κ st => st.1 = nI κ ∧ ∀ k, k < κ → st.2 k = nx k) (fun st => ∀ k, k < 4 * m → st.2 k = nx k) (4 * m) (by omega) (s := ((0 : Int32), su)) ⟨rfl, fun k hk => absurd hk (Nat.not_lt_zero k)⟩ ?_ ?_
  · obtain ⟨⟨j, su'⟩, h1, h2⟩ := hlp
    exact ⟨j, su', h1, h2⟩
  · rintro κ ⟨j, s⟩ hκ ⟨h1, h2⟩
    dsimp only at h1 h2 ⊢
    subst h1
    left
    unfold fX6_takesOut_L231
    dsimp only
    have hR : in_R (nI κ) 4400 := in_R_nI (by omega) (by decide)
    rw [ix40, if_neg (nI_ge hκ (by omega)), ck_yes hR, ck_yes hR, nI_clamp (by omega), nI_1]
    refine ⟨_, rfl, rfl, fun k hk => ?_⟩
    dsimp only
    rcases (show k < κ ∨ k = κ by omega) with q | rfl
    · rw [pk_uLn (by omega)]; exact h2 k q
    · rw [pk_uLs]
  · rintro ⟨j, s⟩ ⟨h1, h2⟩
    dsimp only at h1 h2 ⊢
    subst h1
    unfold fX6_takesOut_L231
    dsimp only
    rw [ix40, if_pos (nI_le (Nat.le_refl _) (by omega))]
    exact ⟨_, rfl, h2⟩
theorem m_copyI {m : Nat} (hm : m ≤ 1024) (a0 : Int32) (ne ev : Nat → Int32) (nx : Nat → Int64) (hne : ∀ r, r < m → ne r = 0 ∨ ne r = 1) : ∃ j ev', lp_ (fun (st : (Int32 × (Nat → Int32))) => fX6_takesOut_L261 (a0, nI m, ne, nx) st.1 st.2) fu_ ((0 : Int32), ev) = some (j, ev') ∧ ∀ k, k < m → ev' k = ne k := by
  have hlp := lp_for (body := fun (st : (Int32 × (Nat → Int32))) => fX6_takesOut_L261 (a0, nI m, ne, nx) st.1 st.2) (fun κ st => st.1 = nI κ ∧ ∀ k, k < κ → st.2 k = ne k) (fun st => ∀ k, k < m → st.2 k = ne k) m (by omega) (s := ((0 : Int32), ev)) ⟨rfl, fun k hk => absurd hk (Nat.not_lt_zero k)⟩ ?_ ?_
  · obtain ⟨⟨j, su'⟩, h1, h2⟩ := hlp
    exact ⟨j, su', h1, h2⟩
  · rintro κ ⟨j, s⟩ hκ ⟨h1, h2⟩
    dsimp only at h1 h2 ⊢
    subst h1
    left
    unfold fX6_takesOut_L261
    dsimp only
    have hR : in_R (nI κ) 1100 := in_R_nI (by omega) (by decide)
    rw [if_neg (nI_ge hκ (by omega)), ck_yes hR, ck_yes hR, nI_clamp (by omega), nI_1]
    refine ⟨_, rfl, rfl, fun k hk => ?_⟩
    dsimp only
    rcases (show k < κ ∨ k = κ by omega) with q | rfl
    · rw [pk_un (by omega)]; exact h2 k q
    · rw [pk_us]
      rcases hne k hκ with w | w <;> rw [w] <;> rfl
  · rintro ⟨j, s⟩ ⟨h1, h2⟩
    dsimp only at h1 h2 ⊢
    subst h1
    unfold fX6_takesOut_L261
    dsimp only
    rw [if_pos (nI_le (Nat.le_refl _) (by omega))]
    exact ⟨_, rfl, h2⟩
theorem Sat_cg {L L' : List Rw_} (h : ∀ x, x ∈ L ↔ x ∈ L') : Sat_ L ↔ Sat_ L' := by
  unfold Sat_
  constructor
  · rintro ⟨p, hp⟩; exact ⟨p, fun r hr => hp r ((h r).mpr hr)⟩
  · rintro ⟨p, hp⟩; exact ⟨p, fun r hr => hp r ((h r).mp hr)⟩
theorem m_takesOut {d i m : Nat} {su : Nat → Int64} {ev : Nat → Int32} (hi : i < 3) (h : FS_ d i m su ev) (ne : Nat → Int32) (nx : Nat → Int64) :
    ∃ m' ev' ne' su' nx', fX6_takesOut (nI m) ev ne su nx (nI i) = some (nI m', nI m', ev', ne', su', nx') ∧ FS_ d (i + 1) m' su' ev' ∧ (Sat_ (rl_ m su ev) ↔ Sat_ (rl_ m' su' ev')) := by
  obtain ⟨hm, hP, hcf⟩ := h
  have hm1024 : m ≤ 1024 := Nat.le_trans hm (NN_le i)
  have hBB : 2 * (BB_ i * BB_ i) < 9223372036854775808 := BB_le ⟨i + 1, by omega⟩
  have hB1 : 1 ≤ BB_ i := by rcases (show i = 0 ∨ i = 1 ∨ i = 2 by omega) with rfl | rfl | rfl <;> decide +kernel
  unfold fX6_takesOut
  obtain ⟨j, u, e1, hpiv⟩ := m_pivot (m := m) (i := i) (ev := ev) (su := su) hm1024 (by omega) (fun s hs => (hP s hs).1)
  rw [bind_yes e1]
  -- from the new rows to the end
  have fin : ∀ {j' m' ne' nx'}, m' ≤ NN_ (i + 1) → PB_ m' nx' ne' (BB_ (i + 1)) → (∀ s, s < m' → ∀ jj, jj < 3 → (jj < i + 1 ∨ d ≤ jj) → cf_ jj (tR_ nx' s) = 0) → (Sat_ (rl_ m su ev) ↔ Sat_ (rl_ m' nx' ne')) → lp_ (fun (st : (Int32 × Int32 × (Nat → Int32) × (Nat → Int64))) => fX6_takesOut_L56 (nI m) (nI i) (j, u) su ev st.1 st.2.1 st.2.2.1 st.2.2.2) fu_ ((0 : Int32), (0 : Int32), ne, nx) = some (j', nI m', ne', nx') →
      ∃ m' ev' ne' su' nx', ((lp_ (fun (st : (Int32 × Int32 × (Nat → Int32) × (Nat → Int64))) => fX6_takesOut_L56 (nI m) (nI i) (j, u) su ev st.1 st.2.1 st.2.2.1 st.2.2.2) fu_ ((0 : Int32), (0 : Int32), ne, nx)).bind fun (u11 : (Int32 × Int32 × (Nat → Int32) × (Nat → Int64))) => (lp_ (fun (st : (Int32 × (Nat → Int64))) => fX6_takesOut_L231 u11 st.1 st.2) fu_ ((0 : Int32), su)).bind fun (u17 : (Int32 × (Nat → Int64))) => (lp_ (fun (st : (Int32 × (Nat → Int32))) => fX6_takesOut_L261 u11 st.1 st.2) fu_ ((0 : Int32), ev)).bind fun (u23 : (Int32 × (Nat → Int32))) => some (u11.2.1, u11.2.1, u23.2, u11.2.2.1, u17.2, u11.2.2.2)) = some (nI m', nI m', ev', ne', su', nx') ∧ FS_ d (i + 1) m' su' ev' ∧ (Sat_ (rl_ m su ev) ↔ Sat_ (rl_ m' su' ev')) := by
    intro j' m' ne' nx' h1 h2 h3 h4 e
    have hm' : m' ≤ 1024 := Nat.le_trans h1 (NN_le _)
    obtain ⟨j2, su', e2, g2⟩ := m_copyL (m := m') hm' j' j' ne' nx' su
    obtain ⟨j3, ev', e3, g3⟩ := m_copyI (m := m') hm' j' ne' ev nx' (fun r hr => (h2 r hr).1)
    have hrow : ∀ r, r < m' → tR_ su' r = tR_ nx' r := fun r hr => tR_cg (fun c hc => g2 _ (by omega))
    rw [bind_yes e, bind_yes e2, bind_yes e3]
    refine ⟨m', ev', ne', su', nx', rfl, ⟨h1, ?_, ?_⟩, h4.trans (Sat_cg (fun x => ?_))⟩
    · intro r hr
      rw [g3 r hr]
      exact ⟨(h2 r hr).1, fun c hc => by rw [g2 _ (by omega)]; exact (h2 r hr).2 c hc⟩
    · intro s hs jj hj1 hj2
      rw [hrow s hs]; exact h3 s hs jj hj1 hj2
    · rw [rl_mem, rl_mem]
      constructor
      · rintro ⟨r, hr, rfl⟩; exact ⟨r, hr, by unfold fr_; rw [hrow r hr, g3 r hr]⟩
      · rintro ⟨r, hr, rfl⟩; exact ⟨r, hr, by unfold fr_; rw [hrow r hr, g3 r hr]⟩
  rcases hpiv with ⟨hu, hno⟩ | ⟨p, hp, hu, hep, hne⟩
  · subst hu
    have hroom : fb_ct (fun s => decide (su (4 * s + i) = 0)) m + fb_ct (fun s => decide (0 < su (4 * s + i))) m * fb_ct (fun s => decide (su (4 * s + i) < 0)) m ≤ NN_ (i + 1) := by
      have h3 := ct_3 (fun s => su (4 * s + i)) m
      rcases (show i = 0 ∨ i = 1 ∨ i = 2 by omega) with rfl | rfl | rfl
      · have hm8 : m ≤ 8 := hm
        have := cnt_4 (M := 8) (by omega) (by decide) (z := fb_ct (fun s => decide (su (4 * s + 0) = 0)) m) (p := fb_ct (fun s => decide (0 < su (4 * s + 0))) m) (q := fb_ct (fun s => decide (su (4 * s + 0) < 0)) m)
        show _ ≤ 16
        omega
      · have hm8 : m ≤ 16 := hm
        have := cnt_4 (M := 16) (by omega) (by decide) (z := fb_ct (fun s => decide (su (4 * s + 1) = 0)) m) (p := fb_ct (fun s => decide (0 < su (4 * s + 1))) m) (q := fb_ct (fun s => decide (su (4 * s + 1) < 0)) m)
        show _ ≤ 64
        omega
      · have hm8 : m ≤ 64 := hm
        have := cnt_4 (M := 64) (by omega) (by decide) (z := fb_ct (fun s => decide (su (4 * s + 2) = 0)) m) (p := fb_ct (fun s => decide (0 < su (4 * s + 2))) m) (q := fb_ct (fun s => decide (su (4 * s + 2) < 0)) m)
        show _ ≤ 1024
        omega
    obtain ⟨j', ne', nx', e, g1, g2⟩ := m_takeN (j := j) hm1024 hi hP hB1 hBB (Nat.le_trans hroom (NN_le _)) ne nx
    have c0 : ∀ s, (su (4 * s + i) = 0 ↔ cf_ i (tR_ su s) = 0) := fun s => by
      rw [← tR_cell hi]; exact ⟨fun h => by rw [h]; rfl, fun h => Int64.toInt_inj.mp h⟩
    have c1 : ∀ s, (0 < su (4 * s + i) ↔ 0 < cf_ i (tR_ su s)) := fun s => by rw [← tR_cell hi]; exact Int64.lt_iff_toInt_lt
    have c2 : ∀ s, (su (4 * s + i) < 0 ↔ cf_ i (tR_ su s) < 0) := fun s => by rw [← tR_cell hi]; exact Int64.lt_iff_toInt_lt
    refine fin hroom g1 ?_ ?_ e
    · intro s hs jj hj1 hj2
      rcases (g2 (fr_ nx' ne' s)).mp ⟨s, hs, rfl⟩ with ⟨s', s1, s2, s3⟩ | ⟨s', s1, o, o1, o2, o3, o4⟩
      · have : tR_ nx' s = tR_ su s' := congrArg Prod.fst s3
        rw [this]
        by_cases q : jj = i
        · rw [q]; exact (c0 s').mp s2
        · exact hcf s' s1 jj hj1 (by omega)
      · have : tR_ nx' s = _ := congrArg Prod.fst o4
        rw [this, cf_lc]
        by_cases q : jj = i
        · rw [q, ← tR_cell hi, ← tR_cell hi]; grind
        · rw [hcf s' s1 jj hj1 (by omega), hcf o o1 jj hj1 (by omega)]; simp
    · refine fm_non (i := i) ?_ ?_ ?_ ?_
      · intro x hx hx2
        obtain ⟨r, hr, rfl⟩ := rl_mem.mp hx
        exact (c0 r).mp (hno r hr (of_decide_eq_true hx2))
      · intro x hx
        obtain ⟨r, hr, rfl⟩ := rl_mem.mp hx
        rcases (g2 _).mp ⟨r, hr, rfl⟩ with ⟨s', s1, s2, s3⟩ | ⟨s', s1, o, o1, o2, o3, o4⟩
        · exact Or.inl (rl_mem.mpr ⟨s', s1, s3.symm⟩)
        · refine Or.inr ⟨fr_ su ev s', rl_mem.mpr ⟨s', s1, rfl⟩, fr_ su ev o, rl_mem.mpr ⟨o, o1, rfl⟩, (c1 s').mp o2, (c2 o).mp o3, ?_⟩
          rw [o4, tR_cell hi, tR_cell hi]; rfl
      · intro x hx hx2
        obtain ⟨r, hr, rfl⟩ := rl_mem.mp hx
        exact rl_mem.mpr ((g2 _).mpr (Or.inl ⟨r, hr, (c0 r).mpr hx2, rfl⟩))
      · intro x hx y hy hx2 hy2
        obtain ⟨r, hr, rfl⟩ := rl_mem.mp hx
        obtain ⟨o, ho, rfl⟩ := rl_mem.mp hy
        refine rl_mem.mpr ((g2 _).mpr (Or.inr ⟨r, hr, o, ho, (c1 r).mpr hx2, (c2 o).mpr hy2, ?_⟩))
        rw [tR_cell hi, tR_cell hi]; rfl
  · subst hu
    obtain ⟨j', nm, ne', nx', e, g0, g1, g2, g3⟩ := m_takeP (j := j) hm1024 hi hP hB1 hBB hp hne ne nx
    have hnm : nm ≤ NN_ (i + 1) := by
      refine Nat.le_trans g0 (Nat.le_trans hm ?_)
      rcases (show i = 0 ∨ i = 1 ∨ i = 2 by omega) with rfl | rfl | rfl <;> decide
    refine fin hnm g1 ?_ ?_ e
    · intro s hs jj hj1 hj2
      obtain ⟨s', s1, a, b, ha, s3, s4⟩ := g2 s hs
      have : tR_ nx' s = _ := congrArg Prod.fst s3
      rw [this]
      by_cases q : jj = i
      · rw [q]; exact s4
      · rw [cf_lc, hcf s' s1 jj hj1 (by omega), hcf p hp jj hj1 (by omega)]; simp
    · have hPm : (tR_ su p, true) ∈ rl_ m su ev := rl_mem.mpr ⟨p, hp, by unfold fr_; rw [hep]; rfl⟩
      refine fm_piv (i := i) hPm (by rw [← tR_cell hi]; exact tz_ hne) ?_ ?_
      · intro x hx
        obtain ⟨r, hr, rfl⟩ := rl_mem.mp hx
        obtain ⟨s', s1, a, b, ha, s3, s4⟩ := g2 r hr
        exact ⟨fr_ su ev s', rl_mem.mpr ⟨s', s1, rfl⟩, a, b, ha, s3⟩
      · intro x hx
        obtain ⟨r, hr, rfl⟩ := rl_mem.mp hx
        rcases g3 r hr with rfl | ⟨r', hr', a, b, ha, w1, w2⟩
        · exact Or.inl (by unfold fr_; rw [hep]; rfl)
        · exact Or.inr ⟨a, b, ha, rl_mem.mpr ⟨r', hr', w1⟩, w2⟩
def ng_ (w : Wl_) : Wl_ := (- w.1, - w.2.1, - w.2.2.1, - w.2.2.2)
theorem ev_ng (w : Wl_) (p : V3_) : ev_ (ng_ w) p = - ev_ w p := by
  simp only [ev_, dr_, ng_, Rat.intCast_neg]; grind
theorem m_adds {s k g : Nat} (hs : s < 1100) (hk : k < 8) (hg : g ≤ 2) {wl ev : Nat → Int32} {su : Nat → Int64} (hb : bw_ (gM_ wl k)) (hP : PB_ s su ev 99) :
    ∃ ev' su', fX6_adds (nI s) wl ev su (nI k) (nI g) = some (nI (s + 1), ev', su') ∧ PB_ (s + 1) su' ev' 99 ∧ (∀ r, r < s → fr_ su' ev' r = fr_ su ev r) ∧ fr_ su' ev' s = (if g = 2 then ng_ (gM_ wl k) else gM_ wl k, decide (g = 1)) := by
  unfold fX6_adds
  have hlp := lp_for (body := fun (st : (Int32 × (Nat → Int64))) => fX6_adds_L2 (nI g) wl (nI k) (nI s) st.1 st.2)
    (fun κ st => st.1 = nI κ ∧ (∀ c, c < κ → st.2 (4 * s + c) = if g = 2 then (- wl (4 * k + c)).toInt64 else (wl (4 * k + c)).toInt64) ∧ ∀ r c, c < 4 → r ≠ s → st.2 (4 * r + c) = su (4 * r + c))
    (fun st => (∀ c, c < 4 → st.2 (4 * s + c) = if g = 2 then (- wl (4 * k + c)).toInt64 else (wl (4 * k + c)).toInt64) ∧ ∀ r c, c < 4 → r ≠ s → st.2 (4 * r + c) = su (4 * r + c)) 4 (by decide) (s := ((0 : Int32), su))
    ⟨rfl, fun c hc => absurd hc (Nat.not_lt_zero c), fun _ _ _ _ => rfl⟩ ?_ ?_
  · obtain ⟨⟨j, su'⟩, h1, h2, h3⟩ := hlp
    dsimp only at h2 h3
    rw [bind_yes h1]
    have hgeq : (nI g = (1 : Int32)) ↔ g = 1 := nI_eq (b := 1) (by omega) (by decide)
    obtain ⟨b1, b2, b3, b4⟩ := hb
    have hcell : ∀ c, c < 4 → ∀ z : Int, z = (wl (4 * k + c)).toInt → ab_ z 99 → (su' (4 * s + c)).toInt = if g = 2 then - z else z := by
      intro c hc z hz hab
      rw [h2 c hc]
      by_cases q : g = 2
      · rw [if_pos q, if_pos q, Int32.toInt_toInt64, fb_negI (by unfold ab_ at hab; omega), hz]
      · rw [if_neg q, if_neg q, Int32.toInt_toInt64, hz]
    have k0 := hcell 0 (by decide) _ rfl (ab_mono b1 (by decide))
    have k1 := hcell 1 (by decide) _ rfl (ab_mono b2 (by decide))
    have k2 := hcell 2 (by decide) _ rfl (ab_mono b3 (by decide))
    have k3 := hcell 3 (by decide) _ rfl b4
    have hbd : ∀ c, c < 4 → ab_ (su' (4 * s + c)).toInt 99 := by
      intro c hc
      rcases (show c = 0 ∨ c = 1 ∨ c = 2 ∨ c = 3 by omega) with rfl | rfl | rfl | rfl
      · rw [k0]; split; exact ab_neg (ab_mono b1 (by decide)); exact ab_mono b1 (by decide)
      · rw [k1]; split; exact ab_neg (ab_mono b2 (by decide)); exact ab_mono b2 (by decide)
      · rw [k2]; split; exact ab_neg (ab_mono b3 (by decide)); exact ab_mono b3 (by decide)
      · rw [k3]; split; exact ab_neg b4; exact b4
    have fin : ∀ e : Int32, (e = 0 ∨ e = 1) → (e = 1 ↔ g = 1) → ∃ ev' su2, (some (nI (s + 1), upd ev s (vp_nar .boolean e), su') : Option (Int32 × (Nat → Int32) × (Nat → Int64))) = some (nI (s + 1), ev', su2) ∧ PB_ (s + 1) su2 ev' 99 ∧ (∀ r, r < s → fr_ su2 ev' r = fr_ su ev r) ∧ fr_ su2 ev' s = (if g = 2 then ng_ (gM_ wl k) else gM_ wl k, decide (g = 1)) := by
      intro e he heq
      have hnar : vp_nar .boolean e = e := by rcases he with rfl | rfl <;> rfl
      refine ⟨_, _, rfl, ?_, ?_, ?_⟩
      · intro r hr
        rcases (show r < s ∨ r = s by omega) with q | rfl
        · rw [pk_un (by omega)]
          exact ⟨(hP r q).1, fun c hc => by rw [h3 r c hc (by omega)]; exact (hP r q).2 c hc⟩
        · rw [pk_us, hnar]; exact ⟨he, hbd⟩
      · intro r hr
        unfold fr_
        rw [pk_un (by omega), tR_cg (s := su) (q := r) (fun c hc => h3 r c hc (by omega))]
      · unfold fr_
        rw [pk_us, hnar]
        simp only [heq]
        congr 1
        simp only [Nat.add_zero] at k0
        unfold tR_
        rw [k0, k1, k2, k3]
        by_cases q : g = 2
        · simp only [if_pos q]; rfl
        · simp only [if_neg q]; rfl
    by_cases q : g = 1
    · rw [if_pos (hgeq.mpr q), ck_yes (in_R_nI hs (by decide)), nI_clamp (by omega), nI_1]
      exact fin 1 (Or.inr rfl) ⟨fun _ => q, fun _ => rfl⟩
    · rw [if_neg (fun w => q (hgeq.mp w)), ck_yes (in_R_nI hs (by decide)), nI_clamp (by omega), nI_1]
      exact fin 0 (Or.inl rfl) ⟨fun w => absurd w (by decide), fun w => absurd w q⟩
  · rintro κ ⟨j, t⟩ hκ ⟨h1, h2, h3⟩
    dsimp only at h1 h2 h3 ⊢
    subst h1
    left
    have hgeq : (nI g = (2 : Int32)) ↔ g = 2 := nI_eq (b := 2) (by omega) (by decide)
    unfold fX6_adds_L2
    simp only [ix4]
    rw [if_neg (show ¬ (4 : Int32) ≤ nI κ from nI_ge (a := κ) (b := 4) hκ (by decide))]
    have fin : ∀ v, (if g = 2 then (- wl (4 * k + κ)).toInt64 else (wl (4 * k + κ)).toInt64) = v → ∃ s', (some (Sum.inl (nI (κ + 1), vp_updL t (4 * s + κ) v)) : Option ((Int32 × (Nat → Int64)) ⊕ (Int32 × (Nat → Int64)))) = some (Sum.inl s') ∧ s'.1 = nI (κ + 1) ∧ (∀ c, c < κ + 1 → s'.2 (4 * s + c) = if g = 2 then (- wl (4 * k + c)).toInt64 else (wl (4 * k + c)).toInt64) ∧ ∀ r c, c < 4 → r ≠ s → s'.2 (4 * r + c) = su (4 * r + c) := by
      intro v hv
      refine ⟨_, rfl, rfl, ?_, ?_⟩
      · intro c hc
        dsimp only
        rcases (show c < κ ∨ c = κ by omega) with w | rfl
        · rw [pk_uLn (by omega)]; exact h2 c w
        · rw [pk_uLs, hv]
      · intro r c hc hr
        dsimp only
        rw [pk_uLn (by omega)]; exact h3 r c hc hr
    by_cases q : g = 2
    · rw [if_pos (hgeq.mpr q), bind_yes (f_at wl (by omega)), ck_yes (in_R_nI (show 4 * s + κ < 4400 by omega) (by decide)), nI_clamp (by omega), nI_1]
      exact fin _ (if_pos q)
    · rw [if_neg (fun w => q (hgeq.mp w)), bind_yes (f_at wl (by omega)), ck_yes (in_R_nI (show 4 * s + κ < 4400 by omega) (by decide)), nI_clamp (by omega), nI_1]
      exact fin _ (if_neg q)
  · rintro ⟨j, t⟩ ⟨h1, h2, h3⟩
    dsimp only at h1 h2 h3 ⊢
    subst h1
    unfold fX6_adds_L2
    rw [if_pos (show (4 : Int32) ≤ nI 4 by decide)]
    exact ⟨_, rfl, h2, h3⟩
