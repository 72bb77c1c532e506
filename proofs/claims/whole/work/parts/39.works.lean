/-! the reference's isThere and works -/
/-- an answer of 1 or 0 -/
def yn_ (x : Int32) (P : Prop) : Prop := x = 1 ∧ P ∨ x = 0 ∧ ¬ P
theorem yn_cg {x : Int32} {P Q : Prop} (h : yn_ x P) (e : P ↔ Q) : yn_ x Q := by
  rcases h with ⟨h1, h2⟩ | ⟨h1, h2⟩
  · exact Or.inl ⟨h1, e.mp h2⟩
  · exact Or.inr ⟨h1, fun q => h2 (e.mpr q)⟩
theorem yn_01 {x : Int32} {P : Prop} (h : yn_ x P) : x = 0 ∨ x = 1 := by
  rcases h with ⟨h1, _⟩ | ⟨h1, _⟩
  · exact Or.inr h1
  · exact Or.inl h1
theorem yn_1 {x : Int32} {P : Prop} (h : yn_ x P) : x = 1 ↔ P := by
  rcases h with ⟨h1, h2⟩ | ⟨h1, h2⟩
  · exact ⟨fun _ => h2, fun _ => h1⟩
  · exact ⟨fun q => (by rw [h1] at q; cases q), fun q => absurd q h2⟩
theorem yn_0 {x : Int32} {P : Prop} (h : yn_ x P) : x = 0 ↔ ¬ P := by
  rcases h with ⟨h1, h2⟩ | ⟨h1, h2⟩
  · exact ⟨fun q => (by rw [h1] at q; cases q), fun q => absurd h2 q⟩
  · exact ⟨fun _ => h2, fun _ => h1⟩
section TH
variable {wl : Nat → Int32} {n d : Nat}
theorem m_L6 (hn : n ≤ 8) (hb : ∀ k, k < n → bw_ (gM_ wl k)) (hz : ∀ k, k < n → ∀ j, j < 3 → d ≤ j → cf_ j (gM_ wl k) = 0) {row f : Nat} (hrow : row < 2 ^ 31) (hf : f ≤ n) (ev : Nat → Int32) (su : Nat → Int64) :
    ∃ j ev' su', lp_ (fun (st : (Int32 × Int32 × (Nat → Int32) × (Nat → Int64))) => fX6_isThere_L6 (nI f) (nI row) wl st.1 st.2.1 st.2.2.1 st.2.2.2) fu_ ((0 : Int32), (0 : Int32), ev, su) = some (j, nI f, ev', su') ∧ FS_ d 0 f su' ev' ∧ (Sat_ (rl_ f su' ev') ↔ ∃ p, ∀ k, k < f → sg_ (ev_ (gM_ wl k) p) = dg_ row k) := by
  have hlp := lp_for (body := fun (st : (Int32 × Int32 × (Nat → Int32) × (Nat → Int64))) => fX6_isThere_L6 (nI f) (nI row) wl st.1 st.2.1 st.2.2.1 st.2.2.2)
    (fun κ st => st.1 = nI κ ∧ st.2.1 = nI κ ∧ PB_ κ st.2.2.2 st.2.2.1 99 ∧ ∀ r, r < κ → fr_ st.2.2.2 st.2.2.1 r = (if dg_ row r = 2 then ng_ (gM_ wl r) else gM_ wl r, decide (dg_ row r = 1)))
    (fun st => st.2.1 = nI f ∧ PB_ f st.2.2.2 st.2.2.1 99 ∧ ∀ r, r < f → fr_ st.2.2.2 st.2.2.1 r = (if dg_ row r = 2 then ng_ (gM_ wl r) else gM_ wl r, decide (dg_ row r = 1))) f (by omega) (s := ((0 : Int32), (0 : Int32), ev, su))
    ⟨rfl, rfl, fun r hr => absurd hr (Nat.not_lt_zero r), fun r hr => absurd hr (Nat.not_lt_zero r)⟩ ?_ ?_
  · obtain ⟨⟨j, x, ev', su'⟩, h1, h2, h3, h4⟩ := hlp
    dsimp only at h2 h3 h4
    subst h2
    refine ⟨j, ev', su', h1, ⟨show f ≤ 8 by omega, h3, ?_⟩, ?_⟩
    · intro s hs jj hj1 hj2
      have : tR_ su' s = _ := congrArg Prod.fst (h4 s hs)
      rw [this]
      have h0 := hz s (by omega) jj hj1 (by omega)
      dsimp only
      split
      · have : cf_ jj (ng_ (gM_ wl s)) = - cf_ jj (gM_ wl s) := by unfold cf_ ng_; split; rfl; split <;> rfl
        rw [this, h0]; rfl
      · exact h0
    · unfold Sat_
      have key : ∀ p r, r < f → (sat_ (fr_ su' ev' r) p ↔ sg_ (ev_ (gM_ wl r) p) = dg_ row r) := by
        intro p r hr
        rw [h4 r hr]
        have hle := dg_le row r
        rcases (show dg_ row r = 0 ∨ dg_ row r = 1 ∨ dg_ row r = 2 by omega) with q | q | q
        · rw [q, if_neg (by decide), show decide (0 = 1) = false from rfl, sat_f, sg_eq0]
        · rw [q, if_neg (by decide), show decide (1 = 1) = true from rfl, sat_t, sg_eq1]
        · rw [q, if_pos rfl, show decide (2 = 1) = false from rfl, sat_f, sg_eq2, ev_ng]
          constructor <;> (intro; grind)
      constructor
      · rintro ⟨p, hp⟩
        exact ⟨p, fun k hk => (key p k hk).mp (hp _ (rl_mem.mpr ⟨k, hk, rfl⟩))⟩
      · rintro ⟨p, hp⟩
        refine ⟨p, fun x hx => ?_⟩
        obtain ⟨r, hr, rfl⟩ := rl_mem.mp hx
        exact (key p r hr).mpr (hp r hr)
  · rintro κ ⟨j, x, ev', su'⟩ hκ ⟨h1, h2, h3, h4⟩
    dsimp only at h1 h2 h3 h4 ⊢
    subst h1 h2
    left
    unfold fX6_isThere_L6
    rw [if_neg (nI_ge hκ (by omega)), bind_yes (f_sign hrow (by omega))]
    obtain ⟨ev2, su2, e, g1, g2, g3⟩ := m_adds (s := κ) (k := κ) (g := dg_ row κ) (by omega) (by omega) (dg_le row κ) (hb κ (by omega)) h3
    rw [bind_yes e, nI_1]
    refine ⟨_, rfl, rfl, rfl, g1, fun r hr => ?_⟩
    dsimp only
    rcases (show r < κ ∨ r = κ by omega) with q | rfl
    · rw [g2 r q]; exact h4 r q
    · exact g3
  · rintro ⟨j, x, ev', su'⟩ ⟨h1, h2, h3, h4⟩
    dsimp only at h1 h2 h3 h4 ⊢
    subst h1 h2
    unfold fX6_isThere_L6
    rw [if_pos (nI_le (Nat.le_refl f) (by omega))]
    exact ⟨_, rfl, rfl, h3, h4⟩
theorem m_L29t (hd : d ≤ 3) {m : Nat} {ev : Nat → Int32} {su : Nat → Int64} (h : FS_ d 0 m su ev) (nm : Int32) (ne : Nat → Int32) (nx : Nat → Int64) :
    ∃ j m' nm' ev' ne' su' nx', lp_ (fun (st : (Int32 × Int32 × Int32 × (Nat → Int32) × (Nat → Int32) × (Nat → Int64) × (Nat → Int64))) => fX6_isThere_L29 (nI d) st.1 st.2.1 st.2.2.1 st.2.2.2.1 st.2.2.2.2.1 st.2.2.2.2.2.1 st.2.2.2.2.2.2) fu_ ((0 : Int32), nI m, nm, ev, ne, su, nx) = some (j, nI m', nm', ev', ne', su', nx') ∧ FS_ d d m' su' ev' ∧ (Sat_ (rl_ m su ev) ↔ Sat_ (rl_ m' su' ev')) := by
  have hlp := lp_for (body := fun (st : (Int32 × Int32 × Int32 × (Nat → Int32) × (Nat → Int32) × (Nat → Int64) × (Nat → Int64))) => fX6_isThere_L29 (nI d) st.1 st.2.1 st.2.2.1 st.2.2.2.1 st.2.2.2.2.1 st.2.2.2.2.2.1 st.2.2.2.2.2.2)
    (fun i st => st.1 = nI i ∧ ∃ m', st.2.1 = nI m' ∧ FS_ d i m' st.2.2.2.2.2.1 st.2.2.2.1 ∧ (Sat_ (rl_ m su ev) ↔ Sat_ (rl_ m' st.2.2.2.2.2.1 st.2.2.2.1)))
    (fun st => ∃ m', st.2.1 = nI m' ∧ FS_ d d m' st.2.2.2.2.2.1 st.2.2.2.1 ∧ (Sat_ (rl_ m su ev) ↔ Sat_ (rl_ m' st.2.2.2.2.2.1 st.2.2.2.1))) d (by omega) (s := ((0 : Int32), nI m, nm, ev, ne, su, nx))
    ⟨rfl, m, rfl, h, Iff.rfl⟩ ?_ ?_
  · obtain ⟨⟨j, x, nm', ev', ne', su', nx'⟩, h1, m', h2, h3, h4⟩ := hlp
    dsimp only at h2 h3 h4
    subst h2
    exact ⟨j, m', nm', ev', ne', su', nx', h1, h3, h4⟩
  · rintro i ⟨j, x, nm', ev', ne', su', nx'⟩ hi ⟨h1, m', h2, h3, h4⟩
    dsimp only at h1 h2 h3 h4 ⊢
    subst h1 h2
    left
    unfold fX6_isThere_L29
    obtain ⟨m2, ev2, ne2, su2, nx2, e, g1, g2⟩ := m_takesOut (d := d) (i := i) (by omega) h3 ne' nx'
    rw [if_neg (nI_ge hi (by omega)), bind_yes e, nI_1]
    exact ⟨_, rfl, rfl, m2, rfl, g1, h4.trans g2⟩
  · rintro ⟨j, x, nm', ev', ne', su', nx'⟩ ⟨h1, m', h2, h3⟩
    dsimp only at h1 h2 h3 ⊢
    subst h1 h2
    unfold fX6_isThere_L29
    rw [if_pos (nI_le (Nat.le_refl d) (by omega))]
    exact ⟨_, rfl, m', rfl, h3⟩
theorem m_isThere (hn : n ≤ 8) (hd : d ≤ 3) (hb : ∀ k, k < n → bw_ (gM_ wl k)) (hz : ∀ k, k < n → ∀ j, j < 3 → d ≤ j → cf_ j (gM_ wl k) = 0) {row f : Nat} (hrow : row < 2 ^ 31) (hf : f ≤ n) (nm : Int32) (ev ne : Nat → Int32) (su nx : Nat → Int64) :
    ∃ x sm' nm' ev' ne' su' nx', fX6_isThere (nI d) nm wl ev ne su nx (nI row) (nI f) = some (x, sm', nm', ev', ne', su', nx') ∧ yn_ x (∃ p, ∀ k, k < f → sg_ (ev_ (gM_ wl k) p) = dg_ row k) := by
  unfold fX6_isThere
  obtain ⟨j1, ev1, su1, e1, g1, g2⟩ := m_L6 (d := d) hn hb hz hrow hf ev su
  rw [show fX6_begins = some (0 : Int32) from rfl, Option.bind_some, bind_yes e1]
  obtain ⟨j2, m2, nm2, ev2, ne2, su2, nx2, e2, g3, g4⟩ := m_L29t (d := d) hd g1 nm ne nx
  dsimp only
  rw [bind_yes e2]
  have hm2 : m2 ≤ 1024 := Nat.le_trans g3.1 (NN_le d)
  have hflat : Sat_ (rl_ m2 su2 ev2) ↔ ∀ r, r < m2 → if ev2 r = 1 then (su2 (4 * r + 3)).toInt = 0 else 0 < (su2 (4 * r + 3)).toInt := by
    rw [sat_flat (fun x hx => ?_)]
    · constructor
      · intro h r hr
        have := h (fr_ su2 ev2 r) (rl_mem.mpr ⟨r, hr, rfl⟩)
        unfold fr_ at this
        dsimp only at this
        simp only [decide_eq_true_eq] at this
        exact this
      · intro h x hx
        obtain ⟨r, hr, rfl⟩ := rl_mem.mp hx
        have := h r hr
        unfold fr_
        dsimp only
        simp only [decide_eq_true_eq]
        exact this
    · obtain ⟨r, hr, rfl⟩ := rl_mem.mp hx
      exact ⟨g3.2.2 r hr 0 (by decide) (by omega), g3.2.2 r hr 1 (by decide) (by omega), g3.2.2 r hr 2 (by decide) (by omega)⟩
  have hlp := lp_for (body := fun (st : Int32) => fX6_isThere_L50 (j2, nI m2, nm2, ev2, ne2, su2, nx2) st)
    (fun κ st => st = nI κ ∧ ∀ r, r < κ → if ev2 r = 1 then (su2 (4 * r + 3)).toInt = 0 else 0 < (su2 (4 * r + 3)).toInt)
    (fun u => ∃ x sm' nm' ev' ne' su' nx', Sum.elim (fun (x27 : Int32) => some ((1 : Int32), nI m2, nm2, ev2, ne2, su2, nx2)) (fun y => some y) u = some (x, sm', nm', ev', ne', su', nx') ∧ yn_ x (∀ r, r < m2 → if ev2 r = 1 then (su2 (4 * r + 3)).toInt = 0 else 0 < (su2 (4 * r + 3)).toInt)) m2 (by omega) (s := (0 : Int32))
    ⟨rfl, fun r hr => absurd hr (Nat.not_lt_zero r)⟩ ?_ ?_
  · obtain ⟨u, h1, x, sm', nm', ev', ne', su', nx', h2, h3⟩ := hlp
    rw [bind_yes h1]
    exact ⟨x, sm', nm', ev', ne', su', nx', h2, yn_cg h3 (hflat.symm.trans (g4.symm.trans g2))⟩
  · rintro κ st hκ ⟨rfl, h2⟩
    unfold fX6_isThere_L50
    dsimp only
    have e3 : (4 : Int32) * nI κ + (3 : Int32) = nI (4 * κ + 3) := ix4 κ 3
    simp only [e3]
    rw [if_neg (nI_ge hκ (by omega)), ck_yes (in_R_nI (show 4 * κ + 3 < 4400 by omega) (by decide)), ck_yes (in_R_nI (show κ < 1100 by omega) (by decide)), nI_clamp (show κ < 2 ^ 31 by omega), nI_clamp (show 4 * κ + 3 < 2 ^ 31 by omega), nI_1]
    have bad : ¬ (if ev2 κ = 1 then (su2 (4 * κ + 3)).toInt = 0 else 0 < (su2 (4 * κ + 3)).toInt) → ∃ r, (some (Sum.inr (Sum.inr ((0 : Int32), nI m2, nm2, ev2, ne2, su2, nx2))) : Option (Int32 ⊕ (Int32 ⊕ (Int32 × Int32 × Int32 × (Nat → Int32) × (Nat → Int32) × (Nat → Int64) × (Nat → Int64))))) = some (Sum.inr r) ∧ ∃ x sm' nm' ev' ne' su' nx', Sum.elim (fun (x27 : Int32) => some ((1 : Int32), nI m2, nm2, ev2, ne2, su2, nx2)) (fun y => some y) r = some (x, sm', nm', ev', ne', su', nx') ∧ yn_ x (∀ r, r < m2 → if ev2 r = 1 then (su2 (4 * r + 3)).toInt = 0 else 0 < (su2 (4 * r + 3)).toInt) :=
      fun w => ⟨_, rfl, 0, _, _, _, _, _, _, rfl, Or.inr ⟨rfl, fun q => w (q κ hκ)⟩⟩
    have good : (if ev2 κ = 1 then (su2 (4 * κ + 3)).toInt = 0 else 0 < (su2 (4 * κ + 3)).toInt) → ∀ r, r < κ + 1 → if ev2 r = 1 then (su2 (4 * r + 3)).toInt = 0 else 0 < (su2 (4 * r + 3)).toInt := by
      intro w r hr
      rcases (show r < κ ∨ r = κ by omega) with q | rfl
      · exact h2 r q
      · exact w
    rcases (g3.2.1 κ hκ).1 with w | w
    · rw [if_pos w]
      rw [w] at bad good
      rw [if_neg (by decide)] at bad good
      by_cases q : 0 < su2 (4 * κ + 3)
      · left
        rw [if_pos ((lg_cmp_gt _ _).mpr q)]
        exact ⟨_, rfl, rfl, good (Int64.lt_iff_toInt_lt.mp q)⟩
      · right
        rw [if_neg (fun z => q ((lg_cmp_gt _ _).mp z))]
        exact bad (fun z => q (Int64.lt_iff_toInt_lt.mpr z))
    · rw [if_neg (by rw [w]; decide)]
      rw [w] at bad good
      rw [if_pos rfl] at bad good
      by_cases q : su2 (4 * κ + 3) = 0
      · left
        rw [if_pos ((lg_cmp_eq _ _).mpr q)]
        exact ⟨_, rfl, rfl, good (by rw [q]; rfl)⟩
      · right
        rw [if_neg (fun z => q ((lg_cmp_eq _ _).mp z))]
        exact bad (tz_ q)
  · rintro st ⟨rfl, h2⟩
    unfold fX6_isThere_L50
    dsimp only
    rw [if_pos (nI_le (Nat.le_refl m2) (by omega))]
    exact ⟨_, rfl, 1, _, _, _, _, _, _, rfl, Or.inl ⟨rfl, h2⟩⟩
end TH
