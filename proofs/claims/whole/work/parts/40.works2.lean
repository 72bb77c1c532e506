/-! the reference's works: all faces -/
def WF_ (G : Nat → Wl_) (n : Nat) (wif : Nat → Int32) : Prop := ∀ r, r < 6561 → yn_ (wif r) (Fa_ G n r)
theorem Fa_down {G : Nat → Wl_} {m r s : Nat} (hr : r < 3 ^ m) (h : Fa_ G (m + 1) (r + s * 3 ^ m)) : Fa_ G m r := by
  obtain ⟨_, p, hp⟩ := Fa_iff.mp h
  exact Fa_iff.mpr ⟨hr, p, fun k hk => by rw [hp k (by omega), dg_add _ _ hk]⟩
theorem m_L15 (wif : Nat → Int32) : ∃ j w, lp_ (fun (st : (Int32 × (Nat → Int32))) => fX6_works_L15 st.1 st.2) fu_ ((0 : Int32), wif) = some (j, w) ∧ ∀ r, r < 6561 → w r = if r = 0 then 1 else 0 := by
  have hlp := lp_for (body := fun (st : (Int32 × (Nat → Int32))) => fX6_works_L15 st.1 st.2) (fun κ st => st.1 = nI κ ∧ ∀ r, r < κ → st.2 r = if r = 0 then 1 else 0) (fun st => ∀ r, r < 6561 → st.2 r = if r = 0 then 1 else 0) 6561 (by decide) (s := ((0 : Int32), wif)) ⟨rfl, fun r hr => absurd hr (Nat.not_lt_zero r)⟩ ?_ ?_
  · obtain ⟨⟨j, w⟩, h1, h2⟩ := hlp
    exact ⟨j, w, h1, h2⟩
  · rintro κ ⟨j, w⟩ hκ ⟨h1, h2⟩
    dsimp only at h1 h2 ⊢
    subst h1
    left
    unfold fX6_works_L15
    have hR : in_R (nI κ) 6561 := in_R_nI hκ (by decide)
    rw [if_neg (show ¬ (6561 : Int32) ≤ nI κ from nI_ge (a := κ) (b := 6561) hκ (by decide)), ck_yes hR, ck_yes hR, nI_clamp (by omega), nI_1]
    have e0 : (nI κ = 0) ↔ κ = 0 := nI_eq (b := 0) (by omega) (by decide)
    have fin : ∀ v : Int32, (if κ = 0 then 1 else 0) = v → ∃ s', (some (Sum.inl (nI (κ + 1), upd w κ v)) : Option ((Int32 × (Nat → Int32)) ⊕ (Int32 × (Nat → Int32)))) = some (Sum.inl s') ∧ s'.1 = nI (κ + 1) ∧ ∀ r, r < κ + 1 → s'.2 r = if r = 0 then 1 else 0 := by
      intro v hv
      refine ⟨_, rfl, rfl, fun r hr => ?_⟩
      dsimp only
      rcases (show r < κ ∨ r = κ by omega) with q | rfl
      · rw [pk_un (by omega)]; exact h2 r q
      · rw [pk_us, hv]
    by_cases q : κ = 0
    · rw [if_pos (e0.mpr q)]
      exact fin _ (if_pos q)
    · rw [if_neg (fun z => q (e0.mp z))]
      exact fin _ (if_neg q)
  · rintro ⟨j, w⟩ ⟨h1, h2⟩
    dsimp only at h1 h2 ⊢
    subst h1
    unfold fX6_works_L15
    rw [if_pos (show (6561 : Int32) ≤ nI 6561 by decide)]
    exact ⟨_, rfl, h2⟩
section WK
variable {wl : Nat → Int32} {n d : Nat}
theorem m_L73 (hn : n ≤ 8) (hd : d ≤ 3) (hb : ∀ k, k < n → bw_ (gM_ wl k)) (hz : ∀ k, k < n → ∀ j, j < 3 → d ≤ j → cf_ j (gM_ wl k) = 0) {m r : Nat} (hm : m < n) (hr : r < 3 ^ m) {w : Nat → Int32} (hw : yn_ (w r) (Fa_ (gM_ wl) m r)) (sm nm : Int32) (ev ne : Nat → Int32) (su nx : Nat → Int64) :
    ∃ j sm' nm' w' ev' ne' su' nx', lp_ (fun (st : (Int32 × Int32 × Int32 × (Nat → Int32) × (Nat → Int32) × (Nat → Int32) × (Nat → Int64) × (Nat → Int64))) => fX6_works_L73 (nI m) w (nI r) (nI d) wl st.1 st.2.1 st.2.2.1 st.2.2.2.1 st.2.2.2.2.1 st.2.2.2.2.2.1 st.2.2.2.2.2.2.1 st.2.2.2.2.2.2.2) fu_ ((0 : Int32), sm, nm, w, ev, ne, su, nx) = some (j, sm', nm', w', ev', ne', su', nx') ∧
      (∀ s, s < 3 → yn_ (w' (r + s * 3 ^ m)) (Fa_ (gM_ wl) (m + 1) (r + s * 3 ^ m))) ∧ ∀ q, (∀ s, s < 3 → q ≠ r + s * 3 ^ m) → w' q = w q := by
  have h3m : 3 ^ (m + 1) ≤ 6561 := p3_6561 (by omega)
  rw [Nat.pow_succ] at h3m
  have h3p : 0 < 3 ^ m := Nat.pow_pos (by decide)
  have hlp := lp_for (body := fun (st : (Int32 × Int32 × Int32 × (Nat → Int32) × (Nat → Int32) × (Nat → Int32) × (Nat → Int64) × (Nat → Int64))) => fX6_works_L73 (nI m) w (nI r) (nI d) wl st.1 st.2.1 st.2.2.1 st.2.2.2.1 st.2.2.2.2.1 st.2.2.2.2.2.1 st.2.2.2.2.2.2.1 st.2.2.2.2.2.2.2)
    (fun κ st => st.1 = nI κ ∧ (∀ s, s < κ → yn_ (st.2.2.2.1 (r + s * 3 ^ m)) (Fa_ (gM_ wl) (m + 1) (r + s * 3 ^ m))) ∧ ∀ q, (∀ s, s < κ → q ≠ r + s * 3 ^ m) → st.2.2.2.1 q = w q)
    (fun st => (∀ s, s < 3 → yn_ (st.2.2.2.1 (r + s * 3 ^ m)) (Fa_ (gM_ wl) (m + 1) (r + s * 3 ^ m))) ∧ ∀ q, (∀ s, s < 3 → q ≠ r + s * 3 ^ m) → st.2.2.2.1 q = w q) 3 (by decide) (s := ((0 : Int32), sm, nm, w, ev, ne, su, nx))
    ⟨rfl, fun s hs => absurd hs (Nat.not_lt_zero s), fun _ _ => rfl⟩ ?_ ?_
  · obtain ⟨⟨j, sm', nm', w', ev', ne', su', nx'⟩, h1, h2, h3⟩ := hlp
    exact ⟨j, sm', nm', w', ev', ne', su', nx', h1, h2, h3⟩
  · rintro κ ⟨j, sm', nm', w', ev', ne', su', nx'⟩ hκ ⟨h1, h2, h3⟩
    dsimp only at h1 h2 h3 ⊢
    subst h1
    left
    have hκm : κ * 3 ^ m ≤ 2 * 3 ^ m := Nat.mul_le_mul_right _ (by omega)
    have hidx : nI r + nI κ * nI (3 ^ m) = nI (r + κ * 3 ^ m) := by rw [pk_mul, nI_add]
    have hR : in_R (nI (r + κ * 3 ^ m)) 6561 := in_R_nI (by omega) (by decide)
    unfold fX6_works_L73
    rw [if_neg (show ¬ (3 : Int32) ≤ nI κ from nI_ge (a := κ) (b := 3) hκ (by decide)), bind_yes (f_power (by omega)), nI_clamp (show r < 2 ^ 31 by omega)]
    simp only [hidx]
    have fin : ∀ {v : Int32} {a1 a2 : Int32} {a3 a4 : Nat → Int32} {a5 a6 : Nat → Int64}, yn_ v (Fa_ (gM_ wl) (m + 1) (r + κ * 3 ^ m)) → ∃ s', (some (Sum.inl (nI κ + 1, a1, a2, upd w' (r + κ * 3 ^ m) (vp_nar .boolean v), a3, a4, a5, a6)) : Option ((Int32 × Int32 × Int32 × (Nat → Int32) × (Nat → Int32) × (Nat → Int32) × (Nat → Int64) × (Nat → Int64)) ⊕ (Int32 × Int32 × Int32 × (Nat → Int32) × (Nat → Int32) × (Nat → Int32) × (Nat → Int64) × (Nat → Int64)))) = some (Sum.inl s') ∧ s'.1 = nI (κ + 1) ∧ (∀ s, s < κ + 1 → yn_ (s'.2.2.2.1 (r + s * 3 ^ m)) (Fa_ (gM_ wl) (m + 1) (r + s * 3 ^ m))) ∧ ∀ q, (∀ s, s < κ + 1 → q ≠ r + s * 3 ^ m) → s'.2.2.2.1 q = w q := by
      intro v a1 a2 a3 a4 a5 a6 hv
      have hnar : vp_nar .boolean v = v := by rcases yn_01 hv with rfl | rfl <;> rfl
      refine ⟨_, rfl, nI_1 κ, ?_, ?_⟩
      · intro s hs
        dsimp only
        rcases (show s < κ ∨ s = κ by omega) with q | rfl
        · have hlt : s * 3 ^ m < κ * 3 ^ m := Nat.mul_lt_mul_of_pos_right q h3p
          rw [pk_un (by omega)]; exact h2 s q
        · rw [pk_us, hnar]; exact hv
      · intro q hq
        dsimp only
        rw [pk_un (hq κ (by omega))]
        exact h3 q (fun s hs => hq s (by omega))
    have hlt1 : r + κ * 3 ^ m < 3 ^ (m + 1) := by rw [Nat.pow_succ]; omega
    by_cases z : w r = 0
    · rw [if_pos z, ck_yes hR, nI_clamp (by omega)]
      exact fin (Or.inr ⟨rfl, fun q => (yn_0 hw).mp z (Fa_down hr q)⟩)
    · rw [if_neg z, bind_yes (f_power (by omega))]
      simp only [hidx, nI_1]
      obtain ⟨x, sm2, nm2, ev2, ne2, su2, nx2, e, g⟩ := m_isThere (d := d) hn hd hb hz (row := r + κ * 3 ^ m) (f := m + 1) (by omega) (by omega) nm' ev' ne' su' nx'
      have g' : yn_ x (Fa_ (gM_ wl) (m + 1) (r + κ * 3 ^ m)) := yn_cg g ⟨fun h => Fa_iff.mpr ⟨hlt1, h⟩, fun h => (Fa_iff.mp h).2⟩
      rw [bind_yes e, ck_yes hR, ck_yes hR, nI_clamp (show r + κ * 3 ^ m < 2 ^ 31 by omega)]
      dsimp only
      rcases yn_01 g' with rfl | rfl
      · have f := @fin 0 sm2 nm2 ev2 ne2 su2 nx2 g'
        rw [nI_1] at f
        rw [if_pos rfl]
        exact f
      · have f := @fin 1 sm2 nm2 ev2 ne2 su2 nx2 g'
        rw [nI_1] at f
        rw [if_neg (by decide)]
        exact f
  · rintro ⟨j, sm', nm', w', ev', ne', su', nx'⟩ ⟨h1, h2, h3⟩
    dsimp only at h1 h2 h3 ⊢
    subst h1
    unfold fX6_works_L73
    rw [if_pos (show (3 : Int32) ≤ nI 3 by decide)]
    exact ⟨_, rfl, h2, h3⟩
theorem m_L55 (hn : n ≤ 8) (hd : d ≤ 3) (hb : ∀ k, k < n → bw_ (gM_ wl k)) (hz : ∀ k, k < n → ∀ j, j < 3 → d ≤ j → cf_ j (gM_ wl k) = 0) {m : Nat} (hm : m < n) {w : Nat → Int32} (hw : WF_ (gM_ wl) m w) (sm nm : Int32) (ev ne : Nat → Int32) (su nx : Nat → Int64) :
    ∃ j sm' nm' w' ev' ne' su' nx', lp_ (fun (st : (Int32 × Int32 × Int32 × (Nat → Int32) × (Nat → Int32) × (Nat → Int32) × (Nat → Int64) × (Nat → Int64))) => fX6_works_L55 (nI m) (nI d) wl st.1 st.2.1 st.2.2.1 st.2.2.2.1 st.2.2.2.2.1 st.2.2.2.2.2.1 st.2.2.2.2.2.2.1 st.2.2.2.2.2.2.2) fu_ ((0 : Int32), sm, nm, w, ev, ne, su, nx) = some (j, sm', nm', w', ev', ne', su', nx') ∧ WF_ (gM_ wl) (m + 1) w' := by
  have h3m : 3 ^ (m + 1) ≤ 6561 := p3_6561 (by omega)
  rw [Nat.pow_succ] at h3m
  have h3p : 0 < 3 ^ m := Nat.pow_pos (by decide)
  have hlp := lp_for (body := fun (st : (Int32 × Int32 × Int32 × (Nat → Int32) × (Nat → Int32) × (Nat → Int32) × (Nat → Int64) × (Nat → Int64))) => fX6_works_L55 (nI m) (nI d) wl st.1 st.2.1 st.2.2.1 st.2.2.2.1 st.2.2.2.2.1 st.2.2.2.2.2.1 st.2.2.2.2.2.2.1 st.2.2.2.2.2.2.2)
    (fun κ st => st.1 = nI κ ∧ (∀ r s, r < κ → s < 3 → yn_ (st.2.2.2.1 (r + s * 3 ^ m)) (Fa_ (gM_ wl) (m + 1) (r + s * 3 ^ m))) ∧ (∀ r, κ ≤ r → r < 3 ^ m → yn_ (st.2.2.2.1 r) (Fa_ (gM_ wl) m r)) ∧ ∀ r, 3 ^ m * 3 ≤ r → r < 6561 → st.2.2.2.1 r = 0)
    (fun st => (∀ r s, r < 3 ^ m → s < 3 → yn_ (st.2.2.2.1 (r + s * 3 ^ m)) (Fa_ (gM_ wl) (m + 1) (r + s * 3 ^ m))) ∧ ∀ r, 3 ^ m * 3 ≤ r → r < 6561 → st.2.2.2.1 r = 0) (3 ^ m) (by omega) (s := ((0 : Int32), sm, nm, w, ev, ne, su, nx))
    ⟨rfl, fun r s hr => absurd hr (Nat.not_lt_zero r), fun r _ hr => hw r (by omega), fun r h1 h2 => (yn_0 (hw r h2)).mpr (fun q => by have := Fa_lt q; omega)⟩ ?_ ?_
  · obtain ⟨⟨j, sm', nm', w', ev', ne', su', nx'⟩, h1, h2, h3⟩ := hlp
    dsimp only at h2 h3
    refine ⟨j, sm', nm', w', ev', ne', su', nx', h1, fun r hr => ?_⟩
    by_cases q : r < 3 ^ m * 3
    · have hs : r / 3 ^ m < 3 := Nat.div_lt_of_lt_mul q
      have := h2 (r % 3 ^ m) (r / 3 ^ m) (Nat.mod_lt _ h3p) hs
      rw [Nat.mul_comm, Nat.mod_add_div] at this
      exact this
    · exact Or.inr ⟨h3 r (by omega) hr, fun w => by have := Fa_lt w; rw [Nat.pow_succ] at this; omega⟩
  · rintro κ ⟨j, sm', nm', w', ev', ne', su', nx'⟩ hκ ⟨h1, h2, h3, h4⟩
    dsimp only at h1 h2 h3 h4 ⊢
    subst h1
    left
    unfold fX6_works_L55
    rw [bind_yes (f_power (by omega)), if_neg (nI_ge hκ (by omega)), ck_yes (in_R_nI (show κ < 6561 by omega) (by decide))]
    obtain ⟨j2, sm2, nm2, w2, ev2, ne2, su2, nx2, e, g1, g2⟩ := m_L73 (d := d) hn hd hb hz hm hκ (h3 κ (Nat.le_refl _) hκ) sm' nm' ev' ne' su' nx'
    rw [bind_yes e]
    refine ⟨_, rfl, nI_1 κ, ?_, ?_, ?_⟩
    · intro r s hr hs
      dsimp only
      rcases (show r < κ ∨ r = κ by omega) with q | rfl
      · rw [g2]
        · exact h2 r s q hs
        · intro s' hs' heq
          have e1 := congrArg (fun x => x % 3 ^ m) heq
          simp only [Nat.add_mul_mod_self_right] at e1
          rw [Nat.mod_eq_of_lt (by omega), Nat.mod_eq_of_lt hκ] at e1
          omega
      · exact g1 s hs
    · intro r hr1 hr2
      dsimp only
      rw [g2]
      · exact h3 r (by omega) hr2
      · intro s' hs' heq
        have e1 := congrArg (fun x => x % 3 ^ m) heq
        simp only [Nat.add_mul_mod_self_right] at e1
        rw [Nat.mod_eq_of_lt hr2, Nat.mod_eq_of_lt hκ] at e1
        omega
    · intro r hr1 hr2
      dsimp only
      rw [g2]
      · exact h4 r hr1 hr2
      · intro s' hs' heq
        have : s' * 3 ^ m ≤ 2 * 3 ^ m := Nat.mul_le_mul_right _ (by omega)
        omega
  · rintro ⟨j, sm', nm', w', ev', ne', su', nx'⟩ ⟨h1, h2, h3, h4⟩
    dsimp only at h1 h2 h3 h4 ⊢
    subst h1
    unfold fX6_works_L55
    rw [bind_yes (f_power (by omega)), if_pos (nI_le (Nat.le_refl _) (by omega))]
    exact ⟨_, rfl, h2, h4⟩
theorem m_works (hn : n ≤ 8) (hd : d ≤ 3) (hb : ∀ k, k < n → bw_ (gM_ wl k)) (hz : ∀ k, k < n → ∀ j, j < 3 → d ≤ j → cf_ j (gM_ wl k) = 0) {od sm nm : Int32} {w ev ne : Nat → Int32} {su nx : Nat → Int64} (hod : od = 0 → WF_ (gM_ wl) n w) :
    ∃ sm' nm' w' ev' ne' su' nx', fX6_works (nI d) (nI n) od sm nm wl w ev ne su nx = some (0, sm', nm', w', ev', ne', su', nx') ∧ WF_ (gM_ wl) n w' := by
  unfold fX6_works
  by_cases q : od = 0
  · rw [if_pos q, q]
    exact ⟨_, _, _, _, _, _, _, rfl, hod q⟩
  · rw [if_neg q]
    obtain ⟨j0, w0, e0, g0⟩ := m_L15 w
    rw [bind_yes e0]
    have hW0 : WF_ (gM_ wl) 0 w0 := by
      intro r hr
      rw [g0 r hr]
      by_cases z : r = 0
      · rw [if_pos z, z]; exact Or.inl ⟨rfl, o3_, rfl⟩
      · rw [if_neg z]; exact Or.inr ⟨rfl, fun h => by have := Fa_lt h; simp at this; exact z this⟩
    have hlp := lp_for (body := fun (st : (Int32 × Int32 × Int32 × (Nat → Int32) × (Nat → Int32) × (Nat → Int32) × (Nat → Int64) × (Nat → Int64))) => fX6_works_L45 (nI n) (nI d) wl st.1 st.2.1 st.2.2.1 st.2.2.2.1 st.2.2.2.2.1 st.2.2.2.2.2.1 st.2.2.2.2.2.2.1 st.2.2.2.2.2.2.2)
      (fun m st => st.1 = nI m ∧ WF_ (gM_ wl) m st.2.2.2.1) (fun st => WF_ (gM_ wl) n st.2.2.2.1) n (by omega) (s := ((0 : Int32), sm, nm, w0, ev, ne, su, nx)) ⟨rfl, hW0⟩ ?_ ?_
    · obtain ⟨⟨j, sm', nm', w', ev', ne', su', nx'⟩, h1, h2⟩ := hlp
      dsimp only
      rw [bind_yes h1]
      exact ⟨_, _, _, _, _, _, _, rfl, h2⟩
    · rintro m ⟨j, sm', nm', w', ev', ne', su', nx'⟩ hm ⟨h1, h2⟩
      dsimp only at h1 h2 ⊢
      subst h1
      left
      unfold fX6_works_L45
      obtain ⟨j2, sm2, nm2, w2, ev2, ne2, su2, nx2, e, g⟩ := m_L55 (d := d) hn hd hb hz hm h2 sm' nm' ev' ne' su' nx'
      rw [if_neg (nI_ge hm (by omega)), bind_yes e]
      exact ⟨_, rfl, nI_1 m, g⟩
    · rintro ⟨j, sm', nm', w', ev', ne', su', nx'⟩ ⟨h1, h2⟩
      dsimp only at h1 h2 ⊢
      subst h1
      unfold fX6_works_L45
      rw [if_pos (nI_le (Nat.le_refl n) (by omega))]
      exact ⟨_, rfl, h2⟩
end WK
