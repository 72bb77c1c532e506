/-! the farthest way -/
theorem ov_ev (w : Wl_) (x y z : Int) : ((ov_ w x y z 1 : Int) : Rat) = ev_ w ((x : Rat), (y : Rat), (z : Rat)) := by
  simp only [ov_, ev_, dr_, Rat.intCast_add, Rat.intCast_sub, Rat.intCast_mul]; grind
theorem nv_int {w : Wl_} (h : nv_ w ≠ o3_) : ¬ (w.1 = 0 ∧ w.2.1 = 0 ∧ w.2.2.1 = 0) := by
  rintro ⟨a, b, c⟩
  apply h
  unfold nv_ o3_
  rw [a, b, c]; rfl
theorem far_sg {w : Wl_} (hb : bw_ w) (hn : nv_ w ≠ o3_) : sg_ (ev_ w ((100 : Int), (10000 : Int), (1000000 : Int))) ≠ 1 ∧ sg_ (ev_ w ((-100 : Int), (-10000 : Int), (-1000000 : Int))) = 2 - sg_ (ev_ w ((100 : Int), (10000 : Int), (1000000 : Int))) := by
  have h0 := nv_int hn
  obtain ⟨b1, b2, b3, b4⟩ := hb
  unfold ab_ at *
  rw [← ov_ev, ← ov_ev, sg_int, sg_int]
  unfold ov_ sz_
  generalize w.1 = a at *
  generalize w.2.1 = b at *
  generalize w.2.2.1 = c at *
  generalize w.2.2.2 = e at *
  have hz : a + 100 * b + 10000 * c ≠ 0 := by omega
  rcases (show a + 100 * b + 10000 * c < 0 ∨ 0 < a + 100 * b + 10000 * c by omega) with q | q
  · rw [if_neg (by omega), if_pos (by omega), if_neg (by omega), if_neg (by omega)]
    exact ⟨by decide, rfl⟩
  · rw [if_neg (by omega), if_neg (by omega), if_neg (by omega), if_pos (by omega)]
    exact ⟨by decide, rfl⟩
theorem far_rooms {G : Nat → Wl_} {n d : Nat} (hI : MI_ G n d) : ∃ r r', Ro_ G n r ∧ Ro_ G n r' ∧ ∀ k, k < n → dg_ r k ≠ dg_ r' k := by
  refine ⟨rp_ G n ((100 : Int), (10000 : Int), (1000000 : Int)), rp_ G n ((-100 : Int), (-10000 : Int), (-1000000 : Int)), ⟨⟨_, rfl⟩, ?_⟩, ⟨⟨_, rfl⟩, ?_⟩, ?_⟩
  · intro k hk
    rw [rp_dg G _ hk]
    exact (far_sg (hI.2.2.2.1 k hk) (hI.2.2.2.2.1 k hk)).1
  · intro k hk
    rw [rp_dg G _ hk]
    obtain ⟨a, b⟩ := far_sg (hI.2.2.2.1 k hk) (hI.2.2.2.2.1 k hk)
    have := sg_le (ev_ (G k) ((100 : Int), (10000 : Int), (1000000 : Int)))
    omega
  · intro k hk
    rw [rp_dg G _ hk, rp_dg G _ hk]
    obtain ⟨a, b⟩ := far_sg (hI.2.2.2.1 k hk) (hI.2.2.2.2.1 k hk)
    have := sg_le (ev_ (G k) ((100 : Int), (10000 : Int), (1000000 : Int)))
    omega
/-- how many walls part two rows -/
def pn_ (n r r' : Nat) : Nat := fb_ct (fun k => (pt_ n r r').testBit k) 8
theorem pn_ct {n r r' : Nat} (hn : n ≤ 8) : pn_ n r r' = fb_ct (fun k => !decide (dg_ r k = dg_ r' k)) n := by
  unfold pn_ pt_
  rw [show 8 = n + (8 - n) by omega, fb_ct_split]
  have e1 : fb_ct (fun k => (bn_ (fun k => !decide (dg_ r k = dg_ r' k)) n).testBit k) n = fb_ct (fun k => !decide (dg_ r k = dg_ r' k)) n := fb_ct_cong (fun k hk => by rw [bn_bit]; simp [hk])
  have e2 : fb_ct (fun k => (bn_ (fun k => !decide (dg_ r k = dg_ r' k)) n).testBit (n + k)) (8 - n) = 0 := fb_ct_zero.mpr (fun k hk => by
    rw [bn_bit]
    have : ¬ n + k < n := by omega
    simp [this])
  omega
theorem pn_le {n r r' : Nat} (hn : n ≤ 8) : pn_ n r r' ≤ n := by rw [pn_ct hn]; exact fb_ct_le _ n
theorem pn_all {n r r' : Nat} (hn : n ≤ 8) (h : ∀ k, k < n → dg_ r k ≠ dg_ r' k) : pn_ n r r' = n := by
  rw [pn_ct hn]
  exact fb_ct_all.mpr (fun k hk => by simp [h k hk])
section FAR
variable {wl : Nat → Int32} {n d : Nat}
theorem m_far (hI : MI_ (gM_ wl) n d) {s : MU_} (hs : mJ_ (gM_ wl) n s) : ∃ s' : MU_, fX6_far (nI d) (nI n) s.1 s.2.1 s.2.2.1 wl s.2.2.2.1 s.2.2.2.2.1 s.2.2.2.2.2.1 s.2.2.2.2.2.2.1 s.2.2.2.2.2.2.2 = some (nI n, s') ∧ mJ_ (gM_ wl) n s' := by
  have hn := hI.1
  have h3 := p3_6561 hn
  unfold fX6_far
  have hlp := lp_for (body := fun (st : (Int32 × Int32 × MU_)) => fX6_far_L4 (nI n) (nI d) wl st.1 st.2.1 st.2.2.1 st.2.2.2.1 st.2.2.2.2.1 st.2.2.2.2.2.1 st.2.2.2.2.2.2.1 st.2.2.2.2.2.2.2.1 st.2.2.2.2.2.2.2.2.1 st.2.2.2.2.2.2.2.2.2)
    (fun a st => st.1 = nI a ∧ (∃ be, st.2.1 = nI be ∧ be ≤ n ∧ ∀ a' b, a' < a → b < a' → Ro_ (gM_ wl) n a' → Ro_ (gM_ wl) n b → pn_ n a' b ≤ be) ∧ mJ_ (gM_ wl) n st.2.2)
    (fun st => (∃ be, st.2.1 = nI be ∧ be ≤ n ∧ ∀ a' b, a' < 3 ^ n → b < a' → Ro_ (gM_ wl) n a' → Ro_ (gM_ wl) n b → pn_ n a' b ≤ be) ∧ mJ_ (gM_ wl) n st.2.2) (3 ^ n) (by omega) (s := ((0 : Int32), (0 : Int32), s))
    ⟨rfl, ⟨0, rfl, Nat.zero_le _, fun a' b h => absurd h (Nat.not_lt_zero a')⟩, hs⟩ ?_ ?_
  · obtain ⟨⟨i, y, s'⟩, e1, ⟨be, e2, h1, h2⟩, e3⟩ := hlp
    dsimp only at e2 e3
    subst e2
    rw [bind_yes e1]
    have : be = n := by
      by_cases q : n = 0
      · omega
      · obtain ⟨r, r', g1, g2, g3⟩ := far_rooms hI
        have hne : r ≠ r' := fun w => g3 0 (by omega) (by rw [w])
        have l1 := Fa_lt g1.1
        have l2 := Fa_lt g2.1
        rcases (show r < r' ∨ r' < r by omega) with w | w
        · have := h2 r' r l2 w g2 g1
          rw [pn_all hn (fun k hk => fun z => g3 k hk z.symm)] at this
          omega
        · have := h2 r r' l1 w g1 g2
          rw [pn_all hn g3] at this
          omega
    subst this
    exact ⟨s', rfl, e3⟩
  · rintro a ⟨i, y, t⟩ ha ⟨e1, ⟨be, e2, h1, h2⟩, e3⟩
    dsimp only at e1 e2 e3 ⊢
    subst e1 e2
    left
    unfold fX6_far_L4
    obtain ⟨x, t', e4, hy, ht⟩ := m_room hI e3 (nI a)
    rw [bind_yes (f_power (by omega)), if_neg (nI_ge ha (by omega)), bind_yes e4]
    dsimp only
    have hy' := yn_cg hy (RoI_nI hn (by omega))
    rcases hy' with ⟨rfl, q⟩ | ⟨rfl, q⟩
    · rw [if_neg (by decide)]
      have hlp := lp_for (body := fun (st : (Int32 × Int32 × MU_)) => fX6_far_L28 (nI a) (nI d) (nI n) wl st.1 st.2.1 st.2.2.1 st.2.2.2.1 st.2.2.2.2.1 st.2.2.2.2.2.1 st.2.2.2.2.2.2.1 st.2.2.2.2.2.2.2.1 st.2.2.2.2.2.2.2.2.1 st.2.2.2.2.2.2.2.2.2)
        (fun b st => st.1 = nI b ∧ (∃ be', st.2.1 = nI be' ∧ be ≤ be' ∧ be' ≤ n ∧ ∀ b', b' < b → Ro_ (gM_ wl) n b' → pn_ n a b' ≤ be') ∧ mJ_ (gM_ wl) n st.2.2)
        (fun st => (∃ be', st.2.1 = nI be' ∧ be ≤ be' ∧ be' ≤ n ∧ ∀ b', b' < a → Ro_ (gM_ wl) n b' → pn_ n a b' ≤ be') ∧ mJ_ (gM_ wl) n st.2.2) a (by omega) (s := ((0 : Int32), nI be, t'))
        ⟨rfl, ⟨be, rfl, Nat.le_refl _, h1, fun b' h => absurd h (Nat.not_lt_zero b')⟩, ht⟩ ?_ ?_
      · obtain ⟨⟨i, y, s'⟩, g1, ⟨be', g2, g3, g4, g5⟩, g6⟩ := hlp
        dsimp only at g2 g6
        subst g2
        rw [bind_yes g1]
        refine ⟨_, rfl, nI_1 a, ⟨be', rfl, g4, fun a' b ha' hb hR1 hR2 => ?_⟩, g6⟩
        rcases (show a' < a ∨ a' = a by omega) with w | rfl
        · exact Nat.le_trans (h2 a' b w hb hR1 hR2) g3
        · exact g5 b hb hR2
      · rintro b ⟨i, y, t2⟩ hb ⟨g1, ⟨be', g2, g3, g4, g5⟩, g6⟩
        dsimp only at g1 g2 g6 ⊢
        subst g1 g2
        left
        unfold fX6_far_L28
        obtain ⟨x, t3, e5, hy5, ht5⟩ := m_room hI g6 (nI b)
        rw [if_neg (nI_ge hb (by omega)), bind_yes e5]
        dsimp only
        have hy6 := yn_cg hy5 (RoI_nI hn (by omega))
        rcases hy6 with ⟨rfl, w⟩ | ⟨rfl, w⟩
        · have hpt : pt_ n a b < 256 := bn_lt8 _ hn
          have hbit : fX6_bits (nI (pt_ n a b)) = some (nI (pn_ n a b)) := m_bits (show pt_ n a b < 2 ^ 31 from Nat.lt_trans hpt (by decide))
          rw [if_neg (by decide), bind_yes (m_parted hn (by omega) (by omega)), bind_yes hbit]
          have hpl : pn_ n a b ≤ n := pn_le hn
          by_cases z : pn_ n a b ≤ be'
          · rw [if_pos (nI_le z (by omega))]
            refine ⟨_, rfl, nI_1 b, ⟨be', rfl, g3, g4, fun b' hb' hR => ?_⟩, ht5⟩
            rcases (show b' < b ∨ b' = b by omega) with c | rfl
            · exact g5 b' c hR
            · exact z
          · rw [if_neg (show ¬ nI (pn_ n a b) ≤ nI be' from nI_ge (show be' < pn_ n a b by omega) (by omega))]
            refine ⟨_, rfl, nI_1 b, ⟨pn_ n a b, rfl, by omega, hpl, fun b' hb' hR => ?_⟩, ht5⟩
            rcases (show b' < b ∨ b' = b by omega) with c | rfl
            · have := g5 b' c hR; omega
            · exact Nat.le_refl _
        · rw [if_pos rfl]
          refine ⟨_, rfl, nI_1 b, ⟨be', rfl, g3, g4, fun b' hb' hR => ?_⟩, ht5⟩
          rcases (show b' < b ∨ b' = b by omega) with c | rfl
          · exact g5 b' c hR
          · exact absurd hR w
      · rintro ⟨i, y, t2⟩ ⟨g1, g2, g6⟩
        dsimp only at g1 g2 g6 ⊢
        subst g1
        unfold fX6_far_L28
        rw [if_pos (nI_le (Nat.le_refl a) (by omega))]
        exact ⟨_, rfl, g2, g6⟩
    · rw [if_pos rfl]
      refine ⟨_, rfl, nI_1 a, ⟨be, rfl, h1, fun a' b ha' hb hR1 hR2 => ?_⟩, ht⟩
      rcases (show a' < a ∨ a' = a by omega) with w | rfl
      · exact h2 a' b w hb hR1 hR2
      · exact absurd hR1 q
  · rintro ⟨i, y, t⟩ ⟨e1, e2, e3⟩
    dsimp only at e1 e2 e3 ⊢
    subst e1
    unfold fX6_far_L4
    rw [bind_yes (f_power (by omega)), if_pos (nI_le (Nat.le_refl _) (by omega))]
    exact ⟨_, rfl, e2, e3⟩
end FAR
