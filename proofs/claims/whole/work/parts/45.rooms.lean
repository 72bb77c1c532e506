/-! rooms: walls of a room, beside, ways, steps -/
/-- the row with the other sign at a wall -/
def xr_ (r k : Nat) : Nat := if dg_ r k = 0 then r + 2 * 3 ^ k else r - 2 * 3 ^ k
theorem dg2_le {r k : Nat} (h : dg_ r k = 2) : 2 * 3 ^ k ≤ r := by
  unfold dg_ at h
  have : 2 ≤ r / 3 ^ k := by have := Nat.mod_le (r / 3 ^ k) 3; omega
  exact (Nat.le_div_iff_mul_le (Nat.pow_pos (by decide))).mp this
theorem xr_lt {r k : Nat} (hr : r < 6561) (hk : k < 8) : xr_ r k < 100000 := by
  have : 3 ^ k ≤ 3 ^ 8 := Nat.pow_le_pow_right (by decide) (by omega)
  unfold xr_
  split <;> omega
theorem f_across {r k : Nat} (hr : r < 6561) (hk : k < 8) (h1 : dg_ r k ≠ 1) : fX5_across (nI r) (nI k) = some (nI (xr_ r k)) := by
  have h3 : 3 ^ k ≤ 3 ^ 8 := Nat.pow_le_pow_right (by decide) (by omega)
  have h3p : 0 < 3 ^ k := Nat.pow_pos (by decide)
  have hle := dg_le r k
  unfold fX5_across
  rw [if_neg (nI_pos (by omega)), if_pos (show nI k < 8 from nI_lt (a := k) (b := 8) hk (by decide)), ck_yes (in_R_nI hk (by decide)), ck_yes (in_R_nI hk (by decide)), nI_clamp (by omega)]
  unfold pw_
  rw [ck_yes (nI_ne0 h3p (by omega)), pk_div (by omega) h3p (by omega), show (3 : Int32) = nI 3 from rfl, pk_rem (Nat.lt_of_le_of_lt (Nat.div_le_self _ _) (by omega)) (by decide) (by decide), show (2 : Int32) = nI 2 from rfl, pk_mul, nI_add]
  show (if nI (dg_ r k) = 0 then _ else _) = _
  unfold xr_
  by_cases q : dg_ r k = 0
  · rw [if_pos (by rw [q]; rfl), if_pos q]
  · rw [if_neg (nI_ne0 (by omega) (by omega)), if_neg q, pk_sub (dg2_le (by omega))]
theorem m_across {r k : Nat} (hr : r < 6561) (hk : k < 8) (h1 : dg_ r k ≠ 1) : fX6_across (nI r) (nI k) = some (nI (xr_ r k)) := by
  have h3 : 3 ^ k ≤ 3 ^ 8 := Nat.pow_le_pow_right (by decide) (by omega)
  have hle := dg_le r k
  unfold fX6_across
  rw [bind_yes (f_power (by omega)), bind_yes (f_sign (by omega) (by omega))]
  unfold xr_
  rcases (show dg_ r k = 0 ∨ dg_ r k = 2 by omega) with q | q
  · rw [q, if_pos rfl]
    have : (2 : Int32) - (2 : Int32) * nI 0 = nI 2 := by decide
    rw [this, pk_mul, nI_add, Nat.mul_comm]
  · rw [q, if_neg (by decide)]
    have : (2 : Int32) - (2 : Int32) * nI 2 = iI_ (-2) := by decide
    have h2 := dg2_le q
    rw [this, ← iI_nat, ← iI_nat, iI_mul, iI_add, ← iI_nat]
    congr 2
    omega
/-- the walls of a room, as bits -/
noncomputable def wm_ (G : Nat → Wl_) (n r : Nat) : Nat := bn_ (fun k => pb_ (Ro_ G n (xr_ r k))) n
noncomputable def vW_ (G : Nat → Wl_) (n : Nat) (p : Int32) : Int32 := ci2_ (RoI_ G n p) (nI (wm_ G n p.toNatClampNeg)) (-1)
noncomputable def vB_ (G : Nat → Wl_) (n : Nat) (p q : Int32) : Int32 := ci2_ (RoI_ G n p ∧ (∃ k, k < n ∧ q = nI k) ∧ Ro_ G n (xr_ p.toNatClampNeg q.toNatClampNeg)) (nI (xr_ p.toNatClampNeg q.toNatClampNeg)) (-1)
/-- the walls that part two rows -/
def pt_ (n r r' : Nat) : Nat := bn_ (fun k => !decide (dg_ r k = dg_ r' k)) n
noncomputable def vY_ (G : Nat → Wl_) (n : Nat) (p q : Int32) : Int32 := ci2_ (RoI_ G n p ∧ RoI_ G n q) (nI (fb_ct (fun k => (pt_ n p.toNatClampNeg q.toNatClampNeg).testBit k) 8)) (-1)
/-- the least bit -/
def fs_ (n m : Nat) (x : Int32) : Prop := (∃ k, k < n ∧ m.testBit k = true ∧ (∀ j, j < k → m.testBit j = false) ∧ x = nI k) ∨ (∀ k, k < n → m.testBit k = false) ∧ x = -1
theorem fs_one {n m : Nat} {x y : Int32} (hx : fs_ n m x) (hy : fs_ n m y) : x = y := by
  rcases hx with ⟨k, k1, k2, k3, rfl⟩ | ⟨h, rfl⟩
  · rcases hy with ⟨j, j1, j2, j3, rfl⟩ | ⟨h', rfl⟩
    · rcases (show k < j ∨ k = j ∨ j < k by omega) with q | rfl | q
      · rw [j3 k q] at k2; cases k2
      · rfl
      · rw [k3 j q] at j2; cases j2
    · rw [h' k k1] at k2; cases k2
  · rcases hy with ⟨j, j1, j2, j3, rfl⟩ | ⟨h', rfl⟩
    · rw [h j j1] at j2; cases j2
    · rfl
def vS_ (G : Nat → Wl_) (n : Nat) (p q x : Int32) : Prop := (RoI_ G n p ∧ RoI_ G n q) ∧ fs_ n (pt_ n p.toNatClampNeg q.toNatClampNeg &&& wm_ G n p.toNatClampNeg) x ∨ ¬ (RoI_ G n p ∧ RoI_ G n q) ∧ x = -1
theorem vS_one {G : Nat → Wl_} {n : Nat} {p q x y : Int32} (hx : vS_ G n p q x) (hy : vS_ G n p q y) : x = y := by
  rcases hx with ⟨h1, h2⟩ | ⟨h1, h2⟩
  · rcases hy with ⟨g1, g2⟩ | ⟨g1, g2⟩
    · exact fs_one h2 g2
    · exact absurd h1 g1
  · rcases hy with ⟨g1, g2⟩ | ⟨g1, g2⟩
    · exact absurd g1 h1
    · rw [h2, g2]
theorem m_bits {m : Nat} (hm : m < 2 ^ 31) : fX6_bits (nI m) = some (nI (fb_ct (fun k => m.testBit k) 8)) := by
  unfold fX6_bits
  refine bind_yes (a := (nI 8, nI (fb_ct (fun k => m.testBit k) 8))) ?_
  refine lp_seq (body := fun (st : (Int32 × Int32)) => fX6_bits_L4 (nI m) st.1 st.2) (fun k => (nI k, nI (fb_ct (fun k => m.testBit k) k))) 8 (by decide) ?_ ?_
  · intro k hk
    show fX6_bits_L4 (nI m) (nI k) _ = _
    unfold fX6_bits_L4
    rw [if_neg (show ¬ (8 : Int32) ≤ nI k from nI_ge (a := k) (b := 8) hk (by decide)), bit_t hm (by omega), nI_add, nI_1]
    rfl
  · show fX6_bits_L4 (nI m) (nI 8) _ = _
    unfold fX6_bits_L4
    rw [if_pos (show (8 : Int32) ≤ nI 8 by decide)]
theorem pop_8 {m : Nat} (hm : m < 256) : fb_ct (fun k => m.testBit k) 32 = fb_ct (fun k => m.testBit k) 8 := by
  rw [show 32 = 8 + 24 from rfl, fb_ct_split]
  have : fb_ct (fun k => m.testBit (8 + k)) 24 = 0 := fb_ct_zero.mpr (fun k _ => Nat.testBit_lt_two_pow (Nat.lt_of_lt_of_le hm (Nat.pow_le_pow_right (n := 2) (i := 8) (by decide) (by omega))))
  omega
theorem m_parted {n r r' : Nat} (hn : n ≤ 8) (hr : r < 2 ^ 31) (hr' : r' < 2 ^ 31) : fX6_parted (nI n) (nI r) (nI r') = some (nI (pt_ n r r')) := by
  unfold fX6_parted
  refine bind_yes (a := (nI n, nI (pt_ n r r'))) ?_
  refine lp_seq (body := fun (st : (Int32 × Int32)) => fX6_parted_L5 (nI n) (nI r) (nI r') st.1 st.2) (fun k => (nI k, nI (pt_ k r r'))) n (by omega) ?_ ?_
  · intro k hk
    show fX6_parted_L5 (nI n) (nI r) (nI r') (nI k) _ = _
    unfold fX6_parted_L5
    have a := dg_le r k
    have b := dg_le r' k
    rw [if_neg (nI_ge hk (by omega)), bind_yes (f_sign hr (by omega)), bind_yes (f_sign hr' (by omega)), nI_1]
    unfold pt_
    by_cases q : dg_ r k = dg_ r' k
    · rw [if_pos (by rw [q]), show (0 : Int32) = nI 0 from rfl, nI_or]
      simp [bn_, q]
    · rw [if_neg (fun z => q ((nI_eq (by omega) (by omega)).mp z)), sh_1 k (by omega), nI_or, or_add (bn_lt _ k)]
      simp [bn_, q]
  · show fX6_parted_L5 (nI n) (nI r) (nI r') (nI n) _ = _
    unfold fX6_parted_L5
    rw [if_pos (nI_le (Nat.le_refl n) (by omega))]
theorem c_parted {n r r' : Nat} (hn : n ≤ 8) (hr : r < 3 ^ n) (hr' : r' < 3 ^ n) (h1 : ∀ k, k < n → dg_ r k ≠ 1) (h1' : ∀ k, k < n → dg_ r' k ≠ 1) : fX5_parting (nI r) (nI r') = some (nI (pt_ n r r')) := by
  have h3 := p3_6561 hn
  rw [f_parting (by omega) (by omega), mk_dig hn hr (by decide), mk_dig hn hr' (by decide), bn_xor]
  congr 2
  unfold pt_
  refine bn_cg (fun k hk => ?_)
  have a := dg_le r k
  have b := dg_le r' k
  have c := h1 k hk
  have e := h1' k hk
  rcases (show dg_ r k = 0 ∨ dg_ r k = 2 by omega) with q | q <;> rcases (show dg_ r' k = 0 ∨ dg_ r' k = 2 by omega) with w | w <;> rw [q, w] <;> rfl
section WS
variable {G : Nat → Wl_} {n d fo li : Nat} {rk cm mk ro wi la lb : Nat → Int32}
theorem f_wallsOf (hn : n ≤ 8) (hC : CU_ G n d fo li rk cm mk ro wi la lb) {r : Nat} (hr : r < 6561) (h1 : ∀ k, k < n → dg_ r k ≠ 1) : fX1_wallsOf (nI n) mk (nI r) = some (nI (wm_ G n r)) := by
  unfold fX1_wallsOf
  refine bind_yes (a := (nI n, nI (wm_ G n r))) ?_
  refine lp_seq (body := fun (st : (Int32 × Int32)) => fX1_wallsOf_L4 (nI n) (nI r) mk st.1 st.2) (fun k => (nI k, nI (bn_ (fun k => pb_ (Ro_ G n (xr_ r k))) k))) n (by omega) ?_ ?_
  · intro k hk
    show fX1_wallsOf_L4 (nI n) (nI r) mk (nI k) _ = _
    unfold fX1_wallsOf_L4
    have hax := xr_lt hr (show k < 8 by omega)
    obtain ⟨x, e, hy⟩ := f_hasRoom hn hC (nI (xr_ r k))
    rw [if_neg (nI_ge hk (by omega)), bind_yes (f_across hr (by omega) (h1 k hk)), bind_yes e, nI_1]
    have hy' := yn_cg hy (RoI_nI hn (by omega))
    rcases hy' with ⟨rfl, q⟩ | ⟨rfl, q⟩
    · rw [if_neg (by decide), sh_1 k (by omega), nI_or, or_add (bn_lt _ k)]
      simp [bn_, pb_t.mpr q]
    · rw [if_pos rfl]
      simp [bn_, pb_f.mpr q]
  · show fX1_wallsOf_L4 (nI n) (nI r) mk (nI n) _ = _
    unfold fX1_wallsOf_L4
    rw [if_pos (nI_le (Nat.le_refl n) (by omega))]
    rfl
end WS
section WM
variable {wl : Nat → Int32} {n d : Nat}
theorem m_walls (hI : MI_ (gM_ wl) n d) {s : MU_} (hs : mJ_ (gM_ wl) n s) (p : Int32) : ∃ s' : MU_, fX6_walls (nI d) (nI n) s.1 s.2.1 s.2.2.1 wl s.2.2.2.1 s.2.2.2.2.1 s.2.2.2.2.2.1 s.2.2.2.2.2.2.1 s.2.2.2.2.2.2.2 p = some (vW_ (gM_ wl) n p, s') ∧ mJ_ (gM_ wl) n s' := by
  have hn := hI.1
  have h3 := p3_6561 hn
  unfold fX6_walls vW_
  obtain ⟨x, s1, e, hy, hs1⟩ := m_room hI hs p
  rw [bind_yes e]
  dsimp only
  rcases hy with ⟨rfl, hR⟩ | ⟨rfl, hR⟩
  · rw [ci2_t hR, if_neg (by decide)]
    obtain ⟨r, rfl, hR⟩ := hR
    have hr := Fa_lt hR.1
    rw [nI_clamp (by omega)]
    have hlp := lp_for (body := fun (st : (Int32 × Int32 × MU_)) => fX6_walls_L14 (nI n) (nI r) (nI d) wl st.1 st.2.1 st.2.2.1 st.2.2.2.1 st.2.2.2.2.1 st.2.2.2.2.2.1 st.2.2.2.2.2.2.1 st.2.2.2.2.2.2.2.1 st.2.2.2.2.2.2.2.2.1 st.2.2.2.2.2.2.2.2.2)
      (fun k st => st.1 = nI k ∧ st.2.1 = nI (bn_ (fun k => pb_ (Ro_ (gM_ wl) n (xr_ r k))) k) ∧ mJ_ (gM_ wl) n st.2.2)
      (fun st => st.2.1 = nI (wm_ (gM_ wl) n r) ∧ mJ_ (gM_ wl) n st.2.2) n (by omega) (s := ((0 : Int32), (0 : Int32), s1)) ⟨rfl, rfl, hs1⟩ ?_ ?_
    · obtain ⟨⟨i, y, s'⟩, e1, e2, e3⟩ := hlp
      dsimp only at e2 e3
      subst e2
      refine ⟨s', ?_, e3⟩
      rw [bind_yes e1]
    · rintro k ⟨i, y, t⟩ hk ⟨e1, e2, e3⟩
      dsimp only at e1 e2 e3 ⊢
      subst e1 e2
      left
      unfold fX6_walls_L14
      have hax := xr_lt (show r < 6561 by omega) (show k < 8 by omega)
      obtain ⟨x, t', e4, hy, ht⟩ := m_room hI e3 (nI (xr_ r k))
      rw [if_neg (nI_ge hk (by omega)), bind_yes (m_across (by omega) (by omega) (hR.2 k hk)), bind_yes e4]
      dsimp only
      have hy' := yn_cg hy (RoI_nI hn (by omega))
      rcases hy' with ⟨rfl, q⟩ | ⟨rfl, q⟩
      · rw [if_neg (by decide), sh_1 k (by omega), nI_or, or_add (bn_lt _ k)]
        refine ⟨_, rfl, nI_1 k, ?_, ht⟩
        simp [bn_, pb_t.mpr q]
      · rw [if_pos rfl, show (0 : Int32) = nI 0 from rfl, nI_or]
        refine ⟨_, rfl, nI_1 k, ?_, ht⟩
        simp [bn_, pb_f.mpr q]
    · rintro ⟨i, y, t⟩ ⟨e1, e2, e3⟩
      dsimp only at e1 e2 e3 ⊢
      subst e1 e2
      unfold fX6_walls_L14
      rw [if_pos (nI_le (Nat.le_refl n) (by omega))]
      exact ⟨_, rfl, rfl, e3⟩
  · rw [ci2_f hR, if_pos rfl]
    exact ⟨s1, rfl, hs1⟩
theorem m_beside (hI : MI_ (gM_ wl) n d) {s : MU_} (hs : mJ_ (gM_ wl) n s) (p q : Int32) : ∃ s' : MU_, fX6_beside (nI d) (nI n) s.1 s.2.1 s.2.2.1 wl s.2.2.2.1 s.2.2.2.2.1 s.2.2.2.2.2.1 s.2.2.2.2.2.2.1 s.2.2.2.2.2.2.2 p q = some (vB_ (gM_ wl) n p q, s') ∧ mJ_ (gM_ wl) n s' := by
  have hn := hI.1
  have h3 := p3_6561 hn
  unfold fX6_beside vB_
  obtain ⟨x, s1, e, hy, hs1⟩ := m_room hI hs p
  rw [bind_yes e]
  dsimp only
  rcases hy with ⟨rfl, hR⟩ | ⟨rfl, hR⟩
  · rw [if_neg (by decide)]
    have hR0 := hR
    obtain ⟨r, rfl, hR⟩ := hR
    have hr := Fa_lt hR.1
    rw [nI_clamp (show r < 2 ^ 31 by omega)]
    unfold fX6_in
    by_cases h0 : q < 0
    · rw [if_pos h0, Option.bind_some, if_pos rfl, ci2_f (fun w => by
        obtain ⟨_, ⟨k, hk, rfl⟩, _⟩ := w
        exact nI_pos (by omega) h0)]
      exact ⟨s1, rfl, hs1⟩
    · rw [if_neg h0]
      obtain ⟨k, hk, rfl⟩ := nI_of h0
      by_cases h1 : k < n
      · rw [if_neg (fun w => by
          rw [show nI n - (1 : Int32) = nI (n - 1) from sub_1 (by omega)] at w
          exact nI_nlt (show k ≤ n - 1 by omega) (by omega) w), Option.bind_some, if_neg (show ¬ (1 : Int32) = 0 by decide), bind_yes (m_across (by omega) (by omega) (hR.2 k h1)), nI_clamp (by omega)]
        have hax := xr_lt (show r < 6561 by omega) (show k < 8 by omega)
        obtain ⟨x, t', e4, hy, ht⟩ := m_room hI hs1 (nI (xr_ r k))
        rw [bind_yes e4]
        dsimp only
        have hy' := yn_cg hy (RoI_nI hn (by omega))
        rcases hy' with ⟨rfl, w⟩ | ⟨rfl, w⟩
        · rw [if_neg (by decide), ci2_t ⟨hR0, ⟨k, h1, rfl⟩, w⟩]
          exact ⟨t', rfl, ht⟩
        · rw [if_pos rfl, ci2_f (fun z => w z.2.2)]
          exact ⟨t', rfl, ht⟩
      · rw [if_pos (show nI n - (1 : Int32) < nI k by
          rw [Int32.lt_iff_toInt_lt, nI_toInt hk]
          have : (nI n - (1 : Int32)).toInt = (n : Int) - 1 := pk_sub_toInt (a := n) (b := 1) (by omega) (by decide)
          rw [this]
          omega), Option.bind_some, if_pos rfl, ci2_f (fun w => by
          obtain ⟨_, ⟨k', hk', e⟩, _⟩ := w
          have := (nI_eq hk (by omega)).mp e
          omega)]
        exact ⟨s1, rfl, hs1⟩
  · rw [if_pos rfl, ci2_f (fun w => hR w.1)]
    exact ⟨s1, rfl, hs1⟩
theorem m_way (hI : MI_ (gM_ wl) n d) {s : MU_} (hs : mJ_ (gM_ wl) n s) (p q : Int32) : ∃ s' : MU_, fX6_way (nI d) (nI n) s.1 s.2.1 s.2.2.1 wl s.2.2.2.1 s.2.2.2.2.1 s.2.2.2.2.2.1 s.2.2.2.2.2.2.1 s.2.2.2.2.2.2.2 p q = some (vY_ (gM_ wl) n p q, s') ∧ mJ_ (gM_ wl) n s' := by
  have hn := hI.1
  have h3 := p3_6561 hn
  unfold fX6_way vY_
  obtain ⟨x, s1, e, hy, hs1⟩ := m_room hI hs p
  rw [bind_yes e]
  dsimp only
  rcases hy with ⟨rfl, hR⟩ | ⟨rfl, hR⟩
  · obtain ⟨x, s2, e2, hy2, hs2⟩ := m_room hI hs1 q
    rw [if_neg (by decide), bind_yes e2]
    dsimp only
    rcases hy2 with ⟨rfl, hR2⟩ | ⟨rfl, hR2⟩
    · rw [if_neg (by decide), ci2_t ⟨hR, hR2⟩]
      obtain ⟨r, rfl, hR⟩ := hR
      obtain ⟨r', rfl, hR2⟩ := hR2
      have hr := Fa_lt hR.1
      have hr' := Fa_lt hR2.1
      have hpt := bn_lt8 (fun k => !decide (dg_ r k = dg_ r' k)) hn
      rw [nI_clamp (by omega), nI_clamp (by omega), bind_yes (m_parted hn (by omega) (by omega)), bind_yes (m_bits (show pt_ n r r' < 2 ^ 31 from Nat.lt_trans hpt (by decide)))]
      exact ⟨s2, rfl, hs2⟩
    · rw [if_pos rfl, ci2_f (fun z => hR2 z.2)]
      exact ⟨s2, rfl, hs2⟩
  · rw [if_pos rfl, ci2_f (fun z => hR z.1)]
    exact ⟨s1, rfl, hs1⟩
theorem m_step (hI : MI_ (gM_ wl) n d) {s : MU_} (hs : mJ_ (gM_ wl) n s) (p q : Int32) : ∃ x, ∃ s' : MU_, fX6_step (nI d) (nI n) s.1 s.2.1 s.2.2.1 wl s.2.2.2.1 s.2.2.2.2.1 s.2.2.2.2.2.1 s.2.2.2.2.2.2.1 s.2.2.2.2.2.2.2 p q = some (x, s') ∧ vS_ (gM_ wl) n p q x ∧ mJ_ (gM_ wl) n s' := by
  have hn := hI.1
  have h3 := p3_6561 hn
  unfold fX6_step
  obtain ⟨x, s1, e, hy, hs1⟩ := m_room hI hs p
  rw [bind_yes e]
  dsimp only
  rcases hy with ⟨rfl, hR⟩ | ⟨rfl, hR⟩
  · obtain ⟨x, s2, e2, hy2, hs2⟩ := m_room hI hs1 q
    rw [if_neg (by decide), bind_yes e2]
    dsimp only
    rcases hy2 with ⟨rfl, hR2⟩ | ⟨rfl, hR2⟩
    · rw [if_neg (by decide)]
      have hRR : RoI_ (gM_ wl) n p ∧ RoI_ (gM_ wl) n q := ⟨hR, hR2⟩
      obtain ⟨s3, e3, hs3⟩ := m_walls hI hs2 p
      have hv : vW_ (gM_ wl) n p = nI (wm_ (gM_ wl) n p.toNatClampNeg) := ci2_t hR
      rw [hv] at e3
      obtain ⟨r, rfl, hR⟩ := hR
      obtain ⟨r', rfl, hR2⟩ := hR2
      have hr := Fa_lt hR.1
      have hr' := Fa_lt hR2.1
      rw [nI_clamp (by omega)] at e3
      rw [bind_yes (m_parted hn (by omega) (by omega)), bind_yes e3]
      have hpt : pt_ n r r' < 256 := bn_lt8 _ hn
      have hand : pt_ n r r' &&& wm_ (gM_ wl) n r < 2 ^ 31 := Nat.lt_of_le_of_lt Nat.and_le_left (by omega)
      have hlp := lp_for (body := fun (st : Int32) => fX6_step_L34 (nI n) (nI (pt_ n r r')) (nI (wm_ (gM_ wl) n r), s3) st)
        (fun k st => st = nI k ∧ ∀ j, j < k → (pt_ n r r' &&& wm_ (gM_ wl) n r).testBit j = false)
        (fun u => ∃ x, ∃ s' : MU_, Sum.elim (fun (x16 : Int32) => some ((-1 : Int32), s3)) (fun y => some y) u = some (x, s') ∧ fs_ n (pt_ n r r' &&& wm_ (gM_ wl) n r) x ∧ mJ_ (gM_ wl) n s') n (by omega) (s := (0 : Int32)) ⟨rfl, fun j hj => absurd hj (Nat.not_lt_zero j)⟩ ?_ ?_
      · obtain ⟨u, g1, x, s', g2, g3, g4⟩ := hlp
        refine ⟨x, s', ?_, Or.inl ⟨hRR, by rw [nI_clamp (by omega), nI_clamp (by omega)]; exact g3⟩, g4⟩
        rw [bind_yes g1]; exact g2
      · rintro k st hk ⟨rfl, h5⟩
        unfold fX6_step_L34
        dsimp only
        rw [if_neg (nI_ge hk (by omega)), nI_and]
        have hb := bit_t1 hand (show k < 31 by omega)
        cases e : (pt_ n r r' &&& wm_ (gM_ wl) n r).testBit k with
        | false =>
          left
          rw [if_neg (fun w => by rw [hb.mp w] at e; cases e)]
          refine ⟨_, rfl, nI_1 k, fun j hj => ?_⟩
          rcases (show j < k ∨ j = k by omega) with w | rfl
          · exact h5 j w
          · exact e
        | true =>
          right
          rw [if_pos (hb.mpr e)]
          exact ⟨_, rfl, _, s3, rfl, Or.inl ⟨k, hk, e, h5, rfl⟩, hs3⟩
      · rintro st ⟨rfl, h5⟩
        unfold fX6_step_L34
        rw [if_pos (nI_le (Nat.le_refl n) (by omega))]
        exact ⟨_, rfl, _, s3, rfl, Or.inr ⟨h5, rfl⟩, hs3⟩
    · rw [if_pos rfl]
      exact ⟨_, s2, rfl, Or.inr ⟨fun z => hR2 z.2, rfl⟩, hs2⟩
  · rw [if_pos rfl]
    exact ⟨_, s1, rfl, Or.inr ⟨fun z => hR z.1, rfl⟩, hs1⟩
end WM
