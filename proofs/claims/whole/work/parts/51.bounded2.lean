/-! bounded, both sides -/
section BX
variable {va vb vc ve vth : Nat → Int32} {n d : Nat}
theorem c_bounded (hI : MI_ (gC_ va vb vc ve) n d) (hP : PI_ (gC_ va vb vc ve) n) (hT : TH_ vth) {u : CT_} (hu : cI_ (gC_ va vb vc ve) n d u) (p : Int32) : ∃ x, ∃ u' : CT_, fX5_bounded (nI d) (nI n) u.1 u.2.1 u.2.2.1 va vb vc ve vth u.2.2.2.1 u.2.2.2.2.1 u.2.2.2.2.2.1 u.2.2.2.2.2.2.1 u.2.2.2.2.2.2.2.1 u.2.2.2.2.2.2.2.2.1 u.2.2.2.2.2.2.2.2.2.1 u.2.2.2.2.2.2.2.2.2.2.1 u.2.2.2.2.2.2.2.2.2.2.2.1 u.2.2.2.2.2.2.2.2.2.2.2.2.1 u.2.2.2.2.2.2.2.2.2.2.2.2.2.1 u.2.2.2.2.2.2.2.2.2.2.2.2.2.2.1 u.2.2.2.2.2.2.2.2.2.2.2.2.2.2.2.1 u.2.2.2.2.2.2.2.2.2.2.2.2.2.2.2.2.1 u.2.2.2.2.2.2.2.2.2.2.2.2.2.2.2.2.2.1 u.2.2.2.2.2.2.2.2.2.2.2.2.2.2.2.2.2.2.1 u.2.2.2.2.2.2.2.2.2.2.2.2.2.2.2.2.2.2.2.1 u.2.2.2.2.2.2.2.2.2.2.2.2.2.2.2.2.2.2.2.2.1 u.2.2.2.2.2.2.2.2.2.2.2.2.2.2.2.2.2.2.2.2.2.1 u.2.2.2.2.2.2.2.2.2.2.2.2.2.2.2.2.2.2.2.2.2.2.1 u.2.2.2.2.2.2.2.2.2.2.2.2.2.2.2.2.2.2.2.2.2.2.2.1 u.2.2.2.2.2.2.2.2.2.2.2.2.2.2.2.2.2.2.2.2.2.2.2.2.1 u.2.2.2.2.2.2.2.2.2.2.2.2.2.2.2.2.2.2.2.2.2.2.2.2.2 p = some (x, u') ∧ yn_ x (BdI_ (gC_ va vb vc ve) n d p) ∧ cI_ (gC_ va vb vc ve) n d u' := by
  unfold fX5_bounded
  have hn := hP.1
  have hd3 := hI.2.2.1
  have h3 := p3_6561 hn
  obtain ⟨u', e, hF⟩ := f_freshCut hP hT hu
  obtain ⟨h5, h6, fo, li, h7, h8, hC⟩ := hF
  have hU : cI_ (gC_ va vb vc ve) n d u' := Or.inr ⟨h5, h6, fo, li, h7, h8, hC⟩
  obtain ⟨x, e2, hy⟩ := f_hasRoom hn hC p
  have l3 := rk_le3 (hS_ (gC_ va vb vc ve) (2 ^ n - 1))
  rw [bind_yes e, bind_yes e2]
  rcases hy with ⟨rfl, r, rfl, hR⟩ | ⟨rfl, hR⟩
  · have hr := Fa_lt hR.1
    have hone : ∀ r', nI r = nI r' → Ro_ (gC_ va vb vc ve) n r' → r = r' := fun r' e h => (nI_eq (by omega) (by have := Fa_lt h.1; omega)).mp e
    rw [if_neg (by decide), bind_yes (f_rankAll hn hC)]
    by_cases q : rk_ (hS_ (gC_ va vb vc ve) (2 ^ n - 1)) = d
    · rw [if_pos (by rw [q]), show (2 : Int32) = nI 2 from rfl, bind_yes (f_maskOf (by omega) (by decide)), mk_dig hn hr (by decide)]
      obtain ⟨y, e3, hy3⟩ := f_isOpen (r := r) hI hP.2.2.2.1 q hC
      rw [h8, bind_yes e3]
      rcases hy3 with ⟨rfl, w⟩ | ⟨rfl, w⟩
      · rw [if_neg (by decide), ← h8]
        refine ⟨_, u', rfl, Or.inr ⟨rfl, ?_⟩, hU⟩
        rintro ⟨r', e', hB⟩
        rw [hone r' e' hB.1] at w
        exact hB.2.2 w
      · rw [if_pos rfl, ← h8]
        exact ⟨_, u', rfl, Or.inl ⟨rfl, r, rfl, hR, q, w⟩, hU⟩
    · rw [if_neg (fun z => q ((nI_eq (by omega) (by omega)).mp z))]
      refine ⟨_, u', rfl, Or.inr ⟨rfl, ?_⟩, hU⟩
      rintro ⟨r', e', hB⟩
      exact q hB.2.1
  · rw [if_pos rfl]
    refine ⟨_, u', rfl, Or.inr ⟨rfl, ?_⟩, hU⟩
    rintro ⟨r', e', hB⟩
    exact hR ⟨r', e', hB.1⟩
end BX
section BY
variable {wl : Nat → Int32} {n d : Nat}
theorem ld_1 : @fX6_leadsOn_L18_1 = @fX6_leadsOn_L18 := rfl
theorem ld_2 : @fX6_leadsOn_L18_2 = @fX6_leadsOn_L18 := rfl
theorem m_leadsL (hn : n ≤ 8) (hb : ∀ k, k < n → bw_ (gM_ wl k)) {r : Nat} (hr : r < 2 ^ 31) (h1 : ∀ k, k < n → dg_ r k ≠ 1) {x y z : Int} (hx : ab_ x 162) (hy : ab_ y 162) (hz : ab_ z 162) :
    ∃ b, ((lp_ (fun (st : Int32) => fX6_leadsOn_L18 (nI n) wl (nI r) (iI_ x) (iI_ y) (iI_ z) st) fu_ (0 : Int32)).bind fun (u3 : (Int32 ⊕ Int32)) => Sum.elim (fun (x7 : Int32) => some (1 : Int32)) (fun y => some y) u3) = some b ∧ yn_ b (Cn_ (gM_ wl) n r ((x : Rat), (y : Rat), (z : Rat))) := by
  have hlp := lp_for (body := fun (st : Int32) => fX6_leadsOn_L18 (nI n) wl (nI r) (iI_ x) (iI_ y) (iI_ z) st)
    (fun k st => st = nI k ∧ ∀ j, j < k → r1_ (decide (dg_ r j = 2)) (dr_ (gM_ wl j) ((x : Rat), (y : Rat), (z : Rat))))
    (fun u => ∃ b, Sum.elim (fun (x7 : Int32) => some (1 : Int32)) (fun y => some y) u = some b ∧ yn_ b (Cn_ (gM_ wl) n r ((x : Rat), (y : Rat), (z : Rat)))) n (by omega) (s := (0 : Int32)) ⟨rfl, fun j hj => absurd hj (Nat.not_lt_zero j)⟩ ?_ ?_
  · obtain ⟨u, e1, b, e2, e3⟩ := hlp
    rw [bind_yes e1]
    exact ⟨b, e2, e3⟩
  · rintro k st hk ⟨rfl, h2⟩
    unfold fX6_leadsOn_L18
    have c0 : fX6_at wl (nI k) (0 : Int32) = some (wl (4 * k)) := f_at wl (c := 0) (by omega)
    have c1 : fX6_at wl (nI k) (1 : Int32) = some (wl (4 * k + 1)) := f_at wl (c := 1) (by omega)
    have c2 : fX6_at wl (nI k) (2 : Int32) = some (wl (4 * k + 2)) := f_at wl (c := 2) (by omega)
    rw [if_neg (nI_ge hk (by omega)), bind_yes c0, bind_yes c1, bind_yes c2, bind_yes (f_sign hr (by omega))]
    have hv : wl (4 * k) * iI_ x + wl (4 * k + 1) * iI_ y + wl (4 * k + 2) * iI_ z = iI_ (cl_ (gM_ wl k) (x, y, z)) := by
      rw [← iI_of (wl (4 * k)), ← iI_of (wl (4 * k + 1)), ← iI_of (wl (4 * k + 2)), iI_mul, iI_mul, iI_mul, iI_add, iI_add]
      rfl
    have hab := ab_sm (ab_cl (v := (x, y, z)) (hb k hk) hx hy hz) (by decide)
    have h0 : sm_ 0 := by unfold sm_; omega
    have hdr : ((cl_ (gM_ wl k) (x, y, z) : Int) : Rat) = dr_ (gM_ wl k) ((x : Rat), (y : Rat), (z : Rat)) := cl_dr _ _
    rw [hv]
    have e1 : (iI_ (cl_ (gM_ wl k) (x, y, z)) ≤ 0) ↔ cl_ (gM_ wl k) (x, y, z) ≤ 0 := iI_le hab h0
    have e2 : (0 ≤ iI_ (cl_ (gM_ wl k) (x, y, z))) ↔ 0 ≤ cl_ (gM_ wl k) (x, y, z) := iI_le h0 hab
    have hle := dg_le r k
    have good : r1_ (decide (dg_ r k = 2)) (dr_ (gM_ wl k) ((x : Rat), (y : Rat), (z : Rat))) → ∀ j, j < k + 1 → r1_ (decide (dg_ r j = 2)) (dr_ (gM_ wl j) ((x : Rat), (y : Rat), (z : Rat))) := by
      intro w j hj
      rcases (show j < k ∨ j = k by omega) with c | rfl
      · exact h2 j c
      · exact w
    rcases (show dg_ r k = 0 ∨ dg_ r k = 2 by have := h1 k hk; omega) with q | q
    · rw [if_pos (by rw [q]; rfl)]
      have hcone : r1_ (decide (dg_ r k = 2)) (dr_ (gM_ wl k) ((x : Rat), (y : Rat), (z : Rat))) ↔ cl_ (gM_ wl k) (x, y, z) ≤ 0 := by
        rw [q, show decide (0 = 2) = false from rfl, r1_f, ← hdr]
        constructor
        · intro w; exact Classical.byContradiction fun c => by have := rI_pos.mpr (show 0 < cl_ (gM_ wl k) (x, y, z) by omega); grind
        · intro w
          rcases (show cl_ (gM_ wl k) (x, y, z) < 0 ∨ cl_ (gM_ wl k) (x, y, z) = 0 by omega) with c | c
          · have := rI_neg.mpr c; grind
          · rw [c]; exact Rat.le_refl
      by_cases w : cl_ (gM_ wl k) (x, y, z) ≤ 0
      · left
        rw [if_pos (e1.mpr w)]
        exact ⟨_, rfl, nI_1 k, good (hcone.mpr w)⟩
      · right
        rw [if_neg (fun c => w (e1.mp c))]
        exact ⟨_, rfl, 0, rfl, Or.inr ⟨rfl, fun c => w (hcone.mp (c k hk))⟩⟩
    · rw [if_neg (by rw [q]; decide)]
      have hcone : r1_ (decide (dg_ r k = 2)) (dr_ (gM_ wl k) ((x : Rat), (y : Rat), (z : Rat))) ↔ 0 ≤ cl_ (gM_ wl k) (x, y, z) := by
        rw [q, show decide (2 = 2) = true from rfl, r1_t, ← hdr]
        constructor
        · intro w; exact Classical.byContradiction fun c => by have := rI_neg.mpr (show cl_ (gM_ wl k) (x, y, z) < 0 by omega); grind
        · intro w
          rcases (show 0 < cl_ (gM_ wl k) (x, y, z) ∨ cl_ (gM_ wl k) (x, y, z) = 0 by omega) with c | c
          · have := rI_pos.mpr c; grind
          · rw [c]; exact Rat.le_refl
      by_cases w : 0 ≤ cl_ (gM_ wl k) (x, y, z)
      · left
        rw [if_pos (e2.mpr w)]
        exact ⟨_, rfl, nI_1 k, good (hcone.mpr w)⟩
      · right
        rw [if_neg (fun c => w (e2.mp c))]
        exact ⟨_, rfl, 0, rfl, Or.inr ⟨rfl, fun c => w (hcone.mp (c k hk))⟩⟩
  · rintro st ⟨rfl, h2⟩
    unfold fX6_leadsOn_L18
    rw [if_pos (nI_le (Nat.le_refl n) (by omega))]
    exact ⟨_, rfl, 1, rfl, Or.inl ⟨rfl, h2⟩⟩
theorem m_leadsOn (hn : n ≤ 8) (hb : ∀ k, k < n → bw_ (gM_ wl k)) {r : Nat} (hr : r < 2 ^ 31) (h1 : ∀ k, k < n → dg_ r k ≠ 1) {x y z : Int} (hx : ab_ x 162) (hy : ab_ y 162) (hz : ab_ z 162) :
    ∃ b, fX6_leadsOn (nI n) wl (nI r) (iI_ x) (iI_ y) (iI_ z) = some b ∧ yn_ b (¬ (x = 0 ∧ y = 0 ∧ z = 0) ∧ Cn_ (gM_ wl) n r ((x : Rat), (y : Rat), (z : Rat))) := by
  have h0 : sm_ 0 := by unfold sm_; omega
  have e1 : (iI_ x = 0) ↔ x = 0 := iI_eq (ab_sm hx (by decide)) h0
  have e2 : (iI_ y = 0) ↔ y = 0 := iI_eq (ab_sm hy (by decide)) h0
  have e3 : (iI_ z = 0) ↔ z = 0 := iI_eq (ab_sm hz (by decide)) h0
  obtain ⟨b, e, hyn⟩ := m_leadsL hn hb hr h1 hx hy hz
  unfold fX6_leadsOn
  rw [ld_1, ld_2]
  by_cases c1 : x = 0
  · rw [if_pos (e1.mpr c1)]
    by_cases c2 : y = 0
    · rw [if_pos (e2.mpr c2)]
      by_cases c3 : z = 0
      · rw [if_pos (e3.mpr c3)]
        exact ⟨_, rfl, Or.inr ⟨rfl, fun q => q.1 ⟨c1, c2, c3⟩⟩⟩
      · rw [if_neg (fun q => c3 (e3.mp q))]
        exact ⟨b, e, yn_cg hyn ⟨fun q => ⟨fun w => c3 w.2.2, q⟩, fun q => q.2⟩⟩
    · rw [if_neg (fun q => c2 (e2.mp q))]
      exact ⟨b, e, yn_cg hyn ⟨fun q => ⟨fun w => c2 w.2.1, q⟩, fun q => q.2⟩⟩
  · rw [if_neg (fun q => c1 (e1.mp q))]
    exact ⟨b, e, yn_cg hyn ⟨fun q => ⟨fun w => c1 w.1, q⟩, fun q => q.2⟩⟩
theorem m_either (hn : n ≤ 8) (hb : ∀ k, k < n → bw_ (gM_ wl k)) {r : Nat} (hr : r < 2 ^ 31) (h1 : ∀ k, k < n → dg_ r k ≠ 1) {x y z : Int} (hx : ab_ x 162) (hy : ab_ y 162) (hz : ab_ z 162) :
    ∃ b, fX6_leadsEither (nI n) wl (nI r) (iI_ x) (iI_ y) (iI_ z) = some b ∧ yn_ b (¬ (x = 0 ∧ y = 0 ∧ z = 0) ∧ (Cn_ (gM_ wl) n r ((x : Rat), (y : Rat), (z : Rat)) ∨ Cn_ (gM_ wl) n r (mu_ (-1) ((x : Rat), (y : Rat), (z : Rat))))) := by
  unfold fX6_leadsEither
  obtain ⟨b, e, hb1⟩ := m_leadsOn hn hb hr h1 hx hy hz
  obtain ⟨b2, e2, hb2⟩ := m_leadsOn hn hb hr h1 (ab_neg hx) (ab_neg hy) (ab_neg hz)
  have hneg : ((((-x : Int) : Rat)), (((-y : Int) : Rat)), (((-z : Int) : Rat))) = mu_ (-1) ((x : Rat), (y : Rat), (z : Rat)) := by
    unfold mu_
    simp only [Rat.intCast_neg, Prod.mk.injEq]
    refine ⟨?_, ?_, ?_⟩ <;> grind
  rw [hneg] at hb2
  rw [bind_yes e]
  rcases hb1 with ⟨rfl, q⟩ | ⟨rfl, q⟩
  · rw [if_neg (by decide)]
    exact ⟨_, rfl, Or.inl ⟨rfl, q.1, Or.inl q.2⟩⟩
  · rw [if_pos rfl, iI_neg, iI_neg, iI_neg, bind_yes e2]
    rcases hb2 with ⟨rfl, w⟩ | ⟨rfl, w⟩
    · rw [if_neg (by decide)]
      exact ⟨_, rfl, Or.inl ⟨rfl, fun c => w.1 ⟨by omega, by omega, by omega⟩, Or.inr w.2⟩⟩
    · rw [if_pos rfl]
      refine ⟨_, rfl, Or.inr ⟨rfl, ?_⟩⟩
      rintro ⟨c1, c2 | c2⟩
      · exact q ⟨c1, c2⟩
      · exact w ⟨fun c => c1 ⟨by omega, by omega, by omega⟩, c2⟩
theorem m_pairs (hI : MI_ (gM_ wl) n d) {r : Nat} (hr : r < 2 ^ 31) (h1 : ∀ k, k < n → dg_ r k ≠ 1) {k : Nat} (hk : k < n) (u1 : Int32 × MU_) (u4 : Int32 × (Nat → Int64)) :
    ∃ u, lp_ (fun (st : Int32) => fX6_bounded_L99 (nI k) wl (nI n) (nI r) u1 u4 st) fu_ (0 : Int32) = some u ∧
      ((∃ j, u = .inl j) ∧ (∀ o, o < k → ¬ (cx_ (gM_ wl k) (gM_ wl o) ≠ o3_ ∧ (Cn_ (gM_ wl) n r (cx_ (gM_ wl k) (gM_ wl o)) ∨ Cn_ (gM_ wl) n r (mu_ (-1) (cx_ (gM_ wl k) (gM_ wl o)))))) ∨
       u = .inr (0, u1.2.1, u1.2.2.1, u1.2.2.2.1, u1.2.2.2.2.1, u1.2.2.2.2.2.1, u1.2.2.2.2.2.2.1, u1.2.2.2.2.2.2.2.1, u1.2.2.2.2.2.2.2.2, u4.2) ∧ ∃ o, o < k ∧ cx_ (gM_ wl k) (gM_ wl o) ≠ o3_ ∧ (Cn_ (gM_ wl) n r (cx_ (gM_ wl k) (gM_ wl o)) ∨ Cn_ (gM_ wl) n r (mu_ (-1) (cx_ (gM_ wl k) (gM_ wl o))))) := by
  obtain ⟨hn, hd1, hd, hb, hnv, hz, _⟩ := hI
  refine lp_for (fun o st => st = nI o ∧ ∀ o', o' < o → ¬ (cx_ (gM_ wl k) (gM_ wl o') ≠ o3_ ∧ (Cn_ (gM_ wl) n r (cx_ (gM_ wl k) (gM_ wl o')) ∨ Cn_ (gM_ wl) n r (mu_ (-1) (cx_ (gM_ wl k) (gM_ wl o')))))) _ k (by omega) ⟨rfl, fun o h => absurd h (Nat.not_lt_zero o)⟩ ?_ ?_
  · rintro o st ho ⟨rfl, h2⟩
    unfold fX6_bounded_L99
    have a0 : fX6_at wl (nI k) (0 : Int32) = some (wl (4 * k)) := f_at wl (c := 0) (by omega)
    have a1 : fX6_at wl (nI k) (1 : Int32) = some (wl (4 * k + 1)) := f_at wl (c := 1) (by omega)
    have a2 : fX6_at wl (nI k) (2 : Int32) = some (wl (4 * k + 2)) := f_at wl (c := 2) (by omega)
    have c0 : fX6_at wl (nI o) (0 : Int32) = some (wl (4 * o)) := f_at wl (c := 0) (by omega)
    have c1 : fX6_at wl (nI o) (1 : Int32) = some (wl (4 * o + 1)) := f_at wl (c := 1) (by omega)
    have c2 : fX6_at wl (nI o) (2 : Int32) = some (wl (4 * o + 2)) := f_at wl (c := 2) (by omega)
    rw [if_neg (nI_ge ho (by omega)), bind_yes a1, bind_yes c2, bind_yes a2, bind_yes c1, bind_yes a2, bind_yes c0, bind_yes a0, bind_yes c2, bind_yes a0, bind_yes c1, bind_yes a1, bind_yes c0]
    have hcross : (wl (4 * k + 1) * wl (4 * o + 2) - wl (4 * k + 2) * wl (4 * o + 1) = iI_ (ci_ (gM_ wl k) (gM_ wl o)).1) ∧ (wl (4 * k + 2) * wl (4 * o) - wl (4 * k) * wl (4 * o + 2) = iI_ (ci_ (gM_ wl k) (gM_ wl o)).2.1) ∧ (wl (4 * k) * wl (4 * o + 1) - wl (4 * k + 1) * wl (4 * o) = iI_ (ci_ (gM_ wl k) (gM_ wl o)).2.2) := by
      rw [← iI_of (wl (4 * k)), ← iI_of (wl (4 * k + 1)), ← iI_of (wl (4 * k + 2)), ← iI_of (wl (4 * o)), ← iI_of (wl (4 * o + 1)), ← iI_of (wl (4 * o + 2))]
      simp only [iI_mul, iI_sub]
      refine ⟨?_, ?_, ?_⟩ <;> rfl
    rw [hcross.1, hcross.2.1, hcross.2.2]
    have hab := ab_ci (hb k hk) (hb o (by omega))
    obtain ⟨b, e, hyn⟩ := m_either hn hb hr h1 hab.1 hab.2.1 hab.2.2
    rw [← cx_ci, ← ci_0] at hyn
    rw [bind_yes e]
    rcases hyn with ⟨rfl, q⟩ | ⟨rfl, q⟩
    · right
      rw [if_neg (by decide)]
      exact ⟨_, rfl, Or.inr ⟨rfl, o, ho, q⟩⟩
    · left
      rw [if_pos rfl]
      refine ⟨_, rfl, nI_1 o, fun o' ho' => ?_⟩
      rcases (show o' < o ∨ o' = o by omega) with c | rfl
      · exact h2 o' c
      · exact q
  · rintro st ⟨rfl, h2⟩
    unfold fX6_bounded_L99
    rw [if_pos (nI_le (Nat.le_refl k) (by omega))]
    exact ⟨_, rfl, Or.inl ⟨⟨_, rfl⟩, h2⟩⟩
/-- which ways the reference tries, by the numbers of space -/
def Tr_ (G : Nat → Wl_) (n d r : Nat) : Prop :=
  if d = 1 then Cn_ G n r (1, 0, 0) ∨ Cn_ G n r (mu_ (-1) (1, 0, 0))
  else if d = 2 then ∃ k, k < n ∧ (Cn_ G n r ((((- (G k).2.1 : Int) : Rat)), ((G k).1 : Rat), 0) ∨ Cn_ G n r (mu_ (-1) ((((- (G k).2.1 : Int) : Rat)), ((G k).1 : Rat), 0)))
  else ∃ k o, k < n ∧ o < k ∧ cx_ (G k) (G o) ≠ o3_ ∧ (Cn_ G n r (cx_ (G k) (G o)) ∨ Cn_ G n r (mu_ (-1) (cx_ (G k) (G o))))
theorem Cn_scale {G : Nat → Wl_} {n r : Nat} {v : V3_} {t : Rat} (ht : 0 < t) (h : Cn_ G n r (mu_ t v)) : Cn_ G n r v := by
  intro k hk
  have := h k hk
  rw [dr_mu] at this
  by_cases q : dg_ r k = 2
  · rw [decide_eq_true q, r1_t] at this ⊢
    refine Classical.byContradiction fun c => ?_
    have := Rat.mul_pos ht (show 0 < - dr_ (G k) v by grind)
    grind
  · rw [decide_eq_false q, r1_f] at this ⊢
    refine Classical.byContradiction fun c => ?_
    have := Rat.mul_pos ht (show 0 < dr_ (G k) v by grind)
    grind
theorem Tr_op {G : Nat → Wl_} {n d r : Nat} (hI : MI_ G n d) (hrk : rk_ (hS_ G (2 ^ n - 1)) = d) : Tr_ G n d r ↔ Op_ G n d r := by
  have hI0 := hI
  obtain ⟨hn, hd1, hd3, hb, hnv, hz, _⟩ := hI
  have zz : ((0 : Int) : Rat) = 0 := rfl
  unfold Tr_
  rcases (show d = 1 ∨ d = 2 ∨ d = 3 by omega) with rfl | rfl | rfl
  · rw [if_pos rfl]
    constructor
    · rintro (h | h)
      · refine ⟨(1, 0, 0), by unfold o3_; decide +kernel, fun j hj hdj => ?_, h⟩
        rcases (show j = 1 ∨ j = 2 by omega) with rfl | rfl <;> rfl
      · refine ⟨mu_ (-1) (1, 0, 0), by unfold o3_ mu_; decide +kernel, fun j hj hdj => ?_, h⟩
        rcases (show j = 1 ∨ j = 2 by omega) with rfl | rfl <;> (unfold xc_ mu_; decide +kernel)
    · rintro ⟨u, hu, h1, h2⟩
      have g1 := h1 1 (by decide) (by decide)
      have g2 := h1 2 (by decide) (by decide)
      unfold xc_ at g1 g2
      simp only [show ¬ (1 = 0) by decide, show ¬ (2 = 0) by decide, show ¬ (2 = 1) by decide, if_false, if_true] at g1 g2
      have hu1 : u.1 ≠ 0 := fun q => hu (Prod.ext q (Prod.ext g1 g2))
      rcases (show u.1 < 0 ∨ 0 < u.1 by grind) with q | q
      · right
        refine Cn_scale (t := - u.1) (by grind) ?_
        have : mu_ (- u.1) (mu_ (-1) (1, 0, 0)) = u := by
          unfold mu_
          refine Prod.ext ?_ (Prod.ext ?_ ?_) <;> (dsimp only; grind)
        rw [this]; exact h2
      · left
        refine Cn_scale (t := u.1) q ?_
        have : mu_ u.1 (1, 0, 0) = u := by
          unfold mu_
          refine Prod.ext ?_ (Prod.ext ?_ ?_) <;> (dsimp only; grind)
        rw [this]; exact h2
  · rw [if_neg (by decide), if_pos rfl]
    have hne : ∀ k, k < n → ¬ ((G k).1 = 0 ∧ (G k).2.1 = 0) := by
      intro k hk q
      have z2 := hz k hk 2 (by decide) (by decide)
      simp only [cf_] at z2
      simp at z2
      exact nv_int (hnv k hk) ⟨q.1, q.2, z2⟩
    constructor
    · rintro ⟨k, hk, h⟩
      have hv : ((((- (G k).2.1 : Int) : Rat)), ((G k).1 : Rat), (0 : Rat)) ≠ o3_ := by
        intro q
        unfold o3_ at q
        simp only [Prod.mk.injEq] at q
        have q1 := rI_zero.mp q.1
        have q2 := rI_zero.mp q.2.1
        exact hne k hk ⟨q2, by omega⟩
      rcases h with h | h
      · refine ⟨_, hv, fun j hj hdj => ?_, h⟩
        have : j = 2 := by omega
        subst this; rfl
      · refine ⟨_, mu_ne (by decide +kernel) hv, fun j hj hdj => ?_, h⟩
        have : j = 2 := by omega
        subst this
        unfold xc_ mu_
        simp only [show ¬ (2 = 0) by decide, show ¬ (2 = 1) by decide, if_false]
        grind
    · intro hO
      obtain ⟨x, y, hx, hy, hc, hcoord, hcone⟩ := open_line hI0 hrk hO
      have hc2 := hcoord 2 (by decide) (by decide)
      unfold xc_ at hc2
      simp only [show ¬ (2 = 0) by decide, show ¬ (2 = 1) by decide, if_false] at hc2
      -- a wall and the axis plane
      have pair : ∀ k, k < n → ∀ v : V3_, v = ((((- (G k).2.1 : Int) : Rat)), ((G k).1 : Rat), (0 : Rat)) ∨ v = mu_ (-1) ((((- (G k).2.1 : Int) : Rat)), ((G k).1 : Rat), (0 : Rat)) → (Cn_ G n r v ∨ Cn_ G n r (mu_ (-1) v)) → ∃ k, k < n ∧ (Cn_ G n r ((((- (G k).2.1 : Int) : Rat)), ((G k).1 : Rat), 0) ∨ Cn_ G n r (mu_ (-1) ((((- (G k).2.1 : Int) : Rat)), ((G k).1 : Rat), 0))) := by
        rintro k hk v (rfl | rfl) h
        · exact ⟨k, hk, h⟩
        · rcases h with h | h
          · exact ⟨k, hk, Or.inr h⟩
          · refine ⟨k, hk, Or.inl ((Cn_cg (fun j _ => ?_)).mp h)⟩
            rw [dr_mu, dr_mu]; grind
      have ax2 : ∀ j, j < 3 → 2 ≤ j → aw_ j = (0, 0, 1, 0) := fun j h1 h2 => by
        have : j = 2 := by omega
        subst this; rfl
      have one : ((1 : Int) : Rat) = 1 := rfl
      rcases hx with hx | ⟨j, hj, hdj, rfl⟩
      · obtain ⟨k, hk, rfl⟩ := wl_mem.mp hx
        have zk := hz k hk 2 (by decide) (by decide)
        simp only [cf_] at zk
        simp at zk
        rcases hy with hy | ⟨j, hj, hdj, rfl⟩
        · exfalso
          obtain ⟨o, ho, rfl⟩ := wl_mem.mp hy
          have zo := hz o ho 2 (by decide) (by decide)
          simp only [cf_] at zo
          simp at zo
          apply hc
          have e1 : (cx_ (G k) (G o)).1 = 0 := by simp only [cx_, zk, zo]; grind
          have e2 : (cx_ (G k) (G o)).2.1 = 0 := by simp only [cx_, zk, zo]; grind
          exact Prod.ext e1 (Prod.ext e2 hc2)
        · rw [ax2 j hj hdj] at hcone
          refine pair k hk _ (Or.inr ?_) hcone
          unfold mu_
          simp only [cx_, Rat.intCast_neg, zz, one, Prod.mk.injEq]
          refine ⟨?_, ?_, ?_⟩ <;> grind
      · rcases hy with hy | ⟨j2, hj2, hdj2, rfl⟩
        · obtain ⟨k, hk, rfl⟩ := wl_mem.mp hy
          rw [ax2 j hj hdj] at hcone
          refine pair k hk _ (Or.inl ?_) hcone
          simp only [cx_, Rat.intCast_neg, zz, one, Prod.mk.injEq]
          refine ⟨?_, ?_, ?_⟩ <;> grind
        · exfalso
          apply hc
          rw [ax2 j hj hdj, ax2 j2 hj2 hdj2]
          exact cx_self _
  · rw [if_neg (by decide), if_neg (by decide)]
    constructor
    · rintro ⟨k, o, hk, ho, hc, h | h⟩
      · exact ⟨_, hc, fun j hj hdj => by omega, h⟩
      · exact ⟨_, mu_ne (by decide +kernel) hc, fun j hj hdj => by omega, h⟩
    · intro hO
      obtain ⟨x, y, hx, hy, hc, _, hcone⟩ := open_line hI0 hrk hO
      rcases hx with hx | ⟨j, hj, hdj, _⟩
      · rcases hy with hy | ⟨j, hj, hdj, _⟩
        · obtain ⟨k, hk, rfl⟩ := wl_mem.mp hx
          obtain ⟨o, ho, rfl⟩ := wl_mem.mp hy
          rcases (show o < k ∨ o = k ∨ k < o by omega) with q | rfl | q
          · exact ⟨k, o, hk, q, hc, hcone⟩
          · exact absurd (cx_self _) hc
          · refine ⟨o, k, ho, q, cx_anti hc, ?_⟩
            have h1 : ∀ j, j < n → dr_ (G j) (cx_ (G o) (G k)) = dr_ (G j) (mu_ (-1) (cx_ (G k) (G o))) := fun j _ => by rw [dr_anti, dr_mu]; grind
            have h2 : ∀ j, j < n → dr_ (G j) (mu_ (-1) (cx_ (G o) (G k))) = dr_ (G j) (cx_ (G k) (G o)) := fun j _ => by rw [dr_mu, dr_anti]; grind
            rcases hcone with z | z
            · exact Or.inr ((Cn_cg h2).mpr z)
            · exact Or.inl ((Cn_cg h1).mpr z)
        · omega
      · omega
end BY
