/-! the cut finds all faces -/
theorem cor_uniq {x y z : Wl_} (h : dt_ x y z ≠ 0) {p : V3_} (h1 : ev_ x p = 0) (h2 : ev_ y p = 0) (h3 : ev_ z p = 0) : p = cor_ x y z := by
  obtain ⟨c1, c2, c3⟩ := cor_on x y z h
  have d1 : dr_ x (sb_ p (cor_ x y z)) = 0 := by rw [dr_sb, h1, c1]; grind
  have d2 : dr_ y (sb_ p (cor_ x y z)) = 0 := by rw [dr_sb, h2, c2]; grind
  have d3 : dr_ z (sb_ p (cor_ x y z)) = 0 := by rw [dr_sb, h3, c3]; grind
  have hc : cx_ x y ≠ o3_ := fun q => h (dt_0 q z)
  obtain ⟨t, ht⟩ := along_cx d1 d2 hc
  rw [ht, dr_mu] at d3
  have t0 : t = 0 := (Rat.mul_eq_zero.mp d3).resolve_right h
  rw [t0] at ht
  simp only [sb_, mu_, Prod.mk.injEq] at ht
  obtain ⟨e1, e2, e3⟩ := ht
  have f1 : p.1 = (cor_ x y z).1 := by grind
  have f2 : p.2.1 = (cor_ x y z).2.1 := by grind
  have f3 : p.2.2 = (cor_ x y z).2.2 := by grind
  exact Prod.ext f1 (Prod.ext f2 f3)
theorem dt_12 (x y z : Wl_) : dt_ y x z = - dt_ x y z := by simp only [dt_, dr_, cx_]; grind
theorem dt_23 (x y z : Wl_) : dt_ x z y = - dt_ x y z := by simp only [dt_, dr_, cx_]; grind
theorem dt_same1 (x z : Wl_) : dt_ x x z = 0 := by simp only [dt_, dr_, cx_]; grind
theorem dt_same2 (x z : Wl_) : dt_ x z z = 0 := by simp only [dt_, dr_, cx_]; grind
theorem dt_same3 (x z : Wl_) : dt_ x z x = 0 := by simp only [dt_, dr_, cx_]; grind
theorem cor_12 {x y z : Wl_} (h : dt_ x y z ≠ 0) : cor_ y x z = cor_ x y z := by
  obtain ⟨c1, c2, c3⟩ := cor_on y x z (by rw [dt_12]; grind)
  exact cor_uniq h c2 c1 c3
theorem cor_23 {x y z : Wl_} (h : dt_ x y z ≠ 0) : cor_ x z y = cor_ x y z := by
  obtain ⟨c1, c2, c3⟩ := cor_on x z y (by rw [dt_23]; grind)
  exact cor_uniq h c1 c3 c2
theorem mark_3 {P : Nat → Wl_} {M : Nat} {T : V3_ → Prop} (h : ∀ i j k, i < j → j < k → k < M → dt_ (P i) (P j) (P k) ≠ 0 → T (cor_ (P i) (P j) (P k))) :
    ∀ i j k, i < M → j < M → k < M → dt_ (P i) (P j) (P k) ≠ 0 → T (cor_ (P i) (P j) (P k)) := by
  have h1 : ∀ i j k, i < j → i < M → j < M → k < M → dt_ (P i) (P j) (P k) ≠ 0 → T (cor_ (P i) (P j) (P k)) := by
    intro i j k hij hi hj hk hd
    rcases (show j < k ∨ j = k ∨ k < j by omega) with q | rfl | q
    · exact h i j k hij q hk hd
    · exact absurd (dt_same2 _ _) hd
    · have hd2 : dt_ (P i) (P k) (P j) ≠ 0 := by rw [dt_23]; grind
      rw [← cor_23 hd]
      rcases (show i < k ∨ i = k ∨ k < i by omega) with w | rfl | w
      · exact h i k j w q hj hd2
      · exact absurd (dt_same1 _ _) hd2
      · rw [← cor_12 hd2]
        exact h k i j w hij hj (by rw [dt_12]; grind)
  intro i j k hi hj hk hd
  rcases (show i < j ∨ i = j ∨ j < i by omega) with q | rfl | q
  · exact h1 i j k q hi hj hk hd
  · exact absurd (dt_same1 _ _) hd
  · rw [← cor_12 hd]
    exact h1 j i k q hj hi hk (by rw [dt_12]; grind)
theorem dr_anti (z x y : Wl_) : dr_ z (cx_ y x) = - dr_ z (cx_ x y) := by simp only [dr_, cx_]; grind
theorem cx_anti {x y : Wl_} (h : cx_ x y ≠ o3_) : cx_ y x ≠ o3_ := fun q => h (cx_swap q)
/-- the axis planes behind the walls -/
def AX_ (G : Nat → Wl_) : Prop := G 8 = (1, 0, 0, 0) ∧ G 9 = (0, 1, 0, 0) ∧ G 10 = (0, 0, 1, 0)
/-- how many planes cross -/
noncomputable def mM_ (G : Nat → Wl_) (n : Nat) : Nat := if rk_ (hS_ G (2 ^ n - 1)) = 3 then n else n + 3
theorem hS_all {G : Nat → Wl_} {n : Nat} {x : Wl_} : hS_ G (2 ^ n - 1) x ↔ x ∈ wl_ G n := by
  rw [wl_mem]
  unfold hS_
  simp only [Nat.testBit_two_pow_sub_one, decide_eq_true_eq]
theorem X_R3 {G : Nat → Wl_} {n : Nat} (hA : AX_ G) : R3_ (fun x => ∃ i, i < mM_ G n ∧ x = G (ix_ n i)) := by
  unfold mM_
  by_cases h : rk_ (hS_ G (2 ^ n - 1)) = 3
  · rw [if_pos h]
    obtain ⟨x, y, z, hx, hy, hz, hd⟩ := rk_inv3 h
    have up : ∀ w, hS_ G (2 ^ n - 1) w → ∃ i, i < n ∧ w = G (ix_ n i) := by
      intro w hw
      obtain ⟨k, hk, rfl⟩ := wl_mem.mp (hS_all.mp hw)
      exact ⟨k, hk, by rw [ix_, if_pos hk]⟩
    exact ⟨x, y, z, up x hx, up y hy, up z hz, hd⟩
  · rw [if_neg h]
    refine ⟨G 8, G 9, G 10, ⟨n, by omega, ?_⟩, ⟨n + 1, by omega, ?_⟩, ⟨n + 2, by omega, ?_⟩, ?_⟩
    · rw [ix_, if_neg (by omega)]; simp
    · rw [ix_, if_neg (by omega), show n + 1 - n = 1 by omega]
    · rw [ix_, if_neg (by omega), show n + 2 - n = 2 by omega]
    · rw [hA.1, hA.2.1, hA.2.2]; decide +kernel
section CU
variable {G : Nat → Wl_} {n : Nat}
theorem all_marked (hA : AX_ G) (hnv : ∀ k, k < n → nv_ (G k) ≠ o3_) {fo0 li : Nat} {cm0 mk0 re0 la lb mk : Nat → Int32} (hP : CP_ G n (mM_ G n) (mM_ G n) (mM_ G n + 1) fo0 li cm0 mk0 re0 la lb)
    (hmo : ∀ r, mkd_ mk0 r = true → mkd_ mk r = true) (hclo : ∀ g, mkd_ mk (rp_ G n g) = true → CLO_ G n li la lb mk g) : ∀ p, mkd_ mk (rp_ G n p) = true := by
  obtain ⟨hC, hL, hli, hA4⟩ := hP
  have hnM : n ≤ mM_ G n := by unfold mM_; split <;> omega
  refine climb_all (A := wl_ G n) (X := fun x => ∃ i, i < mM_ G n ∧ x = G (ix_ n i)) (Rch := fun p => mkd_ mk (rp_ G n p) = true) ⟨?_, ?_, ?_⟩ ?_ (X_R3 hA) ?_
  · intro p q hpq hp
    rw [← rp_eq.mpr hpq]; exact hp
  · rintro x y z ⟨i, hi, rfl⟩ ⟨j, hj, rfl⟩ ⟨k, hk, rfl⟩ hd
    exact mark_3 (P := fun i => G (ix_ n i)) (M := mM_ G n) (T := fun p => mkd_ mk (rp_ G n p) = true) (fun i j k h1 h2 h3 hd => hmo _ ((hA4 i j h1 (by omega) (Or.inl (by omega))).2 k h2 h3 hd)) i j k hi hj hk hd
  · rintro g hg x y ⟨i, hi, rfl⟩ ⟨j, hj, rfl⟩ hc ⟨w, hw, hdw⟩ hr c hcc p hp1 hp2
    have hrow : ∀ v c', (∀ z, c' * dr_ z v = c * dr_ z (cx_ (G (ix_ n i)) (G (ix_ n j)))) → rp_ G n p = rn_ (mv_ G g v c') n := by
      intro v c' he
      refine rn_cg (fun k hk => ?_)
      unfold mv_ sn_
      by_cases q : ev_ (G k) g = 0
      · rw [if_pos q, he]; exact hp2 _ (wl_get hk) q
      · rw [if_neg q]; exact hp1 _ (wl_get hk) q
    obtain ⟨kw, hkw, rfl⟩ := wl_mem.mp hw
    rcases (show i < j ∨ i = j ∨ j < i by omega) with q | rfl | q
    · obtain ⟨l, hl, l1, l2⟩ := (hA4 i j q hj (Or.inl hi)).1 hc ⟨kw, hkw, hdw⟩
      have := hclo g hg l hl _ l1 l2 hr c hcc
      rw [← hrow _ c (fun z => rfl)] at this
      exact this
    · exact absurd (cx_self _) hc
    · obtain ⟨l, hl, l1, l2⟩ := (hA4 j i q hi (Or.inl hj)).1 (cx_anti hc) ⟨kw, hkw, by rw [dr_anti]; grind⟩
      have hr' : rk_ (fun z => On_ (wl_ G n) g z ∧ dr_ z (cx_ (G (ix_ n j)) (G (ix_ n i))) = 0) + 1 = rk_ (On_ (wl_ G n) g) := by
        rw [← hr]
        congr 1
        refine rk_cg (fun z => ?_)
        rw [dr_anti]
        constructor
        · rintro ⟨a, b⟩; exact ⟨a, by grind⟩
        · rintro ⟨a, b⟩; exact ⟨a, by grind⟩
      have := hclo g hg l hl _ l1 l2 hr' (-c) (by rcases hcc with rfl | rfl; exact Or.inr rfl; exact Or.inl (by grind))
      rw [← hrow _ (-c) (fun z => by rw [dr_anti]; grind)] at this
      exact this
  · intro x hx
    obtain ⟨k, hk, rfl⟩ := wl_mem.mp hx
    exact ⟨k, by omega, by rw [ix_, if_pos hk]⟩
  · intro x hx
    obtain ⟨k, hk, rfl⟩ := wl_mem.mp hx
    exact hnv k hk
/-- the search from all that is reached -/
theorem f_search (hn : n ≤ 8) {vth la lb : Nat → Int32} (hT : TH_ vth) (hD : DI_ G n) {M li : Nat} (hL : LI_ G n M li la lb) (hli : li ≤ 55)
    (u5 : ((Nat → Int32) × (Nat → Int32) × (Nat → Int32) × (Nat → Int32) × Int32 × Int32 × Int32)) (hrk : ∀ h, h < 2 ^ n → u5.1 h = nI (rk_ (hS_ G h)))
    (u7 : (Int32 × Int32 × (Nat → Int32) × (Nat → Int32) × (Nat → Int32) × (Nat → Int32) × (Nat → Int32) × Int32 × Int32 × Int32 × Int32 × Int32 × Int32 × Int32 × Int32 × Int32)) (e1 : u7.2.1 = nI li) (e2 : u7.2.2.2.2.2.1 = la) (e3 : u7.2.2.2.2.2.2.1 = lb)
    {fo : Nat} {cm mk re : Nat → Int32} (h : CS_ G n fo cm mk re) :
    ∃ i fo' cm' mk' re', lp_ (fun (st : (Int32 × Int32 × (Nat → Int32) × (Nat → Int32) × (Nat → Int32))) => fX1_cutAnew_L38 u7 vth u5 st.1 st.2.1 st.2.2.1 st.2.2.2.1 st.2.2.2.2) fu_ ((0 : Int32), nI fo, cm, mk, re) = some (i, nI fo', cm', mk', re') ∧
      CS_ G n fo' cm' mk' re' ∧ (∀ r, mkd_ mk r = true → mkd_ mk' r = true) ∧ ∀ g, mkd_ mk' (rp_ G n g) = true → CLO_ G n li la lb mk' g := by
  have hlp := lp_for (body := fun (st : (Int32 × Int32 × (Nat → Int32) × (Nat → Int32) × (Nat → Int32))) => fX1_cutAnew_L38 u7 vth u5 st.1 st.2.1 st.2.2.1 st.2.2.2.1 st.2.2.2.2)
    (fun i st => st.1 = nI i ∧ ∃ fo', st.2.1 = nI fo' ∧ CS_ G n fo' st.2.2.1 st.2.2.2.1 st.2.2.2.2 ∧ MO_ fo mk re fo' st.2.2.2.1 st.2.2.2.2 ∧ ∀ i', i' < i → i' < fo' → ∀ g, st.2.2.2.2 i' = nI (sp_ (sn_ G g) n) → CLO_ G n li la lb st.2.2.2.1 g)
    (fun st => ∃ fo', st.2.1 = nI fo' ∧ CS_ G n fo' st.2.2.1 st.2.2.2.1 st.2.2.2.2 ∧ MO_ fo mk re fo' st.2.2.2.1 st.2.2.2.2 ∧ ∀ i', i' < fo' → ∀ g, st.2.2.2.2 i' = nI (sp_ (sn_ G g) n) → CLO_ G n li la lb st.2.2.2.1 g) 577 (by decide) (s := ((0 : Int32), nI fo, cm, mk, re))
    ⟨rfl, fo, rfl, h, MO_refl _ _ _, fun i' hi => absurd hi (Nat.not_lt_zero _)⟩ ?_ ?_
  · obtain ⟨⟨i, f', cm', mk', re'⟩, h1, fo', h2, h3, h4, h5⟩ := hlp
    dsimp only at h2 h3 h4 h5
    subst h2
    refine ⟨i, fo', cm', mk', re', h1, h3, h4.1, ?_⟩
    intro g hg
    obtain ⟨i', hi', e⟩ := h3.2.2.2.1 g hg
    exact h5 i' hi' g e
  · rintro i ⟨i0, f', cm', mk', re'⟩ hi ⟨g1, fo', g2, hC, hMo, hA⟩
    dsimp only at g1 g2 hC hMo hA ⊢
    subst g1 g2
    have h577 := CS_577 hn hC
    unfold fX1_cutAnew_L38
    rw [if_neg (show ¬ (577 : Int32) ≤ nI i from nI_ge (a := i) (b := 577) hi (by decide))]
    by_cases q : fo' ≤ i
    · right
      rw [if_pos (nI_le q (by omega))]
      exact ⟨_, rfl, fo', rfl, hC, hMo, fun i' hi' => hA i' (by omega) hi'⟩
    · left
      rw [if_neg (nI_ge (show i < fo' by omega) (by omega)), ck_yes (in_R_nI hi (by decide)), nI_clamp (by omega), e1, e2, e3]
      obtain ⟨g, hg1, hg2⟩ := hC.2.2.1 i (by omega)
      rw [hg1]
      obtain ⟨fo2, cm2, mk2, re2, e, hC2, hM2, hcl⟩ := f_moveFrom hn hT hD hL hli hrk hC g
      rw [bind_yes e, nI_1]
      refine ⟨_, rfl, rfl, fo2, rfl, hC2, MO_trans hMo hM2, ?_⟩
      intro i' hi' hi2 g' hg'
      dsimp only at hg' ⊢
      rw [hM2.2.2 i' (by omega)] at hg'
      rcases (show i' < i ∨ i' = i by omega) with w | rfl
      · exact CLO_mo (hA i' w (by omega) g' hg') hM2.1
      · have he : sp_ (sn_ G g) n = sp_ (sn_ G g') n := by
          have l1 := sp_lt (s := sn_ G g) hn
          have l2 := sp_lt (s := sn_ G g') hn
          exact (nI_eq (by omega) (by omega)).mp (hg1.symm.trans hg')
        have hs : ∀ k, k < n → sn_ G g k = sn_ G g' k := by
          have hm := f_onMask (s := sn_ G g) hn
          rw [he, f_onMask hn] at hm
          have hm2 := f_aboveMask (s := sn_ G g) hn
          rw [he, f_aboveMask hn] at hm2
          have a1 := bn_lt8 (fun k => decide (sn_ G g k = 1)) hn
          have a2 := bn_lt8 (fun k => decide (sn_ G g' k = 1)) hn
          have a3 := bn_lt8 (fun k => decide (sn_ G g k = 2)) hn
          have a4 := bn_lt8 (fun k => decide (sn_ G g' k = 2)) hn
          have b1 := bn_eq.mp ((nI_eq (by omega) (by omega)).mp (Option.some.inj hm))
          have b2 := bn_eq.mp ((nI_eq (by omega) (by omega)).mp (Option.some.inj hm2))
          intro k hk
          have c1 := b1 k hk
          have c2 := b2 k hk
          simp only [decide_eq_decide] at c1 c2
          have d1 := sn_le G g k
          have d2 := sn_le G g' k
          omega
        intro l hl v w2 w0 hr c hc
        have hon : ∀ z, On_ (wl_ G n) g z ↔ On_ (wl_ G n) g' z := On_cg (fun x hx => by obtain ⟨k, hk, rfl⟩ := wl_mem.mp hx; exact hs k hk)
        have hr' : rk_ (fun z => On_ (wl_ G n) g z ∧ dr_ z v = 0) + 1 = rk_ (On_ (wl_ G n) g) := by
          rw [rk_cg hon, ← hr]
          congr 1
          exact rk_cg (fun z => by rw [hon z])
        have := hcl l hl v w2 w0 hr' c hc
        rw [rn_cg (t := mv_ G g' v c) (fun k hk => by
          unfold mv_
          have := hs k hk
          unfold sn_ at this
          by_cases w : ev_ (G k) g = 0
          · rw [if_pos w, if_pos (sg_eq1.mp (by rw [← this]; exact sg_eq1.mpr w))]
          · rw [if_neg w, if_neg (fun q => w (sg_eq1.mp (by rw [this]; exact sg_eq1.mpr q))), this])] at this
        exact this
  · rintro ⟨i0, f', cm', mk', re'⟩ ⟨g1, fo', g2, hC, hMo, hA⟩
    dsimp only at g1 g2 hC hMo hA ⊢
    subst g1 g2
    have h577 := CS_577 hn hC
    unfold fX1_cutAnew_L38
    rw [if_pos (show (577 : Int32) ≤ nI 577 by decide)]
    exact ⟨_, rfl, fo', rfl, hC, hMo, fun i' hi' => hA i' (by omega) hi'⟩
end CU
