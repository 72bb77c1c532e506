/-! the rows in order, the heaps with a place in common, the whole cut -/
theorem f_fill (vmk : Nat → Int32) : ∃ mk, fJ7_fill_53178 vmk 0 = some mk ∧ ∀ i, i < 206 → mk i = 0 := by
  unfold fJ7_fill_53178
  have hlp := lp_for (body := fun (st : (Int32 × (Nat → Int32))) => fJ7_fill_53178_L5 0 st.1 st.2) (fun k st => st.1 = nI k ∧ ∀ i, i < k → st.2 i = 0) (fun st => ∀ i, i < 206 → st.2 i = 0) 206 (by decide) (s := ((0 : Int32), vmk)) ⟨rfl, fun i hi => absurd hi (Nat.not_lt_zero i)⟩ ?_ ?_
  · obtain ⟨r, h1, h2⟩ := hlp
    rw [bind_yes h1]
    exact ⟨_, rfl, h2⟩
  · rintro k ⟨i, mk⟩ hk ⟨h1, h2⟩
    dsimp only at h1 h2 ⊢
    subst h1
    left
    unfold fJ7_fill_53178_L5
    rw [if_neg (show ¬ (206 : Int32) ≤ nI k from nI_ge (a := k) (b := 206) hk (by decide)), ck_yes (in_R_nI hk (by decide)), nI_clamp (by omega), nI_1]
    refine ⟨_, rfl, rfl, fun i hi => ?_⟩
    dsimp only
    rcases (show i = k ∨ i < k by omega) with rfl | q
    · exact pk_us
    · rw [pk_un (by omega)]; exact h2 i q
  · rintro ⟨i, mk⟩ ⟨h1, h2⟩
    dsimp only at h1 h2 ⊢
    subst h1
    unfold fJ7_fill_53178_L5
    rw [if_pos (show (206 : Int32) ≤ nI 206 by decide)]
    exact ⟨_, rfl, h2⟩
theorem f_forget (vcm : Nat → Int32) : ∃ cm, fX2_forgetCommon vcm = some cm ∧ ∀ i, i < 256 → cm i = 0 := by
  unfold fX2_forgetCommon
  have hlp := lp_for (body := fun (st : (Int32 × (Nat → Int32))) => fX2_forgetCommon_L2 st.1 st.2) (fun k st => st.1 = nI k ∧ ∀ i, i < k → st.2 i = 0) (fun st => ∀ i, i < 256 → st.2 i = 0) 256 (by decide) (s := ((0 : Int32), vcm)) ⟨rfl, fun i hi => absurd hi (Nat.not_lt_zero i)⟩ ?_ ?_
  · obtain ⟨r, h1, h2⟩ := hlp
    rw [bind_yes h1]
    exact ⟨_, rfl, h2⟩
  · rintro k ⟨i, mk⟩ hk ⟨h1, h2⟩
    dsimp only at h1 h2 ⊢
    subst h1
    left
    unfold fX2_forgetCommon_L2
    rw [if_neg (show ¬ (256 : Int32) ≤ nI k from nI_ge (a := k) (b := 256) hk (by decide)), ck_yes (in_R_nI hk (by decide)), nI_clamp (by omega), nI_1]
    refine ⟨_, rfl, rfl, fun i hi => ?_⟩
    dsimp only
    rcases (show i = k ∨ i < k by omega) with rfl | q
    · rw [pk_us]; rfl
    · rw [pk_un (by omega)]; exact h2 i q
  · rintro ⟨i, mk⟩ ⟨h1, h2⟩
    dsimp only at h1 h2 ⊢
    subst h1
    unfold fX2_forgetCommon_L2
    rw [if_pos (show (256 : Int32) ≤ nI 256 by decide)]
    exact ⟨_, rfl, h2⟩
theorem CS_0 (G : Nat → Wl_) {n : Nat} (hn : n ≤ 8) {cm mk : Nat → Int32} (re : Nat → Int32) (hc : ∀ i, i < 256 → cm i = 0) (hm : ∀ i, i < 206 → mk i = 0) : CS_ G n 0 cm mk re := by
  have h0 : ∀ r, r < 6561 → mkd_ mk r = false := by
    intro r hr
    unfold mkd_
    rw [hm _ (by omega), b_0]
  refine ⟨(fb_ct_zero.mpr h0).symm, fun r hr h => ?_, fun i hi => absurd hi (Nat.not_lt_zero i), fun p hp => ?_, fun h hh => ?_⟩
  · rw [h0 r hr] at h; cases h
  · rw [h0 _ (rp_6561 G hn p)] at hp; cases hp
  · refine ⟨Or.inl (hc h hh), fun q => ?_, ?_⟩
    · rw [hc h hh] at q; cases q
    · rintro ⟨r, h1, h2, _⟩
      rw [h0 r h1] at h2; cases h2
section CV
variable {G : Nat → Wl_} {n : Nat}
theorem hS_row (hn : n ≤ 8) {r : Nat} (hr : r < 3 ^ n) : mk_ 8 r 1 < 2 ^ n := by
  rw [mk_dig hn hr (by decide)]; exact bn_lt _ n
theorem f_sortRows (hn : n ≤ 8) {d fo : Nat} {rk mk : Nat → Int32} (hfo : fo = fb_ct (mkd_ mk) 6561) (h577 : fo ≤ 577) (hF : ∀ r, r < 6561 → mkd_ mk r = true → Fa_ G n r) (hrk : ∀ h, h < 2 ^ n → rk h = nI (rk_ (hS_ G h))) (ro wi : Nat → Int32) :
    ∃ ro' wi', fX1_sortRows (nI d) (nI fo) rk mk ro wi = some (ro', wi') ∧ ∀ r, r < 6561 → mkd_ mk r = true → ro' (fb_ct (mkd_ mk) r) = nI r ∧ wi' (fb_ct (mkd_ mk) r) = nI d - nI (rk_ (hS_ G (mk_ 8 r 1))) := by
  have h2n : 2 ^ n ≤ 256 := Nat.pow_le_pow_right (n := 2) (j := 8) (by decide) hn
  unfold fX1_sortRows
  have hlp := lp_for (body := fun (st : (Int32 × Int32 × (Nat → Int32) × (Nat → Int32))) => fX1_sortRows_L4 (nI fo) mk (nI d) rk st.1 st.2.1 st.2.2.1 st.2.2.2)
    (fun k st => st.1 = nI k ∧ st.2.1 = nI (fb_ct (mkd_ mk) k) ∧ ∀ r, r < k → mkd_ mk r = true → st.2.2.1 (fb_ct (mkd_ mk) r) = nI r ∧ st.2.2.2 (fb_ct (mkd_ mk) r) = nI d - nI (rk_ (hS_ G (mk_ 8 r 1))))
    (fun st => ∀ r, r < 6561 → mkd_ mk r = true → st.2.2.1 (fb_ct (mkd_ mk) r) = nI r ∧ st.2.2.2 (fb_ct (mkd_ mk) r) = nI d - nI (rk_ (hS_ G (mk_ 8 r 1)))) 6561 (by decide) (s := ((0 : Int32), (0 : Int32), ro, wi))
    ⟨rfl, rfl, fun r hr => absurd hr (Nat.not_lt_zero r)⟩ ?_ ?_
  · obtain ⟨r, h1, h2⟩ := hlp
    rw [bind_yes h1]
    exact ⟨_, _, rfl, h2⟩
  · rintro k ⟨i, j, ro', wi'⟩ hk ⟨h1, h2, h3⟩
    dsimp only at h1 h2 h3 ⊢
    subst h1 h2
    have hle : fb_ct (mkd_ mk) k ≤ fo := by rw [hfo]; exact fb_ct_mono _ (by omega)
    unfold fX1_sortRows_L4
    rw [if_neg (show ¬ (6561 : Int32) ≤ nI k from nI_ge (a := k) (b := 6561) hk (by decide))]
    by_cases q : fo ≤ fb_ct (mkd_ mk) k
    · right
      rw [if_pos (nI_le q (by omega))]
      refine ⟨_, rfl, fun r hr hm => ?_⟩
      by_cases w : r < k
      · exact h3 r w hm
      · exfalso
        have m1 := fb_ct_mono (mkd_ mk) (show k ≤ r by omega)
        have m2 := fb_ct_mono (mkd_ mk) (show r + 1 ≤ 6561 by omega)
        rw [fb_ct_succ, hm] at m2
        simp only [if_true] at m2
        omega
    · left
      rw [if_neg (nI_ge (show fb_ct (mkd_ mk) k < fo by omega) (by omega)), bind_yes (f_isMarked mk hk)]
      cases hm : mkd_ mk k with
      | false =>
        simp only [Bool.false_eq_true, if_false, if_true]
        refine ⟨_, rfl, nI_1 k, by rw [fb_ct_succ, hm]; simp, fun r hr hmr => ?_⟩
        rcases (show r < k ∨ r = k by omega) with w | rfl
        · exact h3 r w hmr
        · rw [hm] at hmr; cases hmr
      | true =>
        have hr3 := Fa_lt (hF k hk hm)
        have hmk := hS_row hn hr3
        simp only [if_true]
        rw [if_neg (show ¬ (1 : Int32) = 0 by decide), ck_yes (in_R_nI (show fb_ct (mkd_ mk) k < 577 by omega) (by decide)), show (1 : Int32) = nI 1 from rfl, bind_yes (f_maskOf (by omega) (by decide)), ck_yes (in_R_nI (show mk_ 8 k 1 < 256 by omega) (by decide)), ck_yes (in_R_nI (show fb_ct (mkd_ mk) k < 577 by omega) (by decide)), nI_clamp (by omega), nI_clamp (by omega), hrk _ hmk]
        refine ⟨_, rfl, nI_1 k, by rw [fb_ct_succ, hm]; simp only [if_true]; exact nI_1 _, fun r hr hmr => ?_⟩
        dsimp only
        rcases (show r < k ∨ r = k by omega) with w | rfl
        · have m2 := fb_ct_mono (mkd_ mk) (show r + 1 ≤ k by omega)
          rw [fb_ct_succ, hmr] at m2
          simp only [if_true] at m2
          rw [pk_un (show fb_ct (mkd_ mk) r ≠ fb_ct (mkd_ mk) k by omega), pk_un (show fb_ct (mkd_ mk) r ≠ fb_ct (mkd_ mk) k by omega)]
          exact h3 r w hmr
        · rw [pk_us, pk_us]; exact ⟨rfl, rfl⟩
  · rintro ⟨i, j, ro', wi'⟩ ⟨h1, h2, h3⟩
    dsimp only at h1 h2 h3 ⊢
    subst h1 h2
    unfold fX1_sortRows_L4
    rw [if_pos (show (6561 : Int32) ≤ nI 6561 by decide)]
    exact ⟨_, rfl, h3⟩
/-- a heap without one wall -/
def wo_ (x k : Nat) : Nat := x ^^^ (x &&& 2 ^ k)
theorem wo_bit (x k j : Nat) : (wo_ x k).testBit j = (x.testBit j && !decide (j = k)) := by
  unfold wo_
  rw [Nat.testBit_xor, Nat.testBit_and, Nat.testBit_two_pow]
  by_cases q : j = k
  · subst q; simp
  · have : ¬ k = j := fun w => q w.symm
    simp [q, this]
theorem sub_bits {x y : Nat} (h : ∀ k, x.testBit k = true → y.testBit k = true) : x ≤ y := by
  have : x &&& y = x := by
    apply Nat.eq_of_testBit_eq
    intro k
    rw [Nat.testBit_and]
    cases e : x.testBit k with
    | false => rfl
    | true => rw [h k e]; rfl
  rw [← this]; exact Nat.and_le_right
theorem wo_le (x k : Nat) : wo_ x k ≤ x := sub_bits (fun j hj => by rw [wo_bit] at hj; simp at hj; exact hj.1)
theorem f_shareDown (hn : n ≤ 8) {cm : Nat → Int32} (hc : ∀ h, h < 2 ^ n → cm h = 0 ∨ cm h = 1) :
    ∃ cm', fX2_shareDown (nI n) cm = some cm' ∧ ∀ x, x < 2 ^ n → (cm' x = 0 ∨ cm' x = 1) ∧ (cm' x = 1 ↔ ∃ y, y < 2 ^ n ∧ (∀ k, x.testBit k = true → y.testBit k = true) ∧ cm y = 1) := by
  have h2n : 2 ^ n ≤ 256 := Nat.pow_le_pow_right (n := 2) (j := 8) (by decide) hn
  have h2p : 0 < 2 ^ n := Nat.pow_pos (by decide)
  unfold fX2_shareDown
  rw [nI_all hn]
  have hlp := lp_for (body := fun (st : (Int32 × (Nat → Int32))) => fX2_shareDown_L12 (nI n) st.1 st.2)
    (fun i st => ∃ h, h + i = 2 ^ n - 1 ∧ st.1 = nI h ∧ (∀ x, x < 2 ^ n → st.2 x = 0 ∨ st.2 x = 1) ∧ (∀ x, x < 2 ^ n → cm x = 1 → st.2 x = 1) ∧ (∀ x, x < 2 ^ n → st.2 x = 1 → ∃ y, y < 2 ^ n ∧ (∀ k, x.testBit k = true → y.testBit k = true) ∧ cm y = 1) ∧ ∀ x, h < x → x < 2 ^ n → st.2 x = 1 → ∀ k, k < n → st.2 (wo_ x k) = 1)
    (fun st => (∀ x, x < 2 ^ n → st.2 x = 0 ∨ st.2 x = 1) ∧ (∀ x, x < 2 ^ n → cm x = 1 → st.2 x = 1) ∧ (∀ x, x < 2 ^ n → st.2 x = 1 → ∃ y, y < 2 ^ n ∧ (∀ k, x.testBit k = true → y.testBit k = true) ∧ cm y = 1) ∧ ∀ x, 0 < x → x < 2 ^ n → st.2 x = 1 → ∀ k, k < n → st.2 (wo_ x k) = 1) (2 ^ n - 1) (by omega) (s := (nI (2 ^ n - 1), cm))
    ⟨2 ^ n - 1, by omega, rfl, hc, fun x _ h => h, fun x hx h => ⟨x, hx, fun _ h => h, h⟩, fun x h1 h2 => by omega⟩ ?_ ?_
  · obtain ⟨r, h1, h2, h3, h4, h5⟩ := hlp
    rw [bind_yes h1]
    refine ⟨_, rfl, fun x hx => ⟨h2 x hx, h4 x hx, ?_⟩⟩
    have main : ∀ (m x : Nat), x < 2 ^ n → 2 ^ n - x ≤ m → (∃ y, y < 2 ^ n ∧ (∀ k, x.testBit k = true → y.testBit k = true) ∧ cm y = 1) → r.2 x = 1 := by
      intro m
      induction m with
      | zero => intro x h1 h2; omega
      | succ m ih =>
        rintro x hx hm ⟨y, hy, hs, hcy⟩
        by_cases q : x = y
        · subst q; exact h3 x hx hcy
        · obtain ⟨k, k1, k2⟩ : ∃ k, x.testBit k = false ∧ y.testBit k = true := by
            refine Classical.byContradiction fun w => q (Nat.eq_of_testBit_eq (fun k => ?_))
            cases e : x.testBit k with
            | true => exact (hs k e).symm
            | false =>
              cases e2 : y.testBit k with
              | false => rfl
              | true => exact absurd ⟨k, e, e2⟩ w
          have hk : k < n := lt_bit hy k2
          have hbit : ∀ j, (x ||| 2 ^ k).testBit j = (x.testBit j || decide (j = k)) := fb_bit_set x k
          have hgt : x < x ||| 2 ^ k := by
            have h1 : x ≤ x ||| 2 ^ k := Nat.left_le_or
            rcases Nat.lt_or_ge x (x ||| 2 ^ k) with w | w
            · exact w
            · have : x = x ||| 2 ^ k := Nat.le_antisymm h1 w
              have b := hbit k
              rw [← this, k1] at b
              simp at b
          have hlt : x ||| 2 ^ k < 2 ^ n := Nat.or_lt_two_pow hx (Nat.pow_lt_pow_right (by decide) hk)
          have hD : ∃ y, y < 2 ^ n ∧ (∀ j, (x ||| 2 ^ k).testBit j = true → y.testBit j = true) ∧ cm y = 1 := by
            refine ⟨y, hy, fun j hj => ?_, hcy⟩
            rw [hbit] at hj
            rcases Bool.or_eq_true_iff.mp hj with w | w
            · exact hs j w
            · rw [of_decide_eq_true w]; exact k2
          have h6 := ih (x ||| 2 ^ k) hlt (by omega) hD
          have h7 := h5 (x ||| 2 ^ k) (by omega) hlt h6 k hk
          have h8 : wo_ (x ||| 2 ^ k) k = x := by
            apply Nat.eq_of_testBit_eq
            intro j
            rw [wo_bit, hbit]
            by_cases w : j = k
            · subst w; simp [k1]
            · simp [w]
          rw [h8] at h7
          exact h7
    exact main _ x hx (Nat.le_refl _)
  · rintro i ⟨h', cm1⟩ hi ⟨h, g0, g1, g2, g3, g4, g5⟩
    dsimp only at g1 g2 g3 g4 g5 ⊢
    subst g1
    left
    have hh : h < 256 := by omega
    have hh0 : 0 < h := by omega
    have hh2 : h < 2 ^ n := by omega
    unfold fX2_shareDown_L12
    rw [if_neg (nI_nle hh0 (by omega))]
    have hlp2 := lp_for (body := fun (st : (Int32 × (Nat → Int32))) => fX2_shareDown_L18 (nI n) (nI h) st.1 st.2)
      (fun κ st => st.1 = nI κ ∧ (∀ x, x < 2 ^ n → st.2 x = 0 ∨ st.2 x = 1) ∧ (∀ x, x < 2 ^ n → cm x = 1 → st.2 x = 1) ∧ (∀ x, x < 2 ^ n → st.2 x = 1 → ∃ y, y < 2 ^ n ∧ (∀ k, x.testBit k = true → y.testBit k = true) ∧ cm y = 1) ∧ (∀ x, h < x → x < 2 ^ n → st.2 x = 1 → ∀ k, k < n → st.2 (wo_ x k) = 1) ∧ (st.2 h = 1 → ∀ k, k < κ → st.2 (wo_ h k) = 1))
      (fun st => (∀ x, x < 2 ^ n → st.2 x = 0 ∨ st.2 x = 1) ∧ (∀ x, x < 2 ^ n → cm x = 1 → st.2 x = 1) ∧ (∀ x, x < 2 ^ n → st.2 x = 1 → ∃ y, y < 2 ^ n ∧ (∀ k, x.testBit k = true → y.testBit k = true) ∧ cm y = 1) ∧ (∀ x, h < x → x < 2 ^ n → st.2 x = 1 → ∀ k, k < n → st.2 (wo_ x k) = 1) ∧ (st.2 h = 1 → ∀ k, k < n → st.2 (wo_ h k) = 1)) n (by omega) (s := ((0 : Int32), cm1))
      ⟨rfl, g2, g3, g4, g5, fun _ k hk => absurd hk (Nat.not_lt_zero k)⟩ ?_ ?_
    · obtain ⟨r, e, r2, r3, r4, r5, r6⟩ := hlp2
      rw [bind_yes e]
      refine ⟨_, rfl, h - 1, by omega, ?_, r2, r3, r4, ?_⟩
      · dsimp only
        obtain ⟨m, rfl⟩ : ∃ m, h = m + 1 := ⟨h - 1, by omega⟩
        rw [pk_m1]; rfl
      · intro x hx1 hx2 hx3
        rcases (show x = h ∨ h < x by omega) with rfl | w
        · exact r6 hx3
        · exact r5 x w hx2 hx3
    · rintro κ ⟨κ', cm2⟩ hκ ⟨f1, f2, f3, f4, f5, f6⟩
      dsimp only at f1 f2 f3 f4 f5 f6 ⊢
      subst f1
      unfold fX2_shareDown_L18
      rw [if_neg (nI_ge hκ (by omega)), ck_yes (in_R_nI hh (by decide)), nI_clamp (by omega)]
      rcases f2 h hh2 with z | z
      · right
        rw [if_pos z]
        refine ⟨_, rfl, f2, f3, f4, f5, fun w => ?_⟩
        dsimp only at w
        rw [z] at w; cases w
      · left
        have hw : nI h &&& (((1 : Int32) <<< (nI κ &&& 31)) ^^^ (-1 : Int32)) = nI (wo_ h κ) := by rw [sh_1 κ (by omega), nI_andn]; rfl
        have hwl := wo_le h κ
        rw [if_neg (by rw [z]; decide)]
        simp only [hw]
        rw [ck_yes (in_R_nI (show wo_ h κ < 256 by omega) (by decide)), nI_clamp (by omega), nI_1]
        have up1 : ∀ x, cm2 x = 1 → upd cm2 (wo_ h κ) (vp_nar .boolean 1) x = 1 := by
          intro x hx
          by_cases w : x = wo_ h κ
          · rw [w, pk_us]; rfl
          · rw [pk_un w]; exact hx
        refine ⟨_, rfl, rfl, ?_, fun x hx hc => up1 x (f3 x hx hc), ?_, ?_, ?_⟩
        · intro x hx
          dsimp only
          by_cases w : x = wo_ h κ
          · rw [w, pk_us]; exact Or.inr rfl
          · rw [pk_un w]; exact f2 x hx
        · intro x hx
          dsimp only
          by_cases w : x = wo_ h κ
          · intro _
            obtain ⟨y, y1, y2, y3⟩ := f4 h hh2 z
            refine ⟨y, y1, fun k hk => y2 k ?_, y3⟩
            rw [w, wo_bit] at hk
            simp at hk
            exact hk.1
          · rw [pk_un w]; exact f4 x hx
        · intro x hx1 hx2 hx3 k hk
          dsimp only at hx3 ⊢
          rw [pk_un (by omega)] at hx3
          exact up1 _ (f5 x hx1 hx2 hx3 k hk)
        · intro _ k hk
          dsimp only
          rcases (show k < κ ∨ k = κ by omega) with w | rfl
          · exact up1 _ (f6 z k w)
          · rw [pk_us]; rfl
    · rintro ⟨κ', cm2⟩ ⟨f1, f2, f3, f4, f5, f6⟩
      dsimp only at f1 f2 f3 f4 f5 f6 ⊢
      subst f1
      unfold fX2_shareDown_L18
      rw [if_pos (nI_le (Nat.le_refl n) (by omega))]
      exact ⟨_, rfl, f2, f3, f4, f5, f6⟩
  · rintro ⟨h', cm1⟩ ⟨h, g0, g1, g2, g3, g4, g5⟩
    dsimp only at g1 g2 g3 g4 g5 ⊢
    subst g1
    have : h = 0 := by omega
    subst this
    unfold fX2_shareDown_L12
    rw [if_pos (show nI 0 ≤ 0 by decide)]
    exact ⟨_, rfl, g2, g3, g4, fun x hx => g5 x hx⟩
end CV
