/-! the reference takes a number out without a pivot; the whole step -/
theorem lc_id (w : Wl_) : lc_ 1 w 0 w = w := by unfold lc_; simp
theorem ct_3 (c : Nat → Int64) : ∀ m, fb_ct (fun s => decide (c s = 0)) m + fb_ct (fun s => decide (0 < c s)) m + fb_ct (fun s => decide (c s < 0)) m = m := by
  intro m
  induction m with
  | zero => rfl
  | succ m ih =>
    rw [fb_ct_succ, fb_ct_succ, fb_ct_succ]
    have e1 : (c m = 0) ↔ (c m).toInt = 0 := ⟨fun h => by rw [h]; rfl, fun h => Int64.toInt_inj.mp h⟩
    have e2 : (0 < c m) ↔ 0 < (c m).toInt := Int64.lt_iff_toInt_lt
    have e3 : (c m < 0) ↔ (c m).toInt < 0 := Int64.lt_iff_toInt_lt
    simp only [decide_eq_true_eq, e1, e2, e3]
    generalize (c m).toInt = x at *
    rcases (show x < 0 ∨ x = 0 ∨ 0 < x by omega) with q | q | q
    · rw [if_neg (by omega), if_neg (by omega), if_pos q]; omega
    · rw [if_pos q, if_neg (by omega), if_neg (by omega)]; omega
    · rw [if_neg (by omega), if_pos q, if_neg (by omega)]; omega
theorem cnt_4 {z p q M : Nat} (h : z + p + q ≤ M) (hM : 4 ≤ M) : 4 * (z + p * q) ≤ M * M := by
  have h1 : 4 * (p * q) ≤ (p + q) * (p + q) := by
    rcases Nat.le_total p q with w | w
    · obtain ⟨d, rfl⟩ : ∃ d, q = p + d := ⟨q - p, by omega⟩
      have : (p + (p + d)) * (p + (p + d)) = 4 * (p * (p + d)) + d * d := by grind
      omega
    · obtain ⟨d, rfl⟩ : ∃ d, p = q + d := ⟨p - q, by omega⟩
      have : (q + d + q) * (q + d + q) = 4 * ((q + d) * q) + d * d := by grind
      omega
  obtain ⟨t, rfl⟩ : ∃ t, M = p + q + t := ⟨M - (p + q), by omega⟩
  have h2 : (p + q + t) * (p + q + t) = (p + q) * (p + q) + t * (2 * (p + q) + t) := by grind
  have h3 : t * 4 ≤ t * (2 * (p + q) + t) := Nat.mul_le_mul_left t (by omega)
  rw [Nat.mul_add]
  omega
section TN
variable {m i B : Nat} {ev : Nat → Int32} {su : Nat → Int64}
/-- what comes out without a pivot -/
def Go_ (su : Nat → Int64) (ev : Nat → Int32) (m i κ : Nat) (x : Rw_) : Prop :=
  (∃ s, s < κ ∧ su (4 * s + i) = 0 ∧ x = fr_ su ev s) ∨ ∃ s, s < κ ∧ ∃ o, o < m ∧ 0 < su (4 * s + i) ∧ su (4 * o + i) < 0 ∧ x = (lc_ (- (su (4 * o + i)).toInt) (tR_ su s) (su (4 * s + i)).toInt (tR_ su o), false)
theorem m_L163 (hm : m ≤ 1024) (hi : i < 4) (hP : PB_ m su ev B) (hB : 2 * (B * B) < 9223372036854775808) {s nm0 : Nat} (hs : s < m) (hpos : 0 < su (4 * s + i)) (hroom : nm0 + fb_ct (fun s => decide (su (4 * s + i) < 0)) m ≤ 1024)
    {ne : Nat → Int32} {nx : Nat → Int64} (hN : PB_ nm0 nx ne (2 * (B * B))) :
    ∃ j ne' nx', lp_ (fun (st : (Int32 × Int32 × (Nat → Int32) × (Nat → Int64))) => fX6_takesOut_L163 (nI m) su (nI s) (nI i) st.1 st.2.1 st.2.2.1 st.2.2.2) fu_ ((0 : Int32), nI nm0, ne, nx) = some (j, nI (nm0 + fb_ct (fun s => decide (su (4 * s + i) < 0)) m), ne', nx') ∧ PB_ (nm0 + fb_ct (fun s => decide (su (4 * s + i) < 0)) m) nx' ne' (2 * (B * B)) ∧
      ∀ x, (∃ r, r < nm0 + fb_ct (fun s => decide (su (4 * s + i) < 0)) m ∧ fr_ nx' ne' r = x) ↔ (∃ r, r < nm0 ∧ fr_ nx ne r = x) ∨ ∃ o, o < m ∧ su (4 * o + i) < 0 ∧ x = (lc_ (- (su (4 * o + i)).toInt) (tR_ su s) (su (4 * s + i)).toInt (tR_ su o), false) := by
  generalize hqf : (fun s => decide (su (4 * s + i) < 0)) = qf at *
  have hqfk : ∀ k, qf k = decide (su (4 * k + i) < 0) := fun k => by rw [← hqf]
  have hlp := lp_for (body := fun (st : (Int32 × Int32 × (Nat → Int32) × (Nat → Int64))) => fX6_takesOut_L163 (nI m) su (nI s) (nI i) st.1 st.2.1 st.2.2.1 st.2.2.2)
    (fun κ st => st.1 = nI κ ∧ st.2.1 = nI (nm0 + fb_ct qf κ) ∧ PB_ (nm0 + fb_ct qf κ) st.2.2.2 st.2.2.1 (2 * (B * B)) ∧
      ∀ x, (∃ r, r < nm0 + fb_ct qf κ ∧ fr_ st.2.2.2 st.2.2.1 r = x) ↔ (∃ r, r < nm0 ∧ fr_ nx ne r = x) ∨ ∃ o, o < κ ∧ su (4 * o + i) < 0 ∧ x = (lc_ (- (su (4 * o + i)).toInt) (tR_ su s) (su (4 * s + i)).toInt (tR_ su o), false))
    (fun st => st.2.1 = nI (nm0 + fb_ct qf m) ∧ PB_ (nm0 + fb_ct qf m) st.2.2.2 st.2.2.1 (2 * (B * B)) ∧
      ∀ x, (∃ r, r < nm0 + fb_ct qf m ∧ fr_ st.2.2.2 st.2.2.1 r = x) ↔ (∃ r, r < nm0 ∧ fr_ nx ne r = x) ∨ ∃ o, o < m ∧ su (4 * o + i) < 0 ∧ x = (lc_ (- (su (4 * o + i)).toInt) (tR_ su s) (su (4 * s + i)).toInt (tR_ su o), false)) m (by omega) (s := ((0 : Int32), nI nm0, ne, nx))
    ⟨rfl, rfl, hN, fun x => ⟨fun h => Or.inl h, fun h => by
      rcases h with h | ⟨o, ho, _⟩
      · exact h
      · exact absurd ho (Nat.not_lt_zero o)⟩⟩ ?_ ?_
  · obtain ⟨⟨j', x, ne', nx'⟩, h1, h2, h3⟩ := hlp
    dsimp only at h2
    subst h2
    exact ⟨j', ne', nx', h1, h3⟩
  · rintro κ ⟨j', x, ne', nx'⟩ hκ ⟨h1, h2, h3, h4⟩
    dsimp only at h1 h2 h3 h4 ⊢
    subst h1 h2
    left
    have hct := fb_ct_mono qf (show κ + 1 ≤ m by omega)
    rw [fb_ct_succ] at hct
    unfold fX6_takesOut_L163
    simp only [ix4]
    rw [if_neg (nI_ge hκ (by omega)), nI_clamp (show 4 * s + i < 2 ^ 31 by omega), if_neg (fun q => by
      have := (lg_cmp_le _ _).mp q
      have a := Int64.le_iff_toInt_le.mp this
      have b := Int64.lt_iff_toInt_lt.mp hpos
      omega), ck_yes (in_R_nI (show 4 * κ + i < 4400 by omega) (by decide))]
    simp only [nI_clamp (show 4 * κ + i < 2 ^ 31 by omega), nI_1]
    by_cases w : (0 : Int64) ≤ su (4 * κ + i)
    · have hq : qf κ = false := by
        rw [hqfk]
        refine decide_eq_false (fun q => ?_)
        have a := Int64.le_iff_toInt_le.mp w
        have b := Int64.lt_iff_toInt_lt.mp q
        omega
      have hc : fb_ct qf (κ + 1) = fb_ct qf κ := by rw [fb_ct_succ, hq]; simp
      rw [if_pos ((lg_cmp_ge _ _).mpr w)]
      refine ⟨_, rfl, rfl, by rw [hc], by rw [hc]; exact h3, fun x => ?_⟩
      dsimp only
      rw [hc, h4]
      constructor
      · rintro (h | ⟨o, h5, h6⟩)
        · exact Or.inl h
        · exact Or.inr ⟨o, by omega, h6⟩
      · rintro (h | ⟨o, h5, h6, h7⟩)
        · exact Or.inl h
        · rcases (show o < κ ∨ o = κ by omega) with q | rfl
          · exact Or.inr ⟨o, q, h6, h7⟩
          · have := hqfk o
            rw [hq, decide_eq_true h6] at this
            cases this
    · have hlt : su (4 * κ + i) < 0 := by
        apply Int64.lt_iff_toInt_lt.mpr
        have : ¬ (0 : Int64).toInt ≤ (su (4 * κ + i)).toInt := fun q => w (Int64.le_iff_toInt_le.mpr q)
        omega
      have hq : qf κ = true := by rw [hqfk]; exact decide_eq_true hlt
      have hc : fb_ct qf (κ + 1) = fb_ct qf κ + 1 := by rw [fb_ct_succ, hq]; rfl
      rw [hq] at hct
      simp only [if_true] at hct
      rw [if_neg (fun q => w ((lg_cmp_ge _ _).mp q)), ck_yes (in_R_nI (show 4 * κ + i < 4400 by omega) (by decide))]
      obtain ⟨ne2, nx2, e, g1, g2, g3⟩ := m_puts (nm := nm0 + fb_ct qf κ) (s := s) (o := κ) (a := - (su (4 * κ + i)).toInt) (b := (su (4 * s + i)).toInt) (e := 0) (by omega) (by omega) (by omega) (hP s hs).2 (hP κ hκ).2 (ab_neg ((hP κ hκ).2 i hi)) ((hP s hs).2 i hi) hB (Or.inl rfl) h3
      rw [← iL_neg, iL_of, iL_of] at e
      rw [bind_yes e]
      refine ⟨_, rfl, rfl, by rw [hc]; rfl, by rw [hc]; exact g1, fun x => ?_⟩
      dsimp only
      rw [hc]
      have g3' : fr_ nx2 ne2 (nm0 + fb_ct qf κ) = (lc_ (- (su (4 * κ + i)).toInt) (tR_ su s) (su (4 * s + i)).toInt (tR_ su κ), false) := g3
      constructor
      · rintro ⟨r, hr, rfl⟩
        rcases (show r < nm0 + fb_ct qf κ ∨ r = nm0 + fb_ct qf κ by omega) with q | rfl
        · rcases (h4 _).mp ⟨r, q, rfl⟩ with h5 | ⟨o, h5, h6⟩
          · rw [g2 r q]; exact Or.inl h5
          · rw [g2 r q]; exact Or.inr ⟨o, by omega, h6⟩
        · exact Or.inr ⟨κ, by omega, hlt, g3'⟩
      · rintro (h | ⟨o, h5, h6, h7⟩)
        · obtain ⟨r, hr, e⟩ := (h4 x).mpr (Or.inl h)
          exact ⟨r, by omega, by rw [g2 r hr]; exact e⟩
        · rcases (show o < κ ∨ o = κ by omega) with q | rfl
          · obtain ⟨r, hr, e⟩ := (h4 x).mpr (Or.inr ⟨o, q, h6, h7⟩)
            exact ⟨r, by omega, by rw [g2 r hr]; exact e⟩
          · exact ⟨_, by omega, g3'.trans h7.symm⟩
  · rintro ⟨j', x, ne', nx'⟩ ⟨h1, h2, h3⟩
    dsimp only at h1 h2 h3 ⊢
    subst h1 h2
    unfold fX6_takesOut_L163
    rw [if_pos (nI_le (Nat.le_refl m) (by omega))]
    exact ⟨_, rfl, rfl, h3⟩
theorem m_L163n (hm : m ≤ 1024) (hm0 : 0 < m) {s nm0 : Nat} (hs : s < m) (hi : i < 4) (hneg : su (4 * s + i) < 0) (ne : Nat → Int32) (nx : Nat → Int64) :
    lp_ (fun (st : (Int32 × Int32 × (Nat → Int32) × (Nat → Int64))) => fX6_takesOut_L163 (nI m) su (nI s) (nI i) st.1 st.2.1 st.2.2.1 st.2.2.2) fu_ ((0 : Int32), nI nm0, ne, nx) = some (0, nI nm0, ne, nx) := by
  have hlp := lp_for (body := fun (st : (Int32 × Int32 × (Nat → Int32) × (Nat → Int64))) => fX6_takesOut_L163 (nI m) su (nI s) (nI i) st.1 st.2.1 st.2.2.1 st.2.2.2)
    (fun κ st => st = ((0 : Int32), nI nm0, ne, nx)) (fun st => st = ((0 : Int32), nI nm0, ne, nx)) 0 (by decide) (s := ((0 : Int32), nI nm0, ne, nx)) rfl (fun k st hk => absurd hk (Nat.not_lt_zero k)) (by
      rintro st rfl
      dsimp only
      unfold fX6_takesOut_L163
      simp only [ix4]
      rw [if_neg (show ¬ nI m ≤ 0 from nI_ge (a := 0) hm0 (by omega)), nI_clamp (show 4 * s + i < 2 ^ 31 by omega), if_pos ((lg_cmp_le _ _).mpr (Int64.le_iff_toInt_le.mpr (by have := Int64.lt_iff_toInt_lt.mp hneg; omega)))]
      exact ⟨_, rfl, rfl⟩)
  obtain ⟨r, h1, h2⟩ := hlp
  rw [h1, h2]
theorem m_takeN (hm : m ≤ 1024) (hi : i < 3) (hP : PB_ m su ev B) (hB1 : 1 ≤ B) (hB : 2 * (B * B) < 9223372036854775808) (hroom : fb_ct (fun s => decide (su (4 * s + i) = 0)) m + fb_ct (fun s => decide (0 < su (4 * s + i))) m * fb_ct (fun s => decide (su (4 * s + i) < 0)) m ≤ 1024) (ne : Nat → Int32) (nx : Nat → Int64) (j : Int32) :
    ∃ j' ne' nx', lp_ (fun (st : (Int32 × Int32 × (Nat → Int32) × (Nat → Int64))) => fX6_takesOut_L56 (nI m) (nI i) (j, -1) su ev st.1 st.2.1 st.2.2.1 st.2.2.2) fu_ ((0 : Int32), (0 : Int32), ne, nx) = some (j', nI (fb_ct (fun s => decide (su (4 * s + i) = 0)) m + fb_ct (fun s => decide (0 < su (4 * s + i))) m * fb_ct (fun s => decide (su (4 * s + i) < 0)) m), ne', nx') ∧
      PB_ (fb_ct (fun s => decide (su (4 * s + i) = 0)) m + fb_ct (fun s => decide (0 < su (4 * s + i))) m * fb_ct (fun s => decide (su (4 * s + i) < 0)) m) nx' ne' (2 * (B * B)) ∧
      ∀ x, (∃ r, r < fb_ct (fun s => decide (su (4 * s + i) = 0)) m + fb_ct (fun s => decide (0 < su (4 * s + i))) m * fb_ct (fun s => decide (su (4 * s + i) < 0)) m ∧ fr_ nx' ne' r = x) ↔ Go_ su ev m i m x := by
  generalize hzf : (fun s => decide (su (4 * s + i) = 0)) = zf at *
  generalize hpf : (fun s => decide (0 < su (4 * s + i))) = pf at *
  generalize hQ : fb_ct (fun s => decide (su (4 * s + i) < 0)) m = Q at *
  have hzk : ∀ k, zf k = decide (su (4 * k + i) = 0) := fun k => by rw [← hzf]
  have hpk : ∀ k, pf k = decide (0 < su (4 * k + i)) := fun k => by rw [← hpf]
  have hlp := lp_for (body := fun (st : (Int32 × Int32 × (Nat → Int32) × (Nat → Int64))) => fX6_takesOut_L56 (nI m) (nI i) (j, -1) su ev st.1 st.2.1 st.2.2.1 st.2.2.2)
    (fun κ st => st.1 = nI κ ∧ st.2.1 = nI (fb_ct zf κ + fb_ct pf κ * Q) ∧ PB_ (fb_ct zf κ + fb_ct pf κ * Q) st.2.2.2 st.2.2.1 (2 * (B * B)) ∧ ∀ x, (∃ r, r < fb_ct zf κ + fb_ct pf κ * Q ∧ fr_ st.2.2.2 st.2.2.1 r = x) ↔ Go_ su ev m i κ x)
    (fun st => st.2.1 = nI (fb_ct zf m + fb_ct pf m * Q) ∧ PB_ (fb_ct zf m + fb_ct pf m * Q) st.2.2.2 st.2.2.1 (2 * (B * B)) ∧ ∀ x, (∃ r, r < fb_ct zf m + fb_ct pf m * Q ∧ fr_ st.2.2.2 st.2.2.1 r = x) ↔ Go_ su ev m i m x) m (by omega) (s := ((0 : Int32), (0 : Int32), ne, nx))
    ⟨rfl, by simp only [fb_ct, Nat.zero_mul, Nat.add_zero]; rfl, by
      intro r hr
      simp only [fb_ct, Nat.zero_mul, Nat.add_zero] at hr
      exact absurd hr (Nat.not_lt_zero r), by
      intro x
      simp only [fb_ct, Nat.zero_mul, Nat.add_zero]
      constructor
      · rintro ⟨r, hr, _⟩; exact absurd hr (Nat.not_lt_zero r)
      · rintro (⟨s, hs, _⟩ | ⟨s, hs, _⟩) <;> exact absurd hs (Nat.not_lt_zero s)⟩ ?_ ?_
  · obtain ⟨⟨j', x, ne', nx'⟩, h1, h2, h3⟩ := hlp
    dsimp only at h2
    subst h2
    exact ⟨j', ne', nx', h1, h3⟩
  · rintro κ ⟨j', x, ne', nx'⟩ hκ ⟨h1, h2, h3, h4⟩
    dsimp only at h1 h2 h3 h4 ⊢
    subst h1 h2
    left
    have hz1 := fb_ct_mono zf (show κ + 1 ≤ m by omega)
    have hp1 := Nat.mul_le_mul_right Q (fb_ct_mono pf (show κ + 1 ≤ m by omega))
    rw [fb_ct_succ] at hz1 hp1
    unfold fX6_takesOut_L56
    dsimp only
    simp only [ix4]
    rw [if_neg (nI_ge hκ (by omega)), ck_yes (in_R_nI (show 4 * κ + i < 4400 by omega) (by decide)), nI_clamp (show 4 * κ + i < 2 ^ 31 by omega), nI_1, if_neg (nI_nm1 (by omega))]
    by_cases z : su (4 * κ + i) = 0
    · have ez : zf κ = true := by rw [hzk]; exact decide_eq_true z
      have ep : pf κ = false := by rw [hpk, z]; rfl
      have hc : fb_ct zf (κ + 1) + fb_ct pf (κ + 1) * Q = fb_ct zf κ + fb_ct pf κ * Q + 1 := by
        rw [fb_ct_succ, fb_ct_succ, ez, ep]
        simp only [if_true, Bool.false_eq_true, if_false, Nat.add_zero]
        omega
      rw [ez] at hz1
      rw [ep] at hp1
      simp only [if_true, Bool.false_eq_true, if_false, Nat.add_zero] at hz1 hp1
      rw [if_pos ((lg_cmp_eq _ _).mpr z), ck_yes (in_R_nI (show κ < 1100 by omega) (by decide)), nI_clamp (by omega)]
      obtain ⟨ne2, nx2, e, g1, g2, g3⟩ := m_puts (nm := fb_ct zf κ + fb_ct pf κ * Q) (s := κ) (o := κ) (a := 1) (b := 0) (e := ev κ) (by omega) (by omega) (by omega) (hP κ hκ).2 (hP κ hκ).2 (by unfold ab_; simpa using hB1) (by unfold ab_; simp) hB (hP κ hκ).1 h3
      rw [lc_id] at g3
      rw [show (1 : Int64) = iL_ 1 from rfl, show (0 : Int64) = iL_ 0 from rfl, bind_yes e]
      refine ⟨_, rfl, rfl, by rw [hc], by rw [hc]; exact g1, fun x => ?_⟩
      dsimp only
      rw [hc]
      constructor
      · rintro ⟨r, hr, rfl⟩
        rcases (show r < fb_ct zf κ + fb_ct pf κ * Q ∨ r = fb_ct zf κ + fb_ct pf κ * Q by omega) with q | rfl
        · rw [g2 r q]
          rcases (h4 _).mp ⟨r, q, rfl⟩ with ⟨s, s1, s2⟩ | ⟨s, s1, s2⟩
          · exact Or.inl ⟨s, by omega, s2⟩
          · exact Or.inr ⟨s, by omega, s2⟩
        · exact Or.inl ⟨κ, by omega, z, g3⟩
      · intro hx
        have old : Go_ su ev m i κ x → ∃ r, r < fb_ct zf κ + fb_ct pf κ * Q + 1 ∧ fr_ nx2 ne2 r = x := by
          intro h
          obtain ⟨r, hr, e⟩ := (h4 x).mpr h
          exact ⟨r, by omega, by rw [g2 r hr]; exact e⟩
        rcases hx with ⟨s, s1, s2, s3⟩ | ⟨s, s1, o, o1, o2, o3⟩
        · rcases (show s < κ ∨ s = κ by omega) with q | rfl
          · exact old (Or.inl ⟨s, q, s2, s3⟩)
          · exact ⟨_, by omega, g3.trans s3.symm⟩
        · rcases (show s < κ ∨ s = κ by omega) with q | rfl
          · exact old (Or.inr ⟨s, q, o, o1, o2, o3⟩)
          · rw [z] at o2; exact absurd o2 (by decide)
    · have ez : zf κ = false := by rw [hzk]; exact decide_eq_false z
      rw [if_neg (fun q => z ((lg_cmp_eq _ _).mp q)), if_pos trivial]
      by_cases w : 0 < su (4 * κ + i)
      · have ep : pf κ = true := by rw [hpk]; exact decide_eq_true w
        have hc : fb_ct zf (κ + 1) + fb_ct pf (κ + 1) * Q = fb_ct zf κ + fb_ct pf κ * Q + Q := by
          rw [fb_ct_succ, fb_ct_succ, ez, ep]
          simp only [if_true, Bool.false_eq_true, if_false, Nat.add_zero]
          rw [Nat.succ_mul]
          omega
        rw [ez] at hz1
        rw [ep] at hp1
        simp only [if_true, Bool.false_eq_true, if_false, Nat.add_zero] at hz1 hp1
        rw [Nat.succ_mul] at hp1
        obtain ⟨jj, ne2, nx2, e, g1, g2⟩ := m_L163 (m := m) (i := i) (B := B) (ev := ev) (su := su) (s := κ) (nm0 := fb_ct zf κ + fb_ct pf κ * Q) hm (by omega) hP hB hκ w (by rw [hQ]; omega) h3
        rw [hQ] at e g1 g2
        rw [bind_yes e]
        refine ⟨_, rfl, rfl, by rw [hc], by rw [hc]; exact g1, fun x => ?_⟩
        dsimp only
        rw [hc, g2, h4]
        constructor
        · rintro (h | ⟨o, o1, o2, o3⟩)
          · rcases h with ⟨s, s1, s2⟩ | ⟨s, s1, s2⟩
            · exact Or.inl ⟨s, by omega, s2⟩
            · exact Or.inr ⟨s, by omega, s2⟩
          · exact Or.inr ⟨κ, by omega, o, o1, w, o2, o3⟩
        · rintro (⟨s, s1, s2, s3⟩ | ⟨s, s1, o, o1, o2, o3, o4⟩)
          · rcases (show s < κ ∨ s = κ by omega) with q | rfl
            · exact Or.inl (Or.inl ⟨s, q, s2, s3⟩)
            · exact absurd s2 z
          · rcases (show s < κ ∨ s = κ by omega) with q | rfl
            · exact Or.inl (Or.inr ⟨s, q, o, o1, o2, o3, o4⟩)
            · exact Or.inr ⟨o, o1, o3, o4⟩
      · have ep : pf κ = false := by rw [hpk]; exact decide_eq_false w
        have hc : fb_ct zf (κ + 1) + fb_ct pf (κ + 1) * Q = fb_ct zf κ + fb_ct pf κ * Q := by
          rw [fb_ct_succ, fb_ct_succ, ez, ep]
          simp only [Bool.false_eq_true, if_false, Nat.add_zero]
        have hneg : su (4 * κ + i) < 0 := by
          apply Int64.lt_iff_toInt_lt.mpr
          have a : ¬ (0 : Int64).toInt < (su (4 * κ + i)).toInt := fun q => w (Int64.lt_iff_toInt_lt.mpr q)
          have b := tz_ z
          have : (0 : Int64).toInt = 0 := rfl
          omega
        rw [bind_yes (m_L163n hm (by omega) hκ (by omega) hneg ne' nx')]
        refine ⟨_, rfl, rfl, by rw [hc], by rw [hc]; exact h3, fun x => ?_⟩
        dsimp only
        rw [hc, h4]
        constructor
        · rintro (⟨s, s1, s2⟩ | ⟨s, s1, s2⟩)
          · exact Or.inl ⟨s, by omega, s2⟩
          · exact Or.inr ⟨s, by omega, s2⟩
        · rintro (⟨s, s1, s2, s3⟩ | ⟨s, s1, o, o1, o2, o3, o4⟩)
          · rcases (show s < κ ∨ s = κ by omega) with q | rfl
            · exact Or.inl ⟨s, q, s2, s3⟩
            · exact absurd s2 z
          · rcases (show s < κ ∨ s = κ by omega) with q | rfl
            · exact Or.inr ⟨s, q, o, o1, o2, o3, o4⟩
            · exact absurd o2 w
  · rintro ⟨j', x, ne', nx'⟩ ⟨h1, h2, h3⟩
    dsimp only at h1 h2 h3 ⊢
    subst h1 h2
    unfold fX6_takesOut_L56
    rw [if_pos (nI_le (Nat.le_refl m) (by omega))]
    exact ⟨_, rfl, rfl, h3⟩
end TN
