/-! the reference takes a number out of its sums -/
def fr_ (su : Nat → Int64) (ev : Nat → Int32) (s : Nat) : Rw_ := (tR_ su s, decide (ev s = 1))
def PB_ (m : Nat) (su : Nat → Int64) (ev : Nat → Int32) (B : Nat) : Prop := ∀ r, r < m → (ev r = 0 ∨ ev r = 1) ∧ ∀ c, c < 4 → ab_ (su (4 * r + c)).toInt B
theorem lc_int {u w : Int64} {a b : Int} {B : Nat} (hu : ab_ u.toInt B) (hw : ab_ w.toInt B) (ha : ab_ a B) (hb : ab_ b B) (hB : 2 * (B * B) < 9223372036854775808) : (u * iL_ a + w * iL_ b).toInt = u.toInt * a + w.toInt * b ∧ ab_ (u * iL_ a + w * iL_ b).toInt (2 * (B * B)) := by
  have hab : ab_ (u.toInt * a + w.toInt * b) (2 * (B * B)) := ab_mono (ab_add (ab_mul hu ha) (ab_mul hw hb)) (by omega)
  have e : u * iL_ a + w * iL_ b = iL_ (u.toInt * a + w.toInt * b) := by rw [← iL_add, ← iL_mul, ← iL_mul, iL_of, iL_of]
  rw [e, iL_toInt (ab_sl hab hB)]
  exact ⟨rfl, hab⟩
theorem m_puts {nm s o : Nat} (hnm : nm < 1100) (hs : s < 1100) (ho : o < 1100) {a b : Int} {B : Nat} {su nx : Nat → Int64} {ne : Nat → Int32} {e : Int32} (hsB : ∀ c, c < 4 → ab_ (su (4 * s + c)).toInt B) (hoB : ∀ c, c < 4 → ab_ (su (4 * o + c)).toInt B) (ha : ab_ a B) (hb : ab_ b B) (hB : 2 * (B * B) < 9223372036854775808) (he : e = 0 ∨ e = 1) (hP : PB_ nm nx ne (2 * (B * B))) :
    ∃ ne' nx', fX6_puts (nI nm) ne su nx (nI s) (iL_ a) (nI o) (iL_ b) e = some (nI (nm + 1), ne', nx') ∧ PB_ (nm + 1) nx' ne' (2 * (B * B)) ∧ (∀ r, r < nm → fr_ nx' ne' r = fr_ nx ne r) ∧ fr_ nx' ne' nm = (lc_ a (tR_ su s) b (tR_ su o), decide (e = 1)) := by
  unfold fX6_puts
  have hlp := lp_for (body := fun (st : (Int32 × (Nat → Int64))) => fX6_puts_L3 (nI s) (nI o) (nI nm) su (iL_ a) (iL_ b) st.1 st.2)
    (fun κ st => st.1 = nI κ ∧ (∀ c, c < κ → st.2 (4 * nm + c) = su (4 * s + c) * iL_ a + su (4 * o + c) * iL_ b) ∧ ∀ r c, c < 4 → r ≠ nm → st.2 (4 * r + c) = nx (4 * r + c))
    (fun st => (∀ c, c < 4 → st.2 (4 * nm + c) = su (4 * s + c) * iL_ a + su (4 * o + c) * iL_ b) ∧ ∀ r c, c < 4 → r ≠ nm → st.2 (4 * r + c) = nx (4 * r + c)) 4 (by decide) (s := ((0 : Int32), nx))
    ⟨rfl, fun c hc => absurd hc (Nat.not_lt_zero c), fun _ _ _ _ => rfl⟩ ?_ ?_
  · obtain ⟨⟨j, nx'⟩, h1, h2, h3⟩ := hlp
    dsimp only at h2 h3
    rw [bind_yes h1, ck_yes (in_R_nI hnm (by decide)), nI_clamp (by omega), nI_1]
    have hcell : ∀ c, c < 4 → (nx' (4 * nm + c)).toInt = (su (4 * s + c)).toInt * a + (su (4 * o + c)).toInt * b ∧ ab_ (nx' (4 * nm + c)).toInt (2 * (B * B)) := by
      intro c hc
      rw [h2 c hc]
      exact lc_int (hsB c hc) (hoB c hc) ha hb hB
    have hnar : vp_nar .boolean e = e := by rcases he with rfl | rfl <;> rfl
    refine ⟨_, _, rfl, ?_, ?_, ?_⟩
    · intro r hr
      rcases (show r < nm ∨ r = nm by omega) with q | rfl
      · rw [pk_un (by omega)]
        exact ⟨(hP r q).1, fun c hc => by dsimp only; rw [h3 r c hc (by omega)]; exact (hP r q).2 c hc⟩
      · rw [pk_us, hnar]
        exact ⟨he, fun c hc => (hcell c hc).2⟩
    · intro r hr
      unfold fr_
      rw [pk_un (by omega), tR_cg (s := nx) (q := r) (fun c hc => h3 r c hc (by omega))]
    · unfold fr_
      rw [pk_us, hnar]
      have e0 := (hcell 0 (by decide)).1
      have e1 := (hcell 1 (by decide)).1
      have e2 := (hcell 2 (by decide)).1
      have e3 := (hcell 3 (by decide)).1
      simp only [Nat.add_zero] at e0
      congr 1
      unfold lc_ tR_
      dsimp only
      rw [e0, e1, e2, e3]
  · rintro κ ⟨j, t⟩ hκ ⟨h1, h2, h3⟩
    dsimp only at h1 h2 h3 ⊢
    subst h1
    left
    unfold fX6_puts_L3
    simp only [ix4]
    rw [if_neg (show ¬ (4 : Int32) ≤ nI κ from nI_ge (a := κ) (b := 4) hκ (by decide)), ck_yes (in_R_nI (show 4 * s + κ < 4400 by omega) (by decide)), ck_yes (in_R_nI (show 4 * o + κ < 4400 by omega) (by decide)), ck_yes (in_R_nI (show 4 * nm + κ < 4400 by omega) (by decide)), nI_clamp (by omega), nI_clamp (by omega), nI_clamp (by omega), nI_1]
    refine ⟨_, rfl, rfl, ?_, ?_⟩
    · intro c hc
      dsimp only
      rcases (show c < κ ∨ c = κ by omega) with q | rfl
      · rw [pk_uLn (by omega)]; exact h2 c q
      · rw [pk_uLs]
    · intro r c hc hr
      dsimp only
      rw [pk_uLn (by omega)]; exact h3 r c hc hr
  · rintro ⟨j, t⟩ ⟨h1, h2, h3⟩
    dsimp only at h1 h2 h3 ⊢
    subst h1
    unfold fX6_puts_L3
    rw [if_pos (show (4 : Int32) ≤ nI 4 by decide)]
    exact ⟨_, rfl, h2, h3⟩
/-- the pivot: the first even row with this number not 0 -/
theorem m_pivot {m i : Nat} (hm : m ≤ 1024) (hi : i < 4) {ev : Nat → Int32} {su : Nat → Int64} (hev : ∀ s, s < m → ev s = 0 ∨ ev s = 1) :
    ∃ j u, lp_ (fun (st : (Int32 × Int32)) => fX6_takesOut_L4 (nI m) ev (nI i) su st.1 st.2) fu_ ((0 : Int32), (-1 : Int32)) = some (j, u) ∧
      (u = -1 ∧ (∀ s, s < m → ev s = 1 → su (4 * s + i) = 0) ∨ ∃ p, p < m ∧ u = nI p ∧ ev p = 1 ∧ su (4 * p + i) ≠ 0) := by
  have hlp := lp_for (body := fun (st : (Int32 × Int32)) => fX6_takesOut_L4 (nI m) ev (nI i) su st.1 st.2)
    (fun k st => st.1 = nI k ∧ (st.2 = -1 ∧ (∀ s, s < k → ev s = 1 → su (4 * s + i) = 0) ∨ ∃ p, p < k ∧ st.2 = nI p ∧ ev p = 1 ∧ su (4 * p + i) ≠ 0))
    (fun st => (st.2 = -1 ∧ (∀ s, s < m → ev s = 1 → su (4 * s + i) = 0) ∨ ∃ p, p < m ∧ st.2 = nI p ∧ ev p = 1 ∧ su (4 * p + i) ≠ 0)) m (by omega) (s := ((0 : Int32), (-1 : Int32)))
    ⟨rfl, Or.inl ⟨rfl, fun s hs => absurd hs (Nat.not_lt_zero s)⟩⟩ ?_ ?_
  · obtain ⟨⟨j, u⟩, h1, h2⟩ := hlp
    exact ⟨j, u, h1, h2⟩
  · rintro k ⟨j, u⟩ hk ⟨h1, h2⟩
    dsimp only at h1 h2 ⊢
    subst h1
    unfold fX6_takesOut_L4
    simp only [ix4]
    rw [if_neg (nI_ge hk (by omega))]
    rcases h2 with ⟨rfl, h2⟩ | ⟨p, hp, rfl, h3, h4⟩
    · left
      rw [if_pos rfl, ck_yes (in_R_nI (show k < 1100 by omega) (by decide)), ck_yes (in_R_nI (show 4 * k + i < 4400 by omega) (by decide)), nI_clamp (by omega), nI_clamp (by omega), nI_1]
      rcases hev k hk with w | w
      · rw [if_pos w]
        refine ⟨_, rfl, rfl, Or.inl ⟨rfl, fun s hs hes => ?_⟩⟩
        rcases (show s < k ∨ s = k by omega) with q | rfl
        · exact h2 s q hes
        · rw [w] at hes; cases hes
      · rw [if_neg (by rw [w]; decide)]
        by_cases z : su (4 * k + i) = 0
        · rw [if_pos ((lg_cmp_eq _ _).mpr z)]
          refine ⟨_, rfl, rfl, Or.inl ⟨rfl, fun s hs hes => ?_⟩⟩
          rcases (show s < k ∨ s = k by omega) with q | rfl
          · exact h2 s q hes
          · exact z
        · rw [if_neg (fun q => z ((lg_cmp_eq _ _).mp q))]
          exact ⟨_, rfl, rfl, Or.inr ⟨k, by omega, rfl, w, z⟩⟩
    · right
      have hne : ¬ nI p = (-1 : Int32) := fun q => by
        have := congrArg Int32.toInt q
        rw [nI_toInt (by omega)] at this
        have h5 : (-1 : Int32).toInt = -1 := by decide
        omega
      rw [if_neg hne]
      exact ⟨_, rfl, Or.inr ⟨p, by omega, rfl, h3, h4⟩⟩
  · rintro ⟨j, u⟩ ⟨h1, h2⟩
    dsimp only at h1 h2 ⊢
    subst h1
    unfold fX6_takesOut_L4
    rw [if_pos (nI_le (Nat.le_refl m) (by omega))]
    exact ⟨_, rfl, h2⟩
theorem nI_nm1 {p : Nat} (h : p < 2 ^ 31) : ¬ nI p = (-1 : Int32) := fun q => by
  have := congrArg Int32.toInt q
  rw [nI_toInt h] at this
  have h5 : (-1 : Int32).toInt = -1 := by decide
  omega
theorem tz_ {x : Int64} (h : x ≠ 0) : x.toInt ≠ 0 := fun q => h (Int64.toInt_inj.mp q)
section TK
variable {m i B : Nat} {ev : Nat → Int32} {su : Nat → Int64}
/-- with a pivot -/
theorem m_takeP (hm : m ≤ 1024) (hi : i < 3) (hP : PB_ m su ev B) (hB1 : 1 ≤ B) (hB : 2 * (B * B) < 9223372036854775808) {p : Nat} (hp : p < m) (hne : su (4 * p + i) ≠ 0) (ne : Nat → Int32) (nx : Nat → Int64) (j : Int32) :
    ∃ j' nm ne' nx', lp_ (fun (st : (Int32 × Int32 × (Nat → Int32) × (Nat → Int64))) => fX6_takesOut_L56 (nI m) (nI i) (j, nI p) su ev st.1 st.2.1 st.2.2.1 st.2.2.2) fu_ ((0 : Int32), (0 : Int32), ne, nx) = some (j', nI nm, ne', nx') ∧ nm ≤ m ∧ PB_ nm nx' ne' (2 * (B * B)) ∧
      (∀ r, r < nm → ∃ s, s < m ∧ ∃ a b : Int, 0 < a ∧ fr_ nx' ne' r = (lc_ a (tR_ su s) b (tR_ su p), decide (ev s = 1)) ∧ cf_ i (lc_ a (tR_ su s) b (tR_ su p)) = 0) ∧
      (∀ s, s < m → s = p ∨ ∃ r, r < nm ∧ ∃ a b : Int, 0 < a ∧ fr_ nx' ne' r = (lc_ a (tR_ su s) b (tR_ su p), decide (ev s = 1)) ∧ cf_ i (lc_ a (tR_ su s) b (tR_ su p)) = 0) := by
  have hlp := lp_for (body := fun (st : (Int32 × Int32 × (Nat → Int32) × (Nat → Int64))) => fX6_takesOut_L56 (nI m) (nI i) (j, nI p) su ev st.1 st.2.1 st.2.2.1 st.2.2.2)
    (fun κ st => st.1 = nI κ ∧ ∃ nm, st.2.1 = nI nm ∧ nm ≤ κ ∧ PB_ nm st.2.2.2 st.2.2.1 (2 * (B * B)) ∧
      (∀ r, r < nm → ∃ s, s < m ∧ ∃ a b : Int, 0 < a ∧ fr_ st.2.2.2 st.2.2.1 r = (lc_ a (tR_ su s) b (tR_ su p), decide (ev s = 1)) ∧ cf_ i (lc_ a (tR_ su s) b (tR_ su p)) = 0) ∧
      (∀ s, s < κ → s = p ∨ ∃ r, r < nm ∧ ∃ a b : Int, 0 < a ∧ fr_ st.2.2.2 st.2.2.1 r = (lc_ a (tR_ su s) b (tR_ su p), decide (ev s = 1)) ∧ cf_ i (lc_ a (tR_ su s) b (tR_ su p)) = 0))
    (fun st => ∃ nm, st.2.1 = nI nm ∧ nm ≤ m ∧ PB_ nm st.2.2.2 st.2.2.1 (2 * (B * B)) ∧
      (∀ r, r < nm → ∃ s, s < m ∧ ∃ a b : Int, 0 < a ∧ fr_ st.2.2.2 st.2.2.1 r = (lc_ a (tR_ su s) b (tR_ su p), decide (ev s = 1)) ∧ cf_ i (lc_ a (tR_ su s) b (tR_ su p)) = 0) ∧
      (∀ s, s < m → s = p ∨ ∃ r, r < nm ∧ ∃ a b : Int, 0 < a ∧ fr_ st.2.2.2 st.2.2.1 r = (lc_ a (tR_ su s) b (tR_ su p), decide (ev s = 1)) ∧ cf_ i (lc_ a (tR_ su s) b (tR_ su p)) = 0)) m (by omega) (s := ((0 : Int32), (0 : Int32), ne, nx))
    ⟨rfl, 0, rfl, Nat.le_refl _, fun r hr => absurd hr (Nat.not_lt_zero r), fun r hr => absurd hr (Nat.not_lt_zero r), fun s hs => absurd hs (Nat.not_lt_zero s)⟩ ?_ ?_
  · obtain ⟨⟨j', x, ne', nx'⟩, h1, nm, h2, h3⟩ := hlp
    dsimp only at h2
    subst h2
    exact ⟨j', nm, ne', nx', h1, h3⟩
  · rintro κ ⟨j', x, ne', nx'⟩ hκ ⟨h1, nm, h2, h3, h4, h5, h6⟩
    dsimp only at h1 h2 h3 h4 h5 h6 ⊢
    subst h1 h2
    left
    unfold fX6_takesOut_L56
    dsimp only
    simp only [ix4]
    rw [if_neg (nI_ge hκ (by omega)), ck_yes (in_R_nI (show 4 * κ + i < 4400 by omega) (by decide)), nI_clamp (by omega), nI_1]
    -- one row more
    have more : ∀ (a b : Int), 0 < a → ab_ a B → ab_ b B → cf_ i (lc_ a (tR_ su κ) b (tR_ su p)) = 0 → ∀ o, o < m → (lc_ a (tR_ su κ) b (tR_ su o) = lc_ a (tR_ su κ) b (tR_ su p)) → ∃ ne2 nx2, fX6_puts (nI nm) ne' su nx' (nI κ) (iL_ a) (nI o) (iL_ b) (ev κ) = some (nI (nm + 1), ne2, nx2) ∧
        (nI (κ + 1) = nI (κ + 1) ∧ ∃ nm', nI (nm + 1) = nI nm' ∧ nm' ≤ κ + 1 ∧ PB_ nm' nx2 ne2 (2 * (B * B)) ∧
      (∀ r, r < nm' → ∃ s, s < m ∧ ∃ a b : Int, 0 < a ∧ fr_ nx2 ne2 r = (lc_ a (tR_ su s) b (tR_ su p), decide (ev s = 1)) ∧ cf_ i (lc_ a (tR_ su s) b (tR_ su p)) = 0) ∧
      (∀ s, s < κ + 1 → s = p ∨ ∃ r, r < nm' ∧ ∃ a b : Int, 0 < a ∧ fr_ nx2 ne2 r = (lc_ a (tR_ su s) b (tR_ su p), decide (ev s = 1)) ∧ cf_ i (lc_ a (tR_ su s) b (tR_ su p)) = 0)) := by
      intro a b ha0 ha hb hcf o ho heq
      obtain ⟨ne2, nx2, e, g1, g2, g3⟩ := m_puts (nm := nm) (s := κ) (o := o) (by omega) (by omega) (by omega) (hP κ hκ).2 (hP o ho).2 ha hb hB (hP κ hκ).1 h4
      rw [heq] at g3
      refine ⟨ne2, nx2, e, rfl, nm + 1, rfl, by omega, g1, ?_, ?_⟩
      · intro r hr
        rcases (show r < nm ∨ r = nm by omega) with q | rfl
        · rw [g2 r q]; exact h5 r q
        · exact ⟨κ, hκ, a, b, ha0, g3, hcf⟩
      · intro s hs
        rcases (show s < κ ∨ s = κ by omega) with q | rfl
        · rcases h6 s q with w | ⟨r, hr, w⟩
          · exact Or.inl w
          · exact Or.inr ⟨r, by omega, by rw [g2 r hr]; exact w⟩
        · exact Or.inr ⟨nm, by omega, a, b, ha0, g3, hcf⟩
    by_cases hκp : κ = p
    · rw [if_pos (by rw [hκp])]
      refine ⟨_, rfl, rfl, nm, rfl, by omega, h4, h5, fun s hs => ?_⟩
      rcases (show s < κ ∨ s = κ by omega) with q | rfl
      · exact h6 s q
      · exact Or.inl hκp
    · rw [if_neg (fun q => hκp ((nI_eq (by omega) (by omega)).mp q))]
      by_cases z : su (4 * κ + i) = 0
      · rw [if_pos ((lg_cmp_eq _ _).mpr z), ck_yes (in_R_nI (show κ < 1100 by omega) (by decide)), nI_clamp (by omega)]
        have e0 : lc_ 1 (tR_ su κ) 0 (tR_ su κ) = lc_ 1 (tR_ su κ) 0 (tR_ su p) := by unfold lc_; simp
        obtain ⟨ne2, nx2, e, g⟩ := more 1 0 (by decide) (by unfold ab_; simpa using hB1) (by unfold ab_; simp) (by rw [cf_lc, ← tR_cell hi, z]; simp) κ hκ e0
        rw [show (1 : Int64) = iL_ 1 from rfl, show (0 : Int64) = iL_ 0 from rfl, bind_yes e]
        exact ⟨_, rfl, g⟩
      · rw [if_neg (fun q => z ((lg_cmp_eq _ _).mp q)), if_neg (nI_nm1 (by omega)), ck_yes (in_R_nI (show 4 * p + i < 4400 by omega) (by decide)), nI_clamp (by omega)]
        have bp := (hP p hp).2 i (by omega)
        have bk := (hP κ hκ).2 i (by omega)
        have hsz : fX6_size (su (4 * p + i)) = some (iL_ ((su (4 * p + i)).toInt.natAbs : Int)) := by
          unfold fX6_size
          by_cases w : (0 : Int64) ≤ su (4 * p + i)
          · rw [if_pos ((lg_cmp_ge _ _).mpr w)]
            have h0 := Int64.le_iff_toInt_le.mp w
            have h00 : (0 : Int64).toInt = 0 := rfl
            rw [show (((su (4 * p + i)).toInt.natAbs : Nat) : Int) = (su (4 * p + i)).toInt by omega, iL_of]
          · rw [if_neg (fun q => w ((lg_cmp_ge _ _).mp q))]
            have h0 : ¬ (0 : Int64).toInt ≤ (su (4 * p + i)).toInt := fun q => w (Int64.le_iff_toInt_le.mpr q)
            have h00 : (0 : Int64).toInt = 0 := rfl
            rw [show (((su (4 * p + i)).toInt.natAbs : Nat) : Int) = - (su (4 * p + i)).toInt by omega, ← iL_neg, iL_of]
        rw [bind_yes hsz]
        have hpz := tz_ hne
        have habs : ab_ ((su (4 * p + i)).toInt.natAbs : Int) B := by unfold ab_ at *; omega
        by_cases w : su (4 * p + i) ≤ (0 : Int64)
        · rw [if_pos ((lg_cmp_le _ _).mpr w), Option.bind_some, ck_yes (in_R_nI (show κ < 1100 by omega) (by decide)), nI_clamp (show κ < 2 ^ 31 by omega)]
          have h0 := Int64.le_iff_toInt_le.mp w
          have h00 : (0 : Int64).toInt = 0 := rfl
          have hcf : cf_ i (lc_ ((su (4 * p + i)).toInt.natAbs : Int) (tR_ su κ) (su (4 * κ + i)).toInt (tR_ su p)) = 0 := by
            rw [cf_lc, ← tR_cell hi, ← tR_cell hi, show (((su (4 * p + i)).toInt.natAbs : Nat) : Int) = - (su (4 * p + i)).toInt by omega]; grind
          obtain ⟨ne2, nx2, e, g⟩ := more _ (su (4 * κ + i)).toInt (by omega) habs bk hcf p hp rfl
          rw [iL_of] at e
          rw [bind_yes e]
          exact ⟨_, rfl, g⟩
        · rw [if_neg (fun q => w ((lg_cmp_le _ _).mp q)), Option.bind_some, ck_yes (in_R_nI (show κ < 1100 by omega) (by decide)), nI_clamp (show κ < 2 ^ 31 by omega)]
          have h0 : ¬ (su (4 * p + i)).toInt ≤ (0 : Int64).toInt := fun q => w (Int64.le_iff_toInt_le.mpr q)
          have h00 : (0 : Int64).toInt = 0 := rfl
          have hcf : cf_ i (lc_ ((su (4 * p + i)).toInt.natAbs : Int) (tR_ su κ) (- (su (4 * κ + i)).toInt) (tR_ su p)) = 0 := by
            rw [cf_lc, ← tR_cell hi, ← tR_cell hi, show (((su (4 * p + i)).toInt.natAbs : Nat) : Int) = (su (4 * p + i)).toInt by omega]; grind
          obtain ⟨ne2, nx2, e, g⟩ := more _ (- (su (4 * κ + i)).toInt) (by omega) habs (ab_neg bk) hcf p hp rfl
          rw [← iL_neg, iL_of] at e
          rw [bind_yes e]
          exact ⟨_, rfl, g⟩
  · rintro ⟨j', x, ne', nx'⟩ ⟨h1, nm, h2, h3⟩
    dsimp only at h1 h2 h3 ⊢
    subst h1 h2
    unfold fX6_takesOut_L56
    rw [if_pos (nI_le (Nat.le_refl m) (by omega))]
    exact ⟨_, rfl, nm, rfl, h3⟩
end TK
