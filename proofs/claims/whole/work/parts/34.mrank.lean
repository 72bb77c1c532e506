/-! the reference's rank: the table, its swaps and eliminations -/
theorem ix4 (r c : Nat) : (4 : Int32) * nI r + nI c = nI (4 * r + c) := by rw [show (4 : Int32) = nI 4 from rfl, pk_mul, nI_add]
theorem ix40 (r : Nat) : (4 : Int32) * nI r = nI (4 * r) := by rw [show (4 : Int32) = nI 4 from rfl, pk_mul]
def gM_ (wl : Nat → Int32) (k : Nat) : Wl_ := ((wl (4 * k)).toInt, (wl (4 * k + 1)).toInt, (wl (4 * k + 2)).toInt, (wl (4 * k + 3)).toInt)
theorem f_at (wl : Nat → Int32) {k c : Nat} (h : 4 * k + c < 32) : fX6_at wl (nI k) (nI c) = some (wl (4 * k + c)) := by
  unfold fX6_at
  simp only [ix4]
  rw [ck_yes (in_R_nI h (by decide)), nI_clamp (by omega)]
/-- a row of four -/
def tR_ (t : Nat → Int64) (r : Nat) : Wl_ := ((t (4 * r)).toInt, (t (4 * r + 1)).toInt, (t (4 * r + 2)).toInt, (t (4 * r + 3)).toInt)
theorem iL_of (x : Int64) : iL_ x.toInt = x := Int64.ofInt_toInt x
theorem m_L137 {p f : Nat} (hp : p < 8) (hf : f < 8) (t : Nat → Int64) :
    ∃ t' i, lp_ (fun (st : (Int32 × (Nat → Int64))) => fX6_rank_L137 (nI p) (nI f) st.1 st.2) fu_ ((0 : Int32), t) = some (i, t') ∧ (∀ c, c < 4 → t' (4 * p + c) = t (4 * f + c) ∧ t' (4 * f + c) = t (4 * p + c)) ∧ ∀ r c, c < 4 → r ≠ p → r ≠ f → t' (4 * r + c) = t (4 * r + c) := by
  have hlp := lp_for (body := fun (st : (Int32 × (Nat → Int64))) => fX6_rank_L137 (nI p) (nI f) st.1 st.2)
    (fun κ st => st.1 = nI κ ∧ (∀ c, c < κ → st.2 (4 * p + c) = t (4 * f + c) ∧ st.2 (4 * f + c) = t (4 * p + c)) ∧ (∀ c, κ ≤ c → c < 4 → st.2 (4 * p + c) = t (4 * p + c) ∧ st.2 (4 * f + c) = t (4 * f + c)) ∧ ∀ r c, c < 4 → r ≠ p → r ≠ f → st.2 (4 * r + c) = t (4 * r + c))
    (fun st => (∀ c, c < 4 → st.2 (4 * p + c) = t (4 * f + c) ∧ st.2 (4 * f + c) = t (4 * p + c)) ∧ ∀ r c, c < 4 → r ≠ p → r ≠ f → st.2 (4 * r + c) = t (4 * r + c)) 4 (by decide) (s := ((0 : Int32), t))
    ⟨rfl, fun c hc => absurd hc (Nat.not_lt_zero c), fun _ _ _ => ⟨rfl, rfl⟩, fun _ _ _ _ _ => rfl⟩ ?_ ?_
  · obtain ⟨⟨i, t'⟩, h1, h2, h3⟩ := hlp
    exact ⟨t', i, h1, h2, h3⟩
  · rintro κ ⟨i, s⟩ hκ ⟨h1, h2, h3, h4⟩
    dsimp only at h1 h2 h3 h4 ⊢
    subst h1
    left
    unfold fX6_rank_L137
    simp only [ix4]
    have hR1 : in_R (nI (4 * p + κ)) 32 := in_R_nI (by omega) (by decide)
    have hR2 : in_R (nI (4 * f + κ)) 32 := in_R_nI (by omega) (by decide)
    rw [if_neg (show ¬ (4 : Int32) ≤ nI κ from nI_ge (a := κ) (b := 4) hκ (by decide)), ck_yes hR1, ck_yes hR2, ck_yes hR1, ck_yes hR2, nI_clamp (by omega), nI_clamp (by omega), nI_1]
    refine ⟨_, rfl, rfl, ?_, ?_, ?_⟩
    · intro c hc
      dsimp only
      rcases (show c < κ ∨ c = κ by omega) with q | rfl
      · rw [pk_uLn (by omega), pk_uLn (by omega), pk_uLn (by omega), pk_uLn (by omega)]; exact h2 c q
      · obtain ⟨a1, a2⟩ := h3 c (Nat.le_refl _) hκ
        by_cases e : p = f
        · subst e; rw [pk_uLs, a1]; exact ⟨rfl, rfl⟩
        · rw [pk_uLn (show 4 * p + c ≠ 4 * f + c by omega), pk_uLs, pk_uLs, a1, a2]; exact ⟨rfl, rfl⟩
    · intro c hc1 hc2
      dsimp only
      rw [pk_uLn (by omega), pk_uLn (by omega), pk_uLn (by omega), pk_uLn (by omega)]
      exact h3 c (by omega) hc2
    · intro r c hc hrp hrf
      dsimp only
      rw [pk_uLn (by omega), pk_uLn (by omega)]
      exact h4 r c hc hrp hrf
  · rintro ⟨i, s⟩ ⟨h1, h2, h3, h4⟩
    dsimp only at h1 h2 h3 h4 ⊢
    subst h1
    unfold fX6_rank_L137
    rw [if_pos (show (4 : Int32) ≤ nI 4 by decide)]
    exact ⟨_, rfl, h2, h4⟩
theorem m_L244 {r f i : Nat} (hr : r < 8) (hf : f < r) (hi : i < 4) (t : Nat → Int64) :
    ∃ t' j, lp_ (fun (st : (Int32 × (Nat → Int64))) => fX6_rank_L244 (nI r) (nI f) t (nI i) st.1 st.2) fu_ ((0 : Int32), t) = some (j, t') ∧ (∀ c, c < 4 → t' (4 * r + c) = t (4 * r + c) * t (4 * f + i) - t (4 * f + c) * t (4 * r + i)) ∧ ∀ r' c, c < 4 → r' ≠ r → t' (4 * r' + c) = t (4 * r' + c) := by
  have hlp := lp_for (body := fun (st : (Int32 × (Nat → Int64))) => fX6_rank_L244 (nI r) (nI f) t (nI i) st.1 st.2)
    (fun κ st => st.1 = nI κ ∧ (∀ c, c < κ → st.2 (4 * r + c) = t (4 * r + c) * t (4 * f + i) - t (4 * f + c) * t (4 * r + i)) ∧ (∀ c, κ ≤ c → c < 4 → st.2 (4 * r + c) = t (4 * r + c)) ∧ ∀ r' c, c < 4 → r' ≠ r → st.2 (4 * r' + c) = t (4 * r' + c))
    (fun st => (∀ c, c < 4 → st.2 (4 * r + c) = t (4 * r + c) * t (4 * f + i) - t (4 * f + c) * t (4 * r + i)) ∧ ∀ r' c, c < 4 → r' ≠ r → st.2 (4 * r' + c) = t (4 * r' + c)) 4 (by decide) (s := ((0 : Int32), t))
    ⟨rfl, fun c hc => absurd hc (Nat.not_lt_zero c), fun _ _ _ => rfl, fun _ _ _ _ => rfl⟩ ?_ ?_
  · obtain ⟨⟨j, t'⟩, h1, h2, h3⟩ := hlp
    exact ⟨t', j, h1, h2, h3⟩
  · rintro κ ⟨j, s⟩ hκ ⟨h1, h2, h3, h4⟩
    dsimp only at h1 h2 h3 h4 ⊢
    subst h1
    left
    unfold fX6_rank_L244
    simp only [ix4]
    have hR1 : in_R (nI (4 * r + κ)) 32 := in_R_nI (by omega) (by decide)
    have hR2 : in_R (nI (4 * f + κ)) 32 := in_R_nI (by omega) (by decide)
    rw [if_neg (show ¬ (4 : Int32) ≤ nI κ from nI_ge (a := κ) (b := 4) hκ (by decide)), ck_yes hR1, ck_yes hR2, ck_yes hR1, nI_clamp (by omega), nI_clamp (by omega), nI_clamp (by omega), nI_clamp (by omega), nI_1]
    refine ⟨_, rfl, rfl, ?_, ?_, ?_⟩
    · intro c hc
      dsimp only
      rcases (show c < κ ∨ c = κ by omega) with q | rfl
      · rw [pk_uLn (by omega)]; exact h2 c q
      · rw [pk_uLs, h3 c (Nat.le_refl _) hκ, h4 f c hκ (by omega)]
    · intro c hc1 hc2
      dsimp only
      rw [pk_uLn (by omega)]; exact h3 c (by omega) hc2
    · intro r' c hc hr'
      dsimp only
      rw [pk_uLn (by omega)]; exact h4 r' c hc hr'
  · rintro ⟨j, s⟩ ⟨h1, h2, h3, h4⟩
    dsimp only at h1 h2 h3 h4 ⊢
    subst h1
    unfold fX6_rank_L244
    rw [if_pos (show (4 : Int32) ≤ nI 4 by decide)]
    exact ⟨_, rfl, h2, h4⟩
theorem m_L207 {m f i : Nat} (hm : m ≤ 8) (hf : f < m) (hi : i < 4) (a0 : Int32) (b0 : Nat → Int64) (t : Nat → Int64) :
    ∃ t' j, lp_ (fun (st : (Int32 × (Nat → Int64))) => fX6_rank_L207 (a0, nI m, b0) (nI i) (nI f) st.1 st.2) fu_ (nI (f + 1), t) = some (j, t') ∧ (∀ r c, c < 4 → f < r → r < m → t' (4 * r + c) = t (4 * r + c) * t (4 * f + i) - t (4 * f + c) * t (4 * r + i)) ∧ ∀ r c, c < 4 → r ≤ f → t' (4 * r + c) = t (4 * r + c) := by
  have hlp := lp_for (body := fun (st : (Int32 × (Nat → Int64))) => fX6_rank_L207 (a0, nI m, b0) (nI i) (nI f) st.1 st.2)
    (fun κ st => st.1 = nI (f + 1 + κ) ∧ (∀ r c, c < 4 → f < r → r < f + 1 + κ → st.2 (4 * r + c) = t (4 * r + c) * t (4 * f + i) - t (4 * f + c) * t (4 * r + i)) ∧ ∀ r c, c < 4 → (r ≤ f ∨ f + 1 + κ ≤ r) → st.2 (4 * r + c) = t (4 * r + c))
    (fun st => (∀ r c, c < 4 → f < r → r < m → st.2 (4 * r + c) = t (4 * r + c) * t (4 * f + i) - t (4 * f + c) * t (4 * r + i)) ∧ ∀ r c, c < 4 → r ≤ f → st.2 (4 * r + c) = t (4 * r + c)) (m - (f + 1)) (by omega) (s := (nI (f + 1), t))
    ⟨rfl, fun r c _ h1 h2 => by omega, fun _ _ _ _ => rfl⟩ ?_ ?_
  · obtain ⟨⟨j, t'⟩, h1, h2, h3⟩ := hlp
    exact ⟨t', j, h1, h2, h3⟩
  · rintro κ ⟨j, s⟩ hκ ⟨h1, h2, h3⟩
    dsimp only at h1 h2 h3 ⊢
    subst h1
    left
    unfold fX6_rank_L207
    simp only [ix4]
    rw [if_neg (nI_ge (show f + 1 + κ < m by omega) (by omega)), ck_yes (in_R_nI (show 4 * (f + 1 + κ) + i < 32 by omega) (by decide)), ck_yes (in_R_nI (show 4 * f + i < 32 by omega) (by decide))]
    obtain ⟨t', j, e, g1, g2⟩ := m_L244 (r := f + 1 + κ) (f := f) (i := i) (by omega) (by omega) hi s
    rw [bind_yes e, nI_1]
    refine ⟨_, rfl, rfl, ?_, ?_⟩
    · intro r c hc hr1 hr2
      dsimp only
      rcases (show r < f + 1 + κ ∨ r = f + 1 + κ by omega) with q | rfl
      · rw [g2 r c hc (by omega)]; exact h2 r c hc hr1 q
      · rw [g1 c hc, h3 _ c hc (Or.inr (Nat.le_refl _)), h3 f i hi (Or.inl (Nat.le_refl _)), h3 f c hc (Or.inl (Nat.le_refl _)), h3 _ i hi (Or.inr (Nat.le_refl _))]
    · intro r c hc hr
      dsimp only
      rw [g2 r c hc (by omega)]
      exact h3 r c hc (by omega)
  · rintro ⟨j, s⟩ ⟨h1, h2, h3⟩
    dsimp only at h1 h2 h3 ⊢
    subst h1
    unfold fX6_rank_L207
    rw [if_pos (nI_le (show m ≤ f + 1 + (m - (f + 1)) by omega) (by omega))]
    exact ⟨_, rfl, fun r c hc h4 h5 => h2 r c hc h4 (by omega), fun r c hc hr => h3 r c hc (Or.inl hr)⟩
theorem m_L96 {m f i : Nat} (hm : m ≤ 8) (hf : f ≤ m) (hi : i < 4) (a0 : Int32) (b0 : Nat → Int64) (t : Nat → Int64) :
    ∃ p, lp_ (fun (st : Int32) => fX6_rank_L96 (a0, nI m, b0) (nI i) t st) fu_ (nI f) = some (nI p) ∧ f ≤ p ∧ p ≤ m ∧ (∀ r, f ≤ r → r < p → t (4 * r + i) = 0) ∧ (p < m → t (4 * p + i) ≠ 0) := by
  have hlp := lp_for (body := fun (st : Int32) => fX6_rank_L96 (a0, nI m, b0) (nI i) t st)
    (fun κ st => st = nI (f + κ) ∧ ∀ r, f ≤ r → r < f + κ → t (4 * r + i) = 0)
    (fun x => ∃ p, x = nI p ∧ f ≤ p ∧ p ≤ m ∧ (∀ r, f ≤ r → r < p → t (4 * r + i) = 0) ∧ (p < m → t (4 * p + i) ≠ 0)) (m - f) (by omega) (s := nI f)
    ⟨rfl, fun r h1 h2 => by omega⟩ ?_ ?_
  · obtain ⟨x, h1, p, rfl, h2⟩ := hlp
    exact ⟨p, h1, h2⟩
  · rintro κ st hκ ⟨rfl, h2⟩
    unfold fX6_rank_L96
    simp only [ix4]
    rw [if_neg (nI_ge (show f + κ < m by omega) (by omega)), ck_yes (in_R_nI (show 4 * (f + κ) + i < 32 by omega) (by decide)), nI_clamp (by omega)]
    by_cases q : t (4 * (f + κ) + i) = 0
    · left
      rw [if_pos ((lg_cmp_eq _ _).mpr q), nI_1]
      refine ⟨_, rfl, rfl, fun r h1 h3 => ?_⟩
      rcases (show r < f + κ ∨ r = f + κ by omega) with w | rfl
      · exact h2 r h1 w
      · exact q
    · right
      rw [if_neg (fun w => q ((lg_cmp_eq _ _).mp w))]
      exact ⟨_, rfl, f + κ, rfl, by omega, by omega, h2, fun _ => q⟩
  · rintro st ⟨rfl, h2⟩
    unfold fX6_rank_L96
    rw [if_pos (nI_le (show m ≤ f + (m - f) by omega) (by omega))]
    exact ⟨_, rfl, f + (m - f), rfl, by omega, by omega, h2, fun h => by omega⟩
/-- one column: it is skipped, or its first row comes to the top and the rest is made 0 there -/
theorem m_L86 {m f i p2 : Nat} (hm : m ≤ 8) (hf : f ≤ m) (hi : i < p2) (hp2 : p2 ≤ 4) (a0 : Int32) (b0 : Nat → Int64) (t : Nat → Int64) :
    ((∀ r, f ≤ r → r < m → t (4 * r + i) = 0) ∧ fX6_rank_L86 (nI p2) (a0, nI m, b0) (nI i) (nI f) t = some (.inl (nI (i + 1), nI f, t))) ∨
    ∃ (p : Nat) (s t' : Nat → Int64), f ≤ p ∧ p < m ∧ t (4 * p + i) ≠ 0 ∧ fX6_rank_L86 (nI p2) (a0, nI m, b0) (nI i) (nI f) t = some (.inl (nI (i + 1), nI (f + 1), t')) ∧
      (∀ c, c < 4 → s (4 * p + c) = t (4 * f + c) ∧ s (4 * f + c) = t (4 * p + c)) ∧ (∀ r c, c < 4 → r ≠ p → r ≠ f → s (4 * r + c) = t (4 * r + c)) ∧
      (∀ r c, c < 4 → f < r → r < m → t' (4 * r + c) = s (4 * r + c) * s (4 * f + i) - s (4 * f + c) * s (4 * r + i)) ∧ ∀ r c, c < 4 → r ≤ f → t' (4 * r + c) = s (4 * r + c) := by
  unfold fX6_rank_L86
  rw [if_neg (nI_ge hi (by omega))]
  obtain ⟨p, e, h1, h2, h3, h4⟩ := m_L96 hm hf (show i < 4 by omega) a0 b0 t
  rw [bind_yes e]
  by_cases q : p = m
  · left
    rw [if_pos (by rw [q]), nI_1]
    exact ⟨fun r h5 h6 => h3 r h5 (by omega), rfl⟩
  · right
    rw [if_neg (fun w => q ((nI_eq (by omega) (by omega)).mp w))]
    obtain ⟨s, j, e2, g1, g2⟩ := m_L137 (p := p) (f := f) (by omega) (by omega) t
    obtain ⟨t', j2, e3, g3, g4⟩ := m_L207 (m := m) (f := f) (i := i) hm (by omega) (by omega) a0 b0 s
    rw [bind_yes e2, nI_1]
    dsimp only
    rw [bind_yes e3, nI_1]
    exact ⟨p, s, t', h1, by omega, h4 (by omega), rfl, g1, g2, g3, g4⟩
