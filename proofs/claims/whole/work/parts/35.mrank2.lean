/-! the reference's rank is the rank -/
theorem bit_t {h k : Nat} (hh : h < 2 ^ 31) (hk : k < 31) : (nI h >>> (nI k &&& 31)) &&& (1 : Int32) = nI (if h.testBit k = true then 1 else 0) := by
  rw [pk_shrN hh (nI k &&& 31) k (s_l k (by omega)), pk_andN (m := 1) (Nat.lt_of_le_of_lt (Nat.div_le_self _ _) (by omega)) 1 (by decide), Nat.testBit_eq_decide_div_mod_eq]
  have := Nat.mod_lt (h / 2 ^ k) (show 0 < 2 by decide)
  rw [Nat.pow_one]
  rcases (show h / 2 ^ k % 2 = 0 ∨ h / 2 ^ k % 2 = 1 by omega) with q | q <;> simp [q]
theorem bit_t0 {h k : Nat} (hh : h < 2 ^ 31) (hk : k < 31) : ((nI h >>> (nI k &&& 31)) &&& (1 : Int32) = 0) ↔ h.testBit k = false := by
  rw [bit_t hh hk]
  cases h.testBit k <;> decide
theorem bit_t1 {h k : Nat} (hh : h < 2 ^ 31) (hk : k < 31) : ((nI h >>> (nI k &&& 31)) &&& (1 : Int32) = 1) ↔ h.testBit k = true := by
  rw [bit_t hh hk]
  cases h.testBit k <;> decide
theorem m_L29 {p2 q k : Nat} (hp : p2 ≤ 4) (hq : q < 8) (hk : k < 8) (wl : Nat → Int32) (t : Nat → Int64) :
    ∃ t' i, lp_ (fun (st : (Int32 × (Nat → Int64))) => fX6_rank_L29 (nI p2) (nI q) wl (nI k) st.1 st.2) fu_ ((0 : Int32), t) = some (i, t') ∧ (∀ c, c < 4 → t' (4 * q + c) = if c < p2 then (wl (4 * k + c)).toInt64 else 0) ∧ ∀ r c, c < 4 → r ≠ q → t' (4 * r + c) = t (4 * r + c) := by
  have hlp := lp_for (body := fun (st : (Int32 × (Nat → Int64))) => fX6_rank_L29 (nI p2) (nI q) wl (nI k) st.1 st.2)
    (fun κ st => st.1 = nI κ ∧ (∀ c, c < κ → st.2 (4 * q + c) = if c < p2 then (wl (4 * k + c)).toInt64 else 0) ∧ ∀ r c, c < 4 → r ≠ q → st.2 (4 * r + c) = t (4 * r + c))
    (fun st => (∀ c, c < 4 → st.2 (4 * q + c) = if c < p2 then (wl (4 * k + c)).toInt64 else 0) ∧ ∀ r c, c < 4 → r ≠ q → st.2 (4 * r + c) = t (4 * r + c)) 4 (by decide) (s := ((0 : Int32), t))
    ⟨rfl, fun c hc => absurd hc (Nat.not_lt_zero c), fun _ _ _ _ => rfl⟩ ?_ ?_
  · obtain ⟨⟨j, t'⟩, h1, h2, h3⟩ := hlp
    exact ⟨t', j, h1, h2, h3⟩
  · rintro κ ⟨j, s⟩ hκ ⟨h1, h2, h3⟩
    dsimp only at h1 h2 h3 ⊢
    subst h1
    left
    unfold fX6_rank_L29
    simp only [ix4]
    have hR : in_R (nI (4 * q + κ)) 32 := in_R_nI (by omega) (by decide)
    rw [if_neg (show ¬ (4 : Int32) ≤ nI κ from nI_ge (a := κ) (b := 4) hκ (by decide))]
    have fin : ∀ v, (if κ < p2 then (wl (4 * k + κ)).toInt64 else 0) = v → ∃ s', (some (Sum.inl (nI (κ + 1), vp_updL s (4 * q + κ) v)) : Option ((Int32 × (Nat → Int64)) ⊕ (Int32 × (Nat → Int64)))) = some (Sum.inl s') ∧ s'.1 = nI (κ + 1) ∧ (∀ c, c < κ + 1 → s'.2 (4 * q + c) = if c < p2 then (wl (4 * k + c)).toInt64 else 0) ∧ ∀ r c, c < 4 → r ≠ q → s'.2 (4 * r + c) = t (4 * r + c) := by
      intro v hv
      refine ⟨_, rfl, rfl, ?_, ?_⟩
      · intro c hc
        dsimp only
        rcases (show c < κ ∨ c = κ by omega) with w | rfl
        · rw [pk_uLn (by omega)]; exact h2 c w
        · rw [pk_uLs, hv]
      · intro r c hc hr
        dsimp only
        rw [pk_uLn (by omega)]; exact h3 r c hc hr
    by_cases w : κ < p2
    · rw [if_neg (nI_ge w (by omega)), bind_yes (f_at wl (by omega)), ck_yes hR, nI_clamp (by omega), nI_1]
      exact fin _ (if_pos w)
    · rw [if_pos (nI_le (show p2 ≤ κ by omega) (by omega)), ck_yes hR, nI_clamp (by omega), nI_1]
      exact fin _ (if_neg w)
  · rintro ⟨j, s⟩ ⟨h1, h2, h3⟩
    dsimp only at h1 h2 h3 ⊢
    subst h1
    unfold fX6_rank_L29
    rw [if_pos (show (4 : Int32) ≤ nI 4 by decide)]
    exact ⟨_, rfl, h2, h3⟩
theorem m_L5 {n h p2 : Nat} (hn : n ≤ 8) (hh : h < 2 ^ n) (hp : p2 ≤ 4) (wl : Nat → Int32) (t : Nat → Int64) :
    ∃ t' i, lp_ (fun (st : (Int32 × Int32 × (Nat → Int64))) => fX6_rank_L5 (nI n) (nI h) (nI p2) wl st.1 st.2.1 st.2.2) fu_ ((0 : Int32), (0 : Int32), t) = some (i, nI (fb_ct (fun k => h.testBit k) n), t') ∧
      ∀ k, k < n → h.testBit k = true → ∀ c, c < 4 → t' (4 * fb_ct (fun k => h.testBit k) k + c) = if c < p2 then (wl (4 * k + c)).toInt64 else 0 := by
  have h2n : 2 ^ n ≤ 256 := Nat.pow_le_pow_right (n := 2) (j := 8) (by decide) hn
  have hlp := lp_for (body := fun (st : (Int32 × Int32 × (Nat → Int64))) => fX6_rank_L5 (nI n) (nI h) (nI p2) wl st.1 st.2.1 st.2.2)
    (fun κ st => st.1 = nI κ ∧ st.2.1 = nI (fb_ct (fun k => h.testBit k) κ) ∧ ∀ k, k < κ → h.testBit k = true → ∀ c, c < 4 → st.2.2 (4 * fb_ct (fun k => h.testBit k) k + c) = if c < p2 then (wl (4 * k + c)).toInt64 else 0)
    (fun st => st.2.1 = nI (fb_ct (fun k => h.testBit k) n) ∧ ∀ k, k < n → h.testBit k = true → ∀ c, c < 4 → st.2.2 (4 * fb_ct (fun k => h.testBit k) k + c) = if c < p2 then (wl (4 * k + c)).toInt64 else 0) n (by omega) (s := ((0 : Int32), (0 : Int32), t))
    ⟨rfl, rfl, fun k hk => absurd hk (Nat.not_lt_zero k)⟩ ?_ ?_
  · obtain ⟨⟨i, j, t'⟩, h1, h2, h3⟩ := hlp
    dsimp only at h2 h3
    subst h2
    exact ⟨t', i, h1, h3⟩
  · rintro κ ⟨i, j, s⟩ hκ ⟨h1, h2, h3⟩
    dsimp only at h1 h2 h3 ⊢
    subst h1 h2
    left
    have hle := fb_ct_le (fun k => h.testBit k) κ
    unfold fX6_rank_L5
    rw [if_neg (nI_ge hκ (by omega))]
    have hb := bit_t0 (h := h) (k := κ) (by omega) (by omega)
    cases e : h.testBit κ with
    | false =>
      rw [if_pos (hb.mpr e), nI_1]
      refine ⟨_, rfl, rfl, by rw [fb_ct_succ, e]; simp, fun k hk hbk => ?_⟩
      rcases (show k < κ ∨ k = κ by omega) with w | rfl
      · exact h3 k w hbk
      · rw [e] at hbk; cases hbk
    | true =>
      rw [if_neg (fun w => by rw [hb.mp w] at e; cases e)]
      obtain ⟨t', j, e1, g1, g2⟩ := m_L29 (p2 := p2) (q := fb_ct (fun k => h.testBit k) κ) (k := κ) hp (by omega) (by omega) wl s
      rw [bind_yes e1, nI_1, nI_1]
      refine ⟨_, rfl, rfl, by rw [fb_ct_succ, e]; rfl, fun k hk hbk c hc => ?_⟩
      dsimp only
      rcases (show k < κ ∨ k = κ by omega) with w | rfl
      · have m2 := fb_ct_mono (fun k => h.testBit k) (show k + 1 ≤ κ by omega)
        rw [fb_ct_succ] at m2
        simp only [hbk, if_true] at m2
        rw [g2 _ c hc (by omega)]; exact h3 k w hbk c hc
      · exact g1 c hc
  · rintro ⟨i, j, s⟩ ⟨h1, h2, h3⟩
    dsimp only at h1 h2 h3 ⊢
    subst h1 h2
    unfold fX6_rank_L5
    rw [if_pos (nI_le (Nat.le_refl n) (by omega))]
    exact ⟨_, rfl, rfl, h3⟩
def BB_ : Nat → Nat
  | 0 => 99
  | i + 1 => 2 * (BB_ i * BB_ i)
theorem BB_3 : BB_ 3 = 1181113208886757728 ∨ BB_ 3 < 9223372036854775808 := Or.inr (by decide +kernel)
theorem BB_le : ∀ i : Fin 4, BB_ i.val < 9223372036854775808 := by decide +kernel
theorem tR_cell {t : Nat → Int64} {r i : Nat} (hi : i < 3) : (t (4 * r + i)).toInt = cf_ i (tR_ t r) := by
  rcases (show i = 0 ∨ i = 1 ∨ i = 2 by omega) with rfl | rfl | rfl <;> rfl
theorem tR_cg {t s : Nat → Int64} {r q : Nat} (h : ∀ c, c < 4 → t (4 * r + c) = s (4 * q + c)) : tR_ t r = tR_ s q := by
  have h0 := h 0 (by decide)
  have h1 := h 1 (by decide)
  have h2 := h 2 (by decide)
  have h3 := h 3 (by decide)
  simp only [Nat.add_zero] at h0
  unfold tR_
  rw [h0, h1, h2, h3]
theorem el_int {u v w z : Int64} {B : Nat} (hu : ab_ u.toInt B) (hv : ab_ v.toInt B) (hw : ab_ w.toInt B) (hz : ab_ z.toInt B) (hB : 2 * (B * B) < 9223372036854775808) : (u * v - w * z).toInt = u.toInt * v.toInt - w.toInt * z.toInt ∧ ab_ (u * v - w * z).toInt (2 * (B * B)) := by
  have hab : ab_ (u.toInt * v.toInt - w.toInt * z.toInt) (2 * (B * B)) := ab_mono (ab_sub (ab_mul hu hv) (ab_mul hw hz)) (by omega)
  have e : u * v - w * z = iL_ (u.toInt * v.toInt - w.toInt * z.toInt) := by rw [← iL_sub, ← iL_mul, ← iL_mul, iL_of, iL_of, iL_of, iL_of]
  rw [e, iL_toInt (ab_sl hab hB)]
  exact ⟨rfl, hab⟩
/-- the state of the elimination ahead of a column -/
def GI_ (T : List Wl_) (m i f : Nat) (t : Nat → Int64) : Prop :=
  f ≤ m ∧ (∃ top, top.length = f ∧ Gs_ T i top (wl_ (fun k => tR_ t (f + k)) (m - f))) ∧ ∀ r c, f ≤ r → r < m → c < 4 → ab_ (t (4 * r + c)).toInt (BB_ i)
theorem rest_mem {t : Nat → Int64} {m f : Nat} {x : Wl_} : x ∈ wl_ (fun k => tR_ t (f + k)) (m - f) ↔ ∃ r, f ≤ r ∧ r < m ∧ x = tR_ t r := by
  rw [wl_mem]
  constructor
  · rintro ⟨k, hk, rfl⟩; exact ⟨f + k, by omega, by omega, rfl⟩
  · rintro ⟨r, h1, h2, rfl⟩; exact ⟨r - f, by omega, by rw [show f + (r - f) = r by omega]⟩
theorem GI_step {T : List Wl_} {m i f : Nat} (hm : m ≤ 8) (hi : i < 3) {t s t' : Nat → Int64} (h : GI_ T m i f t) {p : Nat} (hp1 : f ≤ p) (hp2 : p < m) (hne : t (4 * p + i) ≠ 0)
    (g1 : ∀ c, c < 4 → s (4 * p + c) = t (4 * f + c) ∧ s (4 * f + c) = t (4 * p + c)) (g2 : ∀ r c, c < 4 → r ≠ p → r ≠ f → s (4 * r + c) = t (4 * r + c))
    (g3 : ∀ r c, c < 4 → f < r → r < m → t' (4 * r + c) = s (4 * r + c) * s (4 * f + i) - s (4 * f + c) * s (4 * r + i)) : GI_ T m (i + 1) (f + 1) t' := by
  obtain ⟨hf, ⟨top, htop, hG⟩, hB⟩ := h
  have hBB := BB_le ⟨i + 1, by omega⟩
  have sB : ∀ r c, f ≤ r → r < m → c < 4 → ab_ (s (4 * r + c)).toInt (BB_ i) := by
    intro r c h1 h2 hc
    by_cases e1 : r = p
    · subst e1; rw [(g1 c hc).1]; exact hB f c (Nat.le_refl _) (by omega) hc
    · by_cases e2 : r = f
      · subst e2; rw [(g1 c hc).2]; exact hB p c hp1 hp2 hc
      · rw [g2 r c hc e1 e2]; exact hB r c h1 h2 hc
  have sf : tR_ s f = tR_ t p := tR_cg (fun c hc => (g1 c hc).2)
  have el : ∀ r c, f < r → r < m → c < 4 → (t' (4 * r + c)).toInt = (s (4 * r + c)).toInt * (s (4 * f + i)).toInt - (s (4 * f + c)).toInt * (s (4 * r + i)).toInt ∧ ab_ (t' (4 * r + c)).toInt (BB_ (i + 1)) := by
    intro r c h1 h2 hc
    rw [g3 r c hc h1 h2]
    exact el_int (sB r c (by omega) h2 hc) (sB f i (Nat.le_refl _) (by omega) (by omega)) (sB f c (Nat.le_refl _) (by omega) hc) (sB r i (by omega) h2 (by omega)) hBB
  have row : ∀ r, f < r → r < m → tR_ t' r = lc_ (cf_ i (tR_ t p)) (tR_ s r) (- cf_ i (tR_ s r)) (tR_ t p) := by
    intro r h1 h2
    rw [← sf, ← tR_cell hi, ← tR_cell hi]
    have e0 := (el r 0 h1 h2 (by decide)).1
    have e1 := (el r 1 h1 h2 (by decide)).1
    have e2 := (el r 2 h1 h2 (by decide)).1
    have e3 := (el r 3 h1 h2 (by decide)).1
    simp only [Nat.add_zero] at e0
    unfold lc_ tR_
    dsimp only
    rw [e0, e1, e2, e3]
    simp only [Prod.mk.injEq]
    refine ⟨?_, ?_, ?_, ?_⟩ <;> grind
  refine ⟨by omega, ⟨top ++ [(tR_ t p, i)], by simp [htop], ?_⟩, fun r c h1 h2 hc => (el r c (by omega) h2 hc).2⟩
  refine Gs_step hi hG (rest_mem.mpr ⟨p, hp1, hp2, rfl⟩) ?_ ?_ ?_
  · rw [← tR_cell hi]
    intro q
    exact hne (Int64.toInt_inj.mp q)
  · intro r' hr'
    obtain ⟨r, h1, h2, rfl⟩ := rest_mem.mp hr'
    refine ⟨tR_ s r, ?_, row r (by omega) h2⟩
    by_cases e1 : r = p
    · subst e1; exact rest_mem.mpr ⟨f, Nat.le_refl _, by omega, tR_cg (fun c hc => (g1 c hc).1)⟩
    · exact rest_mem.mpr ⟨r, by omega, h2, tR_cg (fun c hc => g2 r c hc e1 (by omega))⟩
  · intro x hx
    obtain ⟨r, h1, h2, rfl⟩ := rest_mem.mp hx
    by_cases e1 : r = p
    · subst e1; exact Or.inl rfl
    · right
      by_cases e2 : r = f
      · subst e2
        have : tR_ t r = tR_ s p := tR_cg (fun c hc => ((g1 c hc).1).symm)
        rw [this]
        exact rest_mem.mpr ⟨p, by omega, hp2, (row p (by omega) hp2).symm⟩
      · have : tR_ t r = tR_ s r := tR_cg (fun c hc => (g2 r c hc e1 e2).symm)
        rw [this]
        exact rest_mem.mpr ⟨r, by omega, h2, (row r (by omega) h2).symm⟩
theorem GI_skip {T : List Wl_} {m i f : Nat} (hi : i < 3) {t : Nat → Int64} (h : GI_ T m i f t) (h0 : ∀ r, f ≤ r → r < m → t (4 * r + i) = 0) : GI_ T m (i + 1) f t := by
  obtain ⟨hf, ⟨top, htop, hG⟩, hB⟩ := h
  refine ⟨hf, ⟨top, htop, Gs_skip hG (fun r hr => ?_)⟩, fun r c h1 h2 hc => ab_mono (hB r c h1 h2 hc) ?_⟩
  · obtain ⟨k, h1, h2, rfl⟩ := rest_mem.mp hr
    rw [← tR_cell hi, h0 k h1 h2]; rfl
  · rcases (show i = 0 ∨ i = 1 ∨ i = 2 by omega) with rfl | rfl | rfl <;> decide +kernel
/-- the walls of a heap have a place in common -/
def hC_ (G : Nat → Wl_) (h : Nat) : Prop := ∃ p, ∀ k, h.testBit k = true → ev_ (G k) p = 0
theorem m_elim {T : List Wl_} {m p2 : Nat} (hm : m ≤ 8) (hp : p2 = 3 ∨ p2 = 4) {t : Nat → Int64} (h : GI_ T m 0 0 t) (a0 : Int32) (b0 : Nat → Int64) :
    ∃ f t' i3 f3 t3, lp_ (fun (st : (Int32 × Int32 × (Nat → Int64))) => fX6_rank_L86 (nI p2) (a0, nI m, b0) st.1 st.2.1 st.2.2) fu_ ((0 : Int32), (0 : Int32), t) = some (i3, nI f, t') ∧ GI_ T m 3 f3 t3 ∧ (p2 = 3 → f = f3) ∧ (p2 = 4 → (∀ r, f3 ≤ r → r < m → t3 (4 * r + 3) = 0) ∧ f = f3 ∨ (∃ r, f3 ≤ r ∧ r < m ∧ t3 (4 * r + 3) ≠ 0) ∧ f = f3 + 1) := by
  have hlp := lp_for (body := fun (st : (Int32 × Int32 × (Nat → Int64))) => fX6_rank_L86 (nI p2) (a0, nI m, b0) st.1 st.2.1 st.2.2)
    (fun i st => st.1 = nI i ∧ ∃ f, st.2.1 = nI f ∧ (i ≤ 3 ∧ GI_ T m i f st.2.2 ∨ i = 4 ∧ ∃ f3 t3, GI_ T m 3 f3 t3 ∧ ((∀ r, f3 ≤ r → r < m → t3 (4 * r + 3) = 0) ∧ f = f3 ∨ (∃ r, f3 ≤ r ∧ r < m ∧ t3 (4 * r + 3) ≠ 0) ∧ f = f3 + 1)))
    (fun st => ∃ f f3 t3, st.2.1 = nI f ∧ GI_ T m 3 f3 t3 ∧ (p2 = 3 → f = f3) ∧ (p2 = 4 → (∀ r, f3 ≤ r → r < m → t3 (4 * r + 3) = 0) ∧ f = f3 ∨ (∃ r, f3 ≤ r ∧ r < m ∧ t3 (4 * r + 3) ≠ 0) ∧ f = f3 + 1)) p2 (by omega) (s := ((0 : Int32), (0 : Int32), t))
    ⟨rfl, 0, rfl, Or.inl ⟨by omega, h⟩⟩ ?_ ?_
  · obtain ⟨⟨i3, f', t'⟩, h1, f, f3, t3, h2, h3⟩ := hlp
    dsimp only at h2
    subst h2
    exact ⟨f, t', i3, f3, t3, h1, h3⟩
  · rintro i ⟨i', f', t'⟩ hi ⟨h1, f, h2, h3⟩
    dsimp only at h1 h2 h3 ⊢
    subst h1 h2
    left
    rcases h3 with ⟨hi3, hG⟩ | ⟨hi4, _⟩
    · rcases m_L86 (m := m) (f := f) (i := i) (p2 := p2) hm hG.1 hi (by omega) a0 b0 t' with ⟨z, e⟩ | ⟨p, s, t2, q1, q2, q3, e, q4, q5, q6, q7⟩
      · rw [e]
        refine ⟨_, rfl, rfl, f, rfl, ?_⟩
        by_cases w : i = 3
        · subst w
          exact Or.inr ⟨rfl, f, t', hG, Or.inl ⟨z, rfl⟩⟩
        · exact Or.inl ⟨by omega, GI_skip (by omega) hG z⟩
      · rw [e]
        refine ⟨_, rfl, rfl, f + 1, rfl, ?_⟩
        by_cases w : i = 3
        · subst w
          exact Or.inr ⟨rfl, f, t', hG, Or.inr ⟨⟨p, q1, q2, q3⟩, rfl⟩⟩
        · exact Or.inl ⟨by omega, GI_step hm (by omega) hG q1 q2 q3 q4 q5 q6⟩
    · omega
  · rintro ⟨i', f', t'⟩ ⟨h1, f, h2, h3⟩
    dsimp only at h1 h2 h3 ⊢
    subst h1 h2
    unfold fX6_rank_L86
    rw [if_pos (nI_le (Nat.le_refl p2) (by omega))]
    rcases hp with rfl | rfl
    · rcases h3 with ⟨_, hG⟩ | ⟨w, _⟩
      · exact ⟨_, rfl, f, f, t', rfl, hG, fun _ => rfl, fun w => by omega⟩
      · omega
    · rcases h3 with ⟨w, _⟩ | ⟨_, f3, t3, hG, hw⟩
      · omega
      · exact ⟨_, rfl, f, f3, t3, rfl, hG, fun w => by omega, fun _ => hw⟩
/-- a wall with or without its last number -/
def ww_ (p2 : Nat) (w : Wl_) : Wl_ := (w.1, w.2.1, w.2.2.1, if p2 = 4 then w.2.2.2 else 0)
theorem rk_ww (p2 : Nat) (X : Wl_ → Prop) : rk_ (fun x => ∃ y, X y ∧ x = ww_ p2 y) = rk_ X := by
  have e3 : R3_ (fun x => ∃ y, X y ∧ x = ww_ p2 y) ↔ R3_ X := by
    constructor
    · rintro ⟨x, y, z, ⟨x', hx, rfl⟩, ⟨y', hy, rfl⟩, ⟨z', hz, rfl⟩, hd⟩; exact ⟨x', y', z', hx, hy, hz, hd⟩
    · rintro ⟨x, y, z, hx, hy, hz, hd⟩; exact ⟨_, _, _, ⟨x, hx, rfl⟩, ⟨y, hy, rfl⟩, ⟨z, hz, rfl⟩, hd⟩
  have e2 : R2_ (fun x => ∃ y, X y ∧ x = ww_ p2 y) ↔ R2_ X := by
    constructor
    · rintro ⟨x, y, ⟨x', hx, rfl⟩, ⟨y', hy, rfl⟩, hd⟩; exact ⟨x', y', hx, hy, hd⟩
    · rintro ⟨x, y, hx, hy, hd⟩; exact ⟨_, _, ⟨x, hx, rfl⟩, ⟨y, hy, rfl⟩, hd⟩
  have e1 : (∃ x, ∃ y, X y ∧ x = ww_ p2 y) ↔ ∃ x, X x := by
    constructor
    · rintro ⟨x, y, hy, _⟩; exact ⟨y, hy⟩
    · rintro ⟨x, hx⟩; exact ⟨_, x, hx, rfl⟩
  by_cases h3 : R3_ X
  · rw [rk_3 h3, rk_3 (e3.mpr h3)]
  · have h3' := fun q => h3 (e3.mp q)
    by_cases h2 : R2_ X
    · rw [rk_2 h2 h3, rk_2 (e2.mpr h2) h3']
    · have h2' := fun q => h2 (e2.mp q)
      by_cases h1 : ∃ x, X x
      · rw [rk_1 h1 h2 h3, rk_1 (e1.mpr h1) h2' h3']
      · rw [rk_0 h1 h2 h3, rk_0 (fun q => h1 (e1.mp q)) h2' h3']
section MR
variable {wl : Nat → Int32} {n : Nat}
theorem m_rank (hn : n ≤ 8) (hb : ∀ k, k < n → bw_ (gM_ wl k)) (hnv : ∀ k, k < n → nv_ (gM_ wl k) ≠ o3_) {h : Nat} (hh : h < 2 ^ n) {p2 : Nat} (hp : p2 = 3 ∨ p2 = 4) (t : Nat → Int64) :
    ∃ f t', fX6_rank (nI n) wl t (nI h) (nI p2) = some (nI f, t') ∧ (p2 = 3 → f = rk_ (hS_ (gM_ wl) h)) ∧ (p2 = 4 → f = rk_ (hS_ (gM_ wl) h) + iN_ (¬ hC_ (gM_ wl) h)) := by
  have hlt : ∀ k, h.testBit k = true → k < n := fun k hk => lt_bit hh hk
  unfold fX6_rank
  obtain ⟨t0, i0, e0, hc⟩ := m_L5 (p2 := p2) hn hh (by omega) wl t
  rw [bind_yes e0]
  have hm8 : fb_ct (fun k => h.testBit k) n ≤ 8 := Nat.le_trans (fb_ct_le _ n) hn
  have row0 : ∀ k, k < n → h.testBit k = true → tR_ t0 (fb_ct (fun k => h.testBit k) k) = ww_ p2 (gM_ wl k) := by
    intro k hk hbk
    have c0 := hc k hk hbk 0 (by decide)
    have c1 := hc k hk hbk 1 (by decide)
    have c2 := hc k hk hbk 2 (by decide)
    have c3 := hc k hk hbk 3 (by decide)
    rw [if_pos (by omega)] at c0 c1 c2
    simp only [Nat.add_zero] at c0
    unfold tR_ ww_ gM_
    rw [c0, c1, c2, c3, Int32.toInt_toInt64, Int32.toInt_toInt64, Int32.toInt_toInt64]
    rcases hp with rfl | rfl
    · rfl
    · rw [if_pos (by omega), if_pos rfl, Int32.toInt_toInt64]
  have hmem : ∀ x, x ∈ wl_ (tR_ t0) (fb_ct (fun k => h.testBit k) n) ↔ ∃ y, hS_ (gM_ wl) h y ∧ x = ww_ p2 y := by
    intro x
    rw [wl_mem]
    constructor
    · rintro ⟨r, hr, rfl⟩
      obtain ⟨k, hk, hbk, e⟩ := fb_ct_kth hr
      exact ⟨gM_ wl k, ⟨k, hbk, rfl⟩, by rw [← e]; exact row0 k hk hbk⟩
    · rintro ⟨y, ⟨k, hbk, rfl⟩, rfl⟩
      have hk := hlt k hbk
      refine ⟨fb_ct (fun k => h.testBit k) k, ?_, (row0 k hk hbk).symm⟩
      have m2 := fb_ct_mono (fun k => h.testBit k) (show k + 1 ≤ n by omega)
      rw [fb_ct_succ] at m2
      simp only [hbk, if_true] at m2
      omega
  generalize hT : wl_ (tR_ t0) (fb_ct (fun k => h.testBit k) n) = T at hmem
  have hGI : GI_ T (fb_ct (fun k => h.testBit k) n) 0 0 t0 := by
    refine ⟨Nat.zero_le _, ⟨[], rfl, ?_⟩, ?_⟩
    · have : wl_ (fun k => tR_ t0 (0 + k)) (fb_ct (fun k => h.testBit k) n - 0) = T := by
        rw [← hT, Nat.sub_zero]
        congr 1
        exact funext (fun k => by rw [Nat.zero_add])
      rw [this]; exact Gs_0 T
    · intro r c _ hr hc4
      obtain ⟨k, hk, hbk, e⟩ := fb_ct_kth hr
      have cc := hc k hk hbk c hc4
      rw [e] at cc
      rw [cc]
      obtain ⟨b1, b2, b3, b4⟩ := hb k hk
      by_cases w : c < p2
      · rw [if_pos w, Int32.toInt_toInt64]
        rcases (show c = 0 ∨ c = 1 ∨ c = 2 ∨ c = 3 by omega) with rfl | rfl | rfl | rfl
        · exact ab_mono b1 (by decide)
        · exact ab_mono b2 (by decide)
        · exact ab_mono b3 (by decide)
        · exact ab_mono b4 (by decide)
      · rw [if_neg w]
        show ab_ 0 99
        unfold ab_; decide
  obtain ⟨f, t', i3, f3, t3, e1, ⟨hf3, ⟨top, htop, hG⟩, hB3⟩, h3, h4⟩ := m_elim hm8 hp hGI i0 t0
  rw [bind_yes e1]
  have hrk : rk_ (hS_ (gM_ wl) h) = f3 := by
    rw [← rk_ww p2, ← rk_cg hmem, Gs_rank hG (fun x hx => ?_), htop]
    obtain ⟨y, ⟨k, hbk, rfl⟩, rfl⟩ := (hmem x).mp hx
    exact hnv k (hlt k hbk)
  refine ⟨f, t', rfl, fun w => by rw [h3 w, hrk], fun w => ?_⟩
  subst w
  have hww : ∀ y, ww_ 4 y = y := fun y => rfl
  have hmeet : hC_ (gM_ wl) h ↔ ∀ r ∈ wl_ (fun k => tR_ t3 (f3 + k)) (fb_ct (fun k => h.testBit k) n - f3), r.2.2.2 = 0 := by
    rw [← Gs_meet hG]
    unfold hC_ oB_
    constructor
    · rintro ⟨p, hp⟩
      refine ⟨p, fun x hx => ?_⟩
      obtain ⟨y, ⟨k, hbk, rfl⟩, rfl⟩ := (hmem x).mp hx
      exact hp k hbk
    · rintro ⟨p, hp⟩
      exact ⟨p, fun k hbk => hp _ ((hmem _).mpr ⟨gM_ wl k, ⟨k, hbk, rfl⟩, (hww _).symm⟩)⟩
  rcases h4 rfl with ⟨z, rfl⟩ | ⟨⟨r, r1, r2, r3⟩, rfl⟩
  · have hcm : hC_ (gM_ wl) h := hmeet.mpr (fun x hx => by
      obtain ⟨r, r1, r2, rfl⟩ := rest_mem.mp hx
      show (t3 (4 * r + 3)).toInt = 0
      rw [z r r1 r2]; rfl)
    rw [iN_0 (fun q => q hcm), hrk]; rfl
  · have hcm : ¬ hC_ (gM_ wl) h := fun q => by
      have := hmeet.mp q _ (rest_mem.mpr ⟨r, r1, r2, rfl⟩)
      exact r3 (Int64.toInt_inj.mp this)
    rw [iN_1 hcm, hrk]
theorem m_rank3 (hn : n ≤ 8) (hb : ∀ k, k < n → bw_ (gM_ wl k)) (hnv : ∀ k, k < n → nv_ (gM_ wl k) ≠ o3_) {h : Nat} (hh : h < 2 ^ n) (t : Nat → Int64) : ∃ t', fX6_rank (nI n) wl t (nI h) 3 = some (nI (rk_ (hS_ (gM_ wl) h)), t') := by
  obtain ⟨f, t', e, h1, _⟩ := m_rank hn hb hnv hh (p2 := 3) (Or.inl rfl) t
  rw [h1 rfl] at e
  exact ⟨t', e⟩
theorem m_rank4 (hn : n ≤ 8) (hb : ∀ k, k < n → bw_ (gM_ wl k)) (hnv : ∀ k, k < n → nv_ (gM_ wl k) ≠ o3_) {h : Nat} (hh : h < 2 ^ n) (t : Nat → Int64) : ∃ t', fX6_rank (nI n) wl t (nI h) 4 = some (nI (rk_ (hS_ (gM_ wl) h) + iN_ (¬ hC_ (gM_ wl) h)), t') := by
  obtain ⟨f, t', e, _, h1⟩ := m_rank hn hb hnv hh (p2 := 4) (Or.inr rfl) t
  rw [h1 rfl] at e
  exact ⟨t', e⟩
theorem m_meets (hn : n ≤ 8) (hb : ∀ k, k < n → bw_ (gM_ wl k)) (hnv : ∀ k, k < n → nv_ (gM_ wl k) ≠ o3_) {h : Nat} (hh : h < 2 ^ n) (t : Nat → Int64) : ∃ t' x, fX6_meets (nI n) wl t (nI h) = some (x, t') ∧ (x = 1 ∧ hC_ (gM_ wl) h ∨ x = 0 ∧ ¬ hC_ (gM_ wl) h) := by
  unfold fX6_meets
  obtain ⟨t1, e1⟩ := m_rank4 hn hb hnv hh t
  obtain ⟨t2, e2⟩ := m_rank3 hn hb hnv hh t1
  have l3 := rk_le3 (hS_ (gM_ wl) h)
  have l1 := iN_le (¬ hC_ (gM_ wl) h)
  rw [bind_yes e1]
  dsimp only
  rw [bind_yes e2]
  dsimp only
  by_cases q : hC_ (gM_ wl) h
  · rw [if_pos (by rw [iN_0 (fun w => w q)]; rfl)]
    exact ⟨t2, 1, rfl, Or.inl ⟨rfl, q⟩⟩
  · rw [if_neg (fun w => by
      have := (nI_eq (by omega) (by omega)).mp w
      rw [iN_1 q] at this
      omega)]
    exact ⟨t2, 0, rfl, Or.inr ⟨rfl, q⟩⟩
end MR
