/-! Fourier and Motzkin: one number after the other is taken out -/
abbrev Rw_ : Type := Wl_ × Bool
def sat_ (r : Rw_) (p : V3_) : Prop := if r.2 = true then ev_ r.1 p = 0 else ev_ r.1 p < 0
def Sat_ (rows : List Rw_) : Prop := ∃ p, ∀ r ∈ rows, sat_ r p
def cf_ (i : Nat) (w : Wl_) : Int := if i = 0 then w.1 else if i = 1 then w.2.1 else w.2.2.1
/-- s times, and o times -/
def lc_ (a : Int) (s : Wl_) (b : Int) (o : Wl_) : Wl_ := (s.1 * a + o.1 * b, s.2.1 * a + o.2.1 * b, s.2.2.1 * a + o.2.2.1 * b, s.2.2.2 * a + o.2.2.2 * b)
theorem ev_lc (a : Int) (s : Wl_) (b : Int) (o : Wl_) (p : V3_) : ev_ (lc_ a s b o) p = a * ev_ s p + b * ev_ o p := by
  simp only [ev_, dr_, lc_, Rat.intCast_add, Rat.intCast_mul]; grind
theorem cf_lc (i : Nat) (a : Int) (s : Wl_) (b : Int) (o : Wl_) : cf_ i (lc_ a s b o) = cf_ i s * a + cf_ i o * b := by
  unfold cf_ lc_
  split
  · rfl
  · split <;> rfl
/-- the way of one number alone -/
def ax_ (i : Nat) : V3_ := if i = 0 then (1, 0, 0) else if i = 1 then (0, 1, 0) else (0, 0, 1)
theorem dr_ax (i : Nat) (w : Wl_) : dr_ w (ax_ i) = (cf_ i w : Rat) := by
  unfold ax_ cf_ dr_
  split
  · simp only []; grind
  · split <;> (simp only []; grind)
theorem sat_t {w : Wl_} {p : V3_} : sat_ (w, true) p ↔ ev_ w p = 0 := by simp [sat_]
theorem sat_f {w : Wl_} {p : V3_} : sat_ (w, false) p ↔ ev_ w p < 0 := by simp [sat_]
theorem rI_pos {a : Int} : 0 < (a : Rat) ↔ 0 < a := by
  have := Rat.intCast_lt_intCast (a := 0) (b := a)
  simpa using this
theorem rI_neg {a : Int} : (a : Rat) < 0 ↔ a < 0 := by
  have := Rat.intCast_lt_intCast (a := a) (b := 0)
  simpa using this
theorem rI_zero {a : Int} : (a : Rat) = 0 ↔ a = 0 := by
  constructor
  · intro h
    rcases Int.lt_trichotomy a 0 with q | q | q
    · have := rI_neg.mpr q; grind
    · exact q
    · have := rI_pos.mpr q; grind
  · intro h; subst h; rfl
/-- a row with an even one's number taken out: m times s (m above 0), and k times the pivot -/
theorem fm_piv {i : Nat} {rows rows' : List Rw_} {P : Wl_} (hP : (P, true) ∈ rows) (hc : cf_ i P ≠ 0)
    (h1 : ∀ r ∈ rows', ∃ s ∈ rows, ∃ a b : Int, 0 < a ∧ r = (lc_ a s.1 b P, s.2))
    (h2 : ∀ s ∈ rows, s = (P, true) ∨ ∃ a b : Int, 0 < a ∧ (lc_ a s.1 b P, s.2) ∈ rows' ∧ cf_ i (lc_ a s.1 b P) = 0) : Sat_ rows ↔ Sat_ rows' := by
  constructor
  · rintro ⟨p, hp⟩
    refine ⟨p, fun r hr => ?_⟩
    obtain ⟨s, hs, a, b, ha, rfl⟩ := h1 r hr
    have e1 := hp s hs
    have e2 := sat_t.mp (hp _ hP)
    have ha' : (0 : Rat) < a := rI_pos.mpr ha
    obtain ⟨s1, s2⟩ := s
    cases s2 with
    | true =>
      rw [sat_t] at e1 ⊢
      rw [ev_lc, e1, e2]; grind
    | false =>
      rw [sat_f] at e1 ⊢
      rw [ev_lc, e2]
      have := Rat.mul_pos ha' (show 0 < - ev_ s1 p by grind)
      grind
  · rintro ⟨p, hp⟩
    have hcr : (cf_ i P : Rat) ≠ 0 := fun h => hc (rI_zero.mp h)
    refine ⟨ad_ p (- ev_ P p / (cf_ i P : Rat)) (ax_ i), fun s hs => ?_⟩
    have hP0 : ev_ P (ad_ p (- ev_ P p / (cf_ i P : Rat)) (ax_ i)) = 0 := by
      rw [ev_ad, dr_ax, Rat.div_mul_cancel hcr]; grind
    rcases h2 s hs with rfl | ⟨a, b, ha, hr, h0⟩
    · exact sat_t.mpr hP0
    · have e1 := hp _ hr
      have ha' : (0 : Rat) < a := rI_pos.mpr ha
      have e3 : ev_ (lc_ a s.1 b P) p = a * ev_ s.1 (ad_ p (- ev_ P p / (cf_ i P : Rat)) (ax_ i)) := by
        have e4 := ev_lc a s.1 b P (ad_ p (- ev_ P p / (cf_ i P : Rat)) (ax_ i))
        rw [hP0, ev_ad, dr_ax, h0] at e4
        grind
      obtain ⟨s1, s2⟩ := s
      cases s2 with
      | true =>
        rw [sat_t] at e1 ⊢
        rw [e3] at e1
        rcases Rat.mul_eq_zero.mp e1 with h | h
        · grind
        · exact h
      | false =>
        rw [sat_f] at e1 ⊢
        rw [e3] at e1
        exact (Rat.mul_neg_iff_of_pos_left ha').mp e1
theorem between {α : Type} (L U : List α) (l u : α → Rat) (h : ∀ x ∈ L, ∀ y ∈ U, l x < u y) : ∃ t : Rat, (∀ x ∈ L, l x < t) ∧ ∀ y ∈ U, t < u y := by
  by_cases hU : ∃ y ∈ U, True
  · obtain ⟨y, hy, -, hmin⟩ := min_ex u (fun _ => True) U hU
    by_cases hL : ∃ x ∈ L, True
    · obtain ⟨x, hx, -, hmax⟩ := min_ex (fun x => - l x) (fun _ => True) L hL
      have := h x hx y hy
      refine ⟨(l x + u y) / 2, fun x' hx' => ?_, fun y' hy' => ?_⟩
      · have := hmax x' hx' trivial; grind
      · have := hmin y' hy' trivial; grind
    · refine ⟨u y - 1, fun x hx => absurd ⟨x, hx, trivial⟩ hL, fun y' hy' => ?_⟩
      have := hmin y' hy' trivial; grind
  · by_cases hL : ∃ x ∈ L, True
    · obtain ⟨x, hx, -, hmax⟩ := min_ex (fun x => - l x) (fun _ => True) L hL
      refine ⟨l x + 1, fun x' hx' => ?_, fun y hy => absurd ⟨y, hy, trivial⟩ hU⟩
      have := hmax x' hx' trivial; grind
    · exact ⟨0, fun x hx => absurd ⟨x, hx, trivial⟩ hL, fun y hy => absurd ⟨y, hy, trivial⟩ hU⟩
theorem fm_alg {es eo cs co us lo : Rat} (e : -co * es + cs * eo < 0) (d1 : us * cs = -es) (d2 : lo * co = -eo) (a1 : 0 < cs) (a2 : co < 0) : lo < us := by
  have k0 : (cs * (-co)) * (us - lo) = -(-co * es + cs * eo) := by grind
  have k : 0 < (cs * (-co)) * (us - lo) := by rw [k0]; grind
  have hpos := Rat.mul_pos a1 (show 0 < -co by grind)
  have := (Rat.mul_pos_iff_of_pos_left hpos).mp k
  grind
theorem fm_alg2 {es co lo t : Rat} (d1 : lo * co = -es) (l : lo < t) (a2 : co < 0) : es + t * co < 0 := by
  have := Rat.mul_pos (show 0 < t - lo by grind) (show 0 < -co by grind)
  grind
theorem fm_alg3 {es cs up t : Rat} (d1 : up * cs = -es) (l : t < up) (a2 : 0 < cs) : es + t * cs < 0 := by
  have := Rat.mul_pos (show 0 < up - t by grind) a2
  grind
theorem fm_alg4 {a es b eo : Rat} (h1 : 0 < a) (h2 : 0 < b) (h3 : es < 0) (h4 : eo < 0) : a * es + b * eo < 0 := by
  have b1 := Rat.mul_pos h1 (show 0 < - es by grind)
  have b2 := Rat.mul_pos h2 (show 0 < - eo by grind)
  grind
theorem fm_non {i : Nat} {rows rows' : List Rw_} (hno : ∀ s ∈ rows, s.2 = true → cf_ i s.1 = 0)
    (h1 : ∀ r ∈ rows', r ∈ rows ∨ ∃ s ∈ rows, ∃ o ∈ rows, 0 < cf_ i s.1 ∧ cf_ i o.1 < 0 ∧ r = (lc_ (- cf_ i o.1) s.1 (cf_ i s.1) o.1, false))
    (h2 : ∀ s ∈ rows, cf_ i s.1 = 0 → s ∈ rows')
    (h3 : ∀ s ∈ rows, ∀ o ∈ rows, 0 < cf_ i s.1 → cf_ i o.1 < 0 → (lc_ (- cf_ i o.1) s.1 (cf_ i s.1) o.1, false) ∈ rows') : Sat_ rows ↔ Sat_ rows' := by
  have strict : ∀ s ∈ rows, cf_ i s.1 ≠ 0 → s = (s.1, false) := by
    intro s hs hc
    obtain ⟨s1, s2⟩ := s
    cases s2 with
    | true => exact absurd (hno _ hs rfl) hc
    | false => rfl
  constructor
  · rintro ⟨p, hp⟩
    refine ⟨p, fun r hr => ?_⟩
    rcases h1 r hr with h | ⟨s, hs, o, ho, c1, c2, rfl⟩
    · exact hp r h
    · have es := strict s hs (by omega)
      have eo := strict o ho (by omega)
      have e1 := hp s hs
      have e2 := hp o ho
      rw [es, sat_f] at e1
      rw [eo, sat_f] at e2
      rw [sat_f, ev_lc]
      have a1 : (0 : Rat) < ((- cf_ i o.1 : Int) : Rat) := rI_pos.mpr (by omega)
      have a2 : (0 : Rat) < (cf_ i s.1 : Rat) := rI_pos.mpr c1
      exact fm_alg4 a1 a2 e1 e2
  · rintro ⟨p, hp⟩
    obtain ⟨t, ht1, ht2⟩ := between (rows.filter (fun o => decide (cf_ i o.1 < 0))) (rows.filter (fun s => decide (0 < cf_ i s.1))) (fun o => - ev_ o.1 p / (cf_ i o.1 : Rat)) (fun s => - ev_ s.1 p / (cf_ i s.1 : Rat)) (by
      intro o ho s hs
      rw [List.mem_filter] at ho hs
      have c2 : cf_ i o.1 < 0 := of_decide_eq_true ho.2
      have c1 : 0 < cf_ i s.1 := of_decide_eq_true hs.2
      have e := sat_f.mp (hp _ (h3 s hs.1 o ho.1 c1 c2))
      rw [ev_lc, Rat.intCast_neg] at e
      have a1 : (0 : Rat) < (cf_ i s.1 : Rat) := rI_pos.mpr c1
      have a2 : (cf_ i o.1 : Rat) < 0 := rI_neg.mpr c2
      have d1 := Rat.div_mul_cancel (a := - ev_ s.1 p) (b := (cf_ i s.1 : Rat)) (fun h => by rw [h] at a1; exact Rat.lt_irrefl a1)
      have d2 := Rat.div_mul_cancel (a := - ev_ o.1 p) (b := (cf_ i o.1 : Rat)) (fun h => by rw [h] at a2; exact Rat.lt_irrefl a2)
      exact fm_alg e d1 d2 a1 a2)
    refine ⟨ad_ p t (ax_ i), fun s hs => ?_⟩
    by_cases hc : cf_ i s.1 = 0
    · have e := hp s (h2 s hs hc)
      unfold sat_ at e ⊢
      rw [ev_ad, dr_ax, hc]
      have : ev_ s.1 p + t * ((0 : Int) : Rat) = ev_ s.1 p := by
        have : ((0 : Int) : Rat) = 0 := rfl
        rw [this, Rat.mul_zero, Rat.add_zero]
      rw [this]; exact e
    · rw [strict s hs hc, sat_f, ev_ad, dr_ax]
      have hcr : (cf_ i s.1 : Rat) ≠ 0 := fun h => hc (rI_zero.mp h)
      have d1 := Rat.div_mul_cancel (a := - ev_ s.1 p) (b := (cf_ i s.1 : Rat)) hcr
      rcases Int.lt_or_gt_of_ne hc with q | q
      · have l := ht1 s (List.mem_filter.mpr ⟨hs, decide_eq_true q⟩)
        have a2 : (cf_ i s.1 : Rat) < 0 := rI_neg.mpr q
        exact fm_alg2 d1 l a2
      · have l := ht2 s (List.mem_filter.mpr ⟨hs, decide_eq_true q⟩)
        have a2 : (0 : Rat) < (cf_ i s.1 : Rat) := rI_pos.mpr q
        exact fm_alg3 d1 l a2
/-- rows without numbers: they hold everywhere or nowhere -/
theorem sat_flat {rows : List Rw_} (h : ∀ r ∈ rows, cf_ 0 r.1 = 0 ∧ cf_ 1 r.1 = 0 ∧ cf_ 2 r.1 = 0) : Sat_ rows ↔ ∀ r ∈ rows, if r.2 = true then r.1.2.2.2 = 0 else 0 < r.1.2.2.2 := by
  have key : ∀ r ∈ rows, ∀ p, sat_ r p ↔ (if r.2 = true then r.1.2.2.2 = 0 else 0 < r.1.2.2.2) := by
    intro r hr p
    obtain ⟨h0, h1, h2⟩ := h r hr
    have e : ev_ r.1 p = - (r.1.2.2.2 : Rat) := by
      simp only [cf_] at h0 h1 h2
      simp only [ev_, dr_]
      simp at h0 h1 h2
      rw [h0, h1, h2]
      have : ((0 : Int) : Rat) = 0 := rfl
      rw [this]; grind
    unfold sat_
    rw [e]
    by_cases hb : r.2 = true
    · rw [if_pos hb, if_pos hb]
      constructor
      · intro q; exact rI_zero.mp (by grind)
      · intro q; rw [q]; rfl
    · rw [if_neg hb, if_neg hb]
      constructor
      · intro q; exact rI_pos.mp (by grind)
      · intro q; have := rI_pos.mpr q; grind
  exact ⟨fun ⟨p, hp⟩ r hr => (key r hr p).mp (hp r hr), fun hr => ⟨o3_, fun r h => (key r h o3_).mpr (hr r h)⟩⟩
