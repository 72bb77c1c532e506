/-! the rank, and whether walls have a place in common, out of rows in steps -/
theorem Id_sol : ∀ B : List Wl_, Id_ B → ∃ p, oB_ B p := by
  intro B
  induction B with
  | nil => intro _; exact ⟨o3_, fun x hx => by cases hx⟩
  | cons w B ih =>
    intro ⟨h1, u, h2, h3⟩
    obtain ⟨p, hp⟩ := ih h1
    refine ⟨ad_ p (- ev_ w p / dr_ w u) u, oB_cons.mpr ⟨?_, oB_ad hp h2⟩⟩
    rw [ev_ad, Rat.div_mul_cancel h3]
    exact Rat.add_neg_cancel _
/-- two ways across one wall, not parallel -/
theorem ways_2 (w : Wl_) : ∃ a b : V3_, dr_ w a = 0 ∧ dr_ w b = 0 ∧ ¬ (a.2.1 * b.2.2 - a.2.2 * b.2.1 = 0 ∧ a.2.2 * b.1 - a.1 * b.2.2 = 0 ∧ a.1 * b.2.1 - a.2.1 * b.1 = 0) := by
  obtain ⟨x1, x2, x3, e⟩ := w
  simp only [dr_]
  generalize (x1 : Rat) = x1
  generalize (x2 : Rat) = x2
  generalize (x3 : Rat) = x3
  by_cases h1 : x1 = 0
  · by_cases h2 : x2 = 0
    · exact ⟨(1, 0, 0), (0, 1, 0), by simp only []; grind, by simp only []; grind, by simp only []; grind⟩
    · exact ⟨(1, 0, 0), (0, -x3, x2), by simp only []; grind, by simp only []; grind, by simp only []; grind⟩
  · exact ⟨(-x2, x1, 0), (-x3, 0, x1), by simp only []; grind, by simp only []; grind, by
      simp only []
      intro h
      have : x1 * x1 = 0 := by grind
      rcases Rat.mul_eq_zero.mp this with h | h <;> exact h1 h⟩
theorem nv_dr {w : Wl_} (h : ∃ u, dr_ w u ≠ 0) : nv_ w ≠ o3_ := by
  intro h0
  obtain ⟨u, hu⟩ := h
  apply hu
  simp only [nv_, o3_, Prod.mk.injEq] at h0
  simp only [dr_, h0.1, h0.2.1, h0.2.2]
  grind
theorem cx_self (x : Wl_) : cx_ x x = o3_ := by simp only [cx_, o3_, Prod.mk.injEq]; grind
theorem cx_swap {x y : Wl_} (h : cx_ x y = o3_) : cx_ y x = o3_ := by simp only [cx_, o3_, Prod.mk.injEq] at *; grind
theorem par_2 {x y : Wl_} (h : cx_ x y = o3_) (hn : nv_ x ≠ o3_) {u : V3_} (hu : dr_ x u = 0) : dr_ y u = 0 := by
  have : ¬ R2_ (fun z => z = x ∨ z = y) := by
    rintro ⟨a, b, ha, hb, hab⟩
    apply hab
    rcases ha with rfl | rfl <;> rcases hb with rfl | rfl
    · exact cx_self _
    · exact h
    · exact cx_swap h
    · exact cx_self _
  exact par_all this (Or.inl rfl) (Or.inr rfl) hn hu
/-- rows in steps tell the rank -/
theorem rk_top {T top : List Wl_} (hI : Id_ top) (hN : ∀ u, pB_ T u ↔ pB_ top u) (hn : ∀ x ∈ T, nv_ x ≠ o3_) : rk_ (fun x => x ∈ T) = top.length := by
  have hl := Id_le top hI
  match top, hI, hN, hl with
  | [], _, hN, _ =>
    have hT : ¬ ∃ x, x ∈ T := by
      rintro ⟨x, hx⟩
      apply hn x hx
      have h1 := (hN (1, 0, 0)).mpr (fun y hy => by cases hy) x hx
      have h2 := (hN (0, 1, 0)).mpr (fun y hy => by cases hy) x hx
      have h3 := (hN (0, 0, 1)).mpr (fun y hy => by cases hy) x hx
      simp only [dr_] at h1 h2 h3
      simp only [nv_, o3_, Prod.mk.injEq]
      refine ⟨by grind, by grind, by grind⟩
    exact rk_0 hT (fun h => hT (R2_ex h)) (fun h => hT (R2_ex (R3_R2 h)))
  | [P], hI, hN, _ =>
    have hT : ∃ x, x ∈ T := by
      refine Classical.byContradiction (fun hno => ?_)
      obtain ⟨-, u, -, hu⟩ := hI
      exact hu ((hN u).mp (fun y hy => absurd ⟨y, hy⟩ hno) P (by simp))
    have h2 : ¬ R2_ (fun x => x ∈ T) := by
      rintro ⟨x, y, hx, hy, hxy⟩
      obtain ⟨a, b, ha, hb, hab⟩ := ways_2 P
      have ka := (hN a).mpr (fun z hz => by rw [List.mem_singleton] at hz; subst hz; exact ha)
      have kb := (hN b).mpr (fun z hz => by rw [List.mem_singleton] at hz; subst hz; exact hb)
      exact hxy (two_ways (ka x hx) (kb x hx) (ka y hy) (kb y hy) hab)
    exact rk_1 hT h2 (fun h => h2 (R3_R2 h))
  | [P, P'], hI, hN, _ =>
    obtain ⟨⟨-, u', -, hu'⟩, u, hu, hud⟩ := hI
    have hn' : nv_ P' ≠ o3_ := nv_dr ⟨u', hu'⟩
    have hc : cx_ P' P ≠ o3_ := fun h0 => hud (par_2 h0 hn' (hu P' (by simp)))
    have hin : pB_ T (cx_ P' P) := (hN _).mpr (fun z hz => by
      rcases List.mem_cons.mp hz with rfl | hz
      · exact dr_cx2 _ _
      · rw [List.mem_singleton] at hz; subst hz; exact dr_cx1 _ _)
    have h3 : ¬ R3_ (fun x => x ∈ T) := by
      rintro ⟨x, y, z, hx, hy, hz, hd⟩
      exact hd (one_way hc (hin x hx) (hin y hy) (hin z hz))
    have h2 : R2_ (fun x => x ∈ T) := by
      refine Classical.byContradiction (fun h2 => ?_)
      by_cases hT : ∃ x, x ∈ T
      · obtain ⟨x, hx⟩ := hT
        obtain ⟨a, b, ha, hb, hab⟩ := ways_2 x
        have ka := (hN a).mp (fun y hy => par_all (X := fun x => x ∈ T) h2 hx hy (hn x hx) ha)
        have kb := (hN b).mp (fun y hy => par_all (X := fun x => x ∈ T) h2 hx hy (hn x hx) hb)
        exact hc (two_ways (ka P' (by simp)) (kb P' (by simp)) (ka P (by simp)) (kb P (by simp)) hab)
      · exact hu' ((hN u').mp (fun y hy => absurd ⟨y, hy⟩ hT) P' (by simp))
    exact rk_2 h2 h3
  | [P, P', P''], hI, hN, _ =>
    have hz := Id_3 hI
    refine rk_3 (Classical.byContradiction (fun h3 => ?_))
    have none : ∀ u, pB_ T u → u = o3_ := fun u hu => by
      have := (hN u).mp hu
      exact hz u (this _ (by simp)) (this _ (by simp)) (this _ (by simp))
    by_cases h2 : R2_ (fun x => x ∈ T)
    · obtain ⟨x, y, hx, hy, hxy⟩ := h2
      exact hxy (none _ (fun z hz => flat_all (X := fun x => x ∈ T) h3 hx hy hz hxy (dr_cx1 x y) (dr_cx2 x y)))
    · by_cases hT : ∃ x, x ∈ T
      · obtain ⟨x, hx⟩ := hT
        obtain ⟨u, hu0, hu1, -⟩ := perp_2 (nv_ x) (nv_ x)
        exact hu0 (none u (fun y hy => par_all (X := fun x => x ∈ T) h2 hx hy (hn x hx) hu1))
      · have := none (1, 0, 0) (fun y hy => absurd ⟨y, hy⟩ hT)
        simp [o3_] at this
  | _ :: _ :: _ :: _ :: _, _, _, hl => simp at hl
/-! the way of the rows: the steps' rows stand ahead, what is left behind has 0 in all places that are done -/
/-- the state after some places: tops in their order with their places, the rest -/
def Gs_ (T : List Wl_) (i : Nat) (top : List (Wl_ × Nat)) (rest : List Wl_) : Prop :=
  (∀ r ∈ rest, ∀ j, j < i → cf_ j r = 0) ∧
  (∀ q ∈ top, q.2 < i ∧ q.2 < 3 ∧ cf_ q.2 q.1 ≠ 0) ∧
  top.Pairwise (fun a b => cf_ a.2 b.1 = 0) ∧
  (∀ u, pB_ T u ↔ pB_ (top.map Prod.fst) u ∧ pB_ rest u) ∧
  (∀ p, oB_ T p ↔ oB_ (top.map Prod.fst) p ∧ oB_ rest p)
theorem Gs_id : ∀ top : List (Wl_ × Nat), (∀ q ∈ top, cf_ q.2 q.1 ≠ 0) → top.Pairwise (fun a b => cf_ a.2 b.1 = 0) → Id_ (top.map Prod.fst) := by
  intro top
  induction top with
  | nil => intro _ _; trivial
  | cons q top ih =>
    intro h1 h2
    rw [List.pairwise_cons] at h2
    refine ⟨ih (fun x hx => h1 x (List.mem_cons_of_mem _ hx)) h2.2, ax_ q.2, ?_, ?_⟩
    · intro w hw
      obtain ⟨x, hx, rfl⟩ := List.mem_map.mp hw
      rw [dr_ax, h2.1 x hx]; rfl
    · rw [dr_ax]
      exact fun h => h1 q List.mem_cons_self (rI_zero.mp h)
theorem dr_cf {w : Wl_} (h0 : cf_ 0 w = 0) (h1 : cf_ 1 w = 0) (h2 : cf_ 2 w = 0) (u : V3_) : dr_ w u = 0 := by
  simp only [cf_] at h0 h1 h2
  simp at h0 h1 h2
  simp only [dr_, h0, h1, h2]
  have : ((0 : Int) : Rat) = 0 := rfl
  rw [this]; grind
/-- three places done: the rank is how many tops there are -/
theorem Gs_rank {T : List Wl_} {top : List (Wl_ × Nat)} {rest : List Wl_} (h : Gs_ T 3 top rest) (hn : ∀ x ∈ T, nv_ x ≠ o3_) : rk_ (fun x => x ∈ T) = top.length := by
  obtain ⟨h1, h2, h3, h4, h5⟩ := h
  have e := rk_top (T := T) (top := top.map Prod.fst) (Gs_id top (fun q hq => (h2 q hq).2.2) h3) (fun u => ⟨fun q => ((h4 u).mp q).1, fun q => (h4 u).mpr ⟨q, fun r hr => dr_cf (h1 r hr 0 (by omega)) (h1 r hr 1 (by omega)) (h1 r hr 2 (by omega)) u⟩⟩) hn
  rw [e, List.length_map]
/-- and there is a place in common, if nothing but 0 is left -/
theorem Gs_meet {T : List Wl_} {top : List (Wl_ × Nat)} {rest : List Wl_} (h : Gs_ T 3 top rest) : (∃ p, oB_ T p) ↔ ∀ r ∈ rest, r.2.2.2 = 0 := by
  obtain ⟨h1, h2, h3, h4, h5⟩ := h
  have key : ∀ r ∈ rest, ∀ p, ev_ r p = - (r.2.2.2 : Rat) := by
    intro r hr p
    rw [ev_, dr_cf (h1 r hr 0 (by omega)) (h1 r hr 1 (by omega)) (h1 r hr 2 (by omega)) p]
    grind
  constructor
  · rintro ⟨p, hp⟩ r hr
    have := ((h5 p).mp hp).2 r hr
    rw [key r hr p] at this
    exact rI_zero.mp (by grind)
  · intro hz
    obtain ⟨p, hp⟩ := Id_sol _ (Gs_id top (fun q hq => (h2 q hq).2.2) h3)
    refine ⟨p, (h5 p).mpr ⟨hp, fun r hr => ?_⟩⟩
    rw [key r hr p, hz r hr]; rfl
theorem Gs_0 (T : List Wl_) : Gs_ T 0 [] T := ⟨fun r _ j hj => absurd hj (Nat.not_lt_zero j), fun q hq => absurd hq List.not_mem_nil, List.Pairwise.nil, fun u => ⟨fun h => ⟨fun x hx => absurd hx List.not_mem_nil, h⟩, fun h => h.2⟩, fun u => ⟨fun h => ⟨fun x hx => absurd hx List.not_mem_nil, h⟩, fun h => h.2⟩⟩
theorem Gs_skip {T : List Wl_} {i : Nat} {top : List (Wl_ × Nat)} {rest : List Wl_} (h : Gs_ T i top rest) (h0 : ∀ r ∈ rest, cf_ i r = 0) : Gs_ T (i + 1) top rest := by
  obtain ⟨h1, h2, h3, h4, h5⟩ := h
  refine ⟨fun r hr j hj => ?_, fun q hq => ⟨by have := (h2 q hq).1; omega, (h2 q hq).2⟩, h3, h4, h5⟩
  rcases (show j < i ∨ j = i by omega) with q | rfl
  · exact h1 r hr j q
  · exact h0 r hr
theorem dr_lc (a : Int) (s : Wl_) (b : Int) (o : Wl_) (p : V3_) : dr_ (lc_ a s b o) p = a * dr_ s p + b * dr_ o p := by
  simp only [dr_, lc_, Rat.intCast_add, Rat.intCast_mul]; grind
theorem lc_z {a x y b : Rat} (ha : a ≠ 0) (hy : y = 0) : a * x + b * y = 0 ↔ x = 0 := by
  subst hy
  constructor
  · intro h
    have : a * x = 0 := by grind
    exact (Rat.mul_eq_zero.mp this).resolve_left ha
  · intro h; subst h; grind
/-- one more step: P comes to the tops, the rest is made 0 in this place -/
theorem Gs_step {T : List Wl_} {i : Nat} (hi : i < 3) {top : List (Wl_ × Nat)} {rest rest' : List Wl_} {P : Wl_} (h : Gs_ T i top rest) (hP : P ∈ rest) (hc : cf_ i P ≠ 0)
    (hr1 : ∀ r' ∈ rest', ∃ r ∈ rest, r' = lc_ (cf_ i P) r (- cf_ i r) P) (hr2 : ∀ r ∈ rest, r = P ∨ lc_ (cf_ i P) r (- cf_ i r) P ∈ rest') : Gs_ T (i + 1) (top ++ [(P, i)]) rest' := by
  obtain ⟨h1, h2, h3, h4, h5⟩ := h
  have hcr : (cf_ i P : Rat) ≠ 0 := fun q => hc (rI_zero.mp q)
  refine ⟨?_, ?_, ?_, ?_, ?_⟩
  · intro r' hr' j hj
    obtain ⟨r, hr, rfl⟩ := hr1 r' hr'
    rw [cf_lc]
    rcases (show j < i ∨ j = i by omega) with q | rfl
    · rw [h1 r hr j q, h1 P hP j q]; simp
    · rw [Int.mul_neg, Int.mul_comm]; omega
  · intro q hq
    rcases List.mem_append.mp hq with hq | hq
    · have := h2 q hq
      exact ⟨by omega, this.2⟩
    · rw [List.mem_singleton] at hq; subst hq; exact ⟨by simp, hi, hc⟩
  · rw [List.pairwise_append]
    refine ⟨h3, List.pairwise_singleton _ _, ?_⟩
    intro a ha b hb
    rw [List.mem_singleton] at hb; subst hb
    exact h1 P hP a.2 (h2 a ha).1
  · intro u
    rw [h4 u, List.map_append]
    constructor
    · rintro ⟨q1, q2⟩
      refine ⟨fun x hx => ?_, fun r' hr' => ?_⟩
      · rcases List.mem_append.mp hx with hx | hx
        · exact q1 x hx
        · simp at hx; rw [hx]; exact q2 P hP
      · obtain ⟨r, hr, rfl⟩ := hr1 r' hr'
        rw [dr_lc]; exact (lc_z hcr (q2 P hP)).mpr (q2 r hr)
    · rintro ⟨q1, q2⟩
      have hP0 : dr_ P u = 0 := q1 P (List.mem_append_right _ (by simp))
      refine ⟨fun x hx => q1 x (List.mem_append_left _ hx), fun r hr => ?_⟩
      rcases hr2 r hr with rfl | hr'
      · exact hP0
      · have := q2 _ hr'
        rw [dr_lc] at this
        exact (lc_z hcr hP0).mp this
  · intro u
    rw [h5 u, List.map_append]
    constructor
    · rintro ⟨q1, q2⟩
      refine ⟨fun x hx => ?_, fun r' hr' => ?_⟩
      · rcases List.mem_append.mp hx with hx | hx
        · exact q1 x hx
        · simp at hx; rw [hx]; exact q2 P hP
      · obtain ⟨r, hr, rfl⟩ := hr1 r' hr'
        rw [ev_lc]; exact (lc_z hcr (q2 P hP)).mpr (q2 r hr)
    · rintro ⟨q1, q2⟩
      have hP0 : ev_ P u = 0 := q1 P (List.mem_append_right _ (by simp))
      refine ⟨fun x hx => q1 x (List.mem_append_left _ hx), fun r hr => ?_⟩
      rcases hr2 r hr with rfl | hr'
      · exact hP0
      · have := q2 _ hr'
        rw [ev_lc] at this
        exact (lc_z hcr hP0).mp this
