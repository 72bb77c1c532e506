/-! every face is reached: corners, and small ways along lines -/
def cx_ (x y : Wl_) : V3_ := ((x.2.1 : Rat) * y.2.2.1 - (x.2.2.1 : Rat) * y.2.1, (x.2.2.1 : Rat) * y.1 - (x.1 : Rat) * y.2.2.1, (x.1 : Rat) * y.2.1 - (x.2.1 : Rat) * y.1)
/-- the determinant of three normals -/
def dt_ (x y z : Wl_) : Rat := dr_ z (cx_ x y)
theorem dr_cx1 (x y : Wl_) : dr_ x (cx_ x y) = 0 := by simp only [dr_, cx_]; grind
theorem dr_cx2 (x y : Wl_) : dr_ y (cx_ x y) = 0 := by simp only [dr_, cx_]; grind
theorem dt_rot (x y z : Wl_) : dr_ x (cx_ y z) = dt_ x y z := by simp only [dt_, dr_, cx_]; grind
theorem dt_rot2 (x y z : Wl_) : dr_ y (cx_ x z) = - dt_ x y z := by simp only [dt_, dr_, cx_]; grind
def sg_ (r : Rat) : Nat := if r < 0 then 0 else if r = 0 then 1 else 2
theorem sg_neg {r : Rat} (h : r < 0) : sg_ r = 0 := by simp [sg_, h]
theorem sg_zero {r : Rat} (h : r = 0) : sg_ r = 1 := by subst h; simp [sg_]
theorem sg_pos {r : Rat} (h : 0 < r) : sg_ r = 2 := by
  unfold sg_
  rw [if_neg (by grind), if_neg (by grind)]
theorem sg_eq0 {r : Rat} : sg_ r = 0 ↔ r < 0 := ⟨fun h => by
  rcases (show r < 0 ∨ r = 0 ∨ 0 < r by grind) with q | q | q
  · exact q
  · rw [sg_zero q] at h; cases h
  · rw [sg_pos q] at h; exact absurd h (by decide), sg_neg⟩
theorem sg_eq1 {r : Rat} : sg_ r = 1 ↔ r = 0 := ⟨fun h => by
  rcases (show r < 0 ∨ r = 0 ∨ 0 < r by grind) with q | q | q
  · rw [sg_neg q] at h; cases h
  · exact q
  · rw [sg_pos q] at h; exact absurd h (by decide), sg_zero⟩
theorem sg_eq2 {r : Rat} : sg_ r = 2 ↔ 0 < r := ⟨fun h => by
  rcases (show r < 0 ∨ r = 0 ∨ 0 < r by grind) with q | q | q
  · rw [sg_neg q] at h; cases h
  · rw [sg_zero q] at h; cases h
  · exact q, sg_pos⟩
theorem sg_scale {r t : Rat} (ht : 0 < t) : sg_ (t * r) = sg_ r := by
  rcases (show r < 0 ∨ r = 0 ∨ 0 < r by grind) with q | q | q
  · have := Rat.mul_pos ht (show 0 < -r by grind)
    rw [sg_neg q, sg_neg (by grind)]
  · rw [q, Rat.mul_zero]
  · rw [sg_pos q, sg_pos (Rat.mul_pos ht q)]
theorem sg_s3 {r : Rat} {s : Nat} (h : s ≤ 2) : sg_ r = s ↔ s3_ s r := by
  rcases (show s = 0 ∨ s = 1 ∨ s = 2 by omega) with rfl | rfl | rfl
  · rw [sg_eq0, s3_0]
  · rw [sg_eq1, s3_1]
  · rw [sg_eq2, s3_2]
/-- two places of one row -/
def RE_ (A : List Wl_) (p q : V3_) : Prop := ∀ x ∈ A, sg_ (ev_ x p) = sg_ (ev_ x q)
theorem RE_refl (A : List Wl_) (p : V3_) : RE_ A p p := fun _ _ => rfl
theorem RE_symm {A : List Wl_} {p q : V3_} (h : RE_ A p q) : RE_ A q p := fun x hx => (h x hx).symm
theorem RE_trans {A : List Wl_} {p q r : V3_} (h : RE_ A p q) (h' : RE_ A q r) : RE_ A p r := fun x hx => (h x hx).trans (h' x hx)
def On_ (A : List Wl_) (p : V3_) : Wl_ → Prop := fun x => x ∈ A ∧ ev_ x p = 0
theorem On_cg {A : List Wl_} {p q : V3_} (h : RE_ A p q) (x : Wl_) : On_ A p x ↔ On_ A q x :=
  ⟨fun ⟨h1, h2⟩ => ⟨h1, sg_eq1.mp ((h x h1).symm.trans (sg_eq1.mpr h2))⟩, fun ⟨h1, h2⟩ => ⟨h1, sg_eq1.mp ((h x h1).trans (sg_eq1.mpr h2))⟩⟩
def R2_ (X : Wl_ → Prop) : Prop := ∃ x y, X x ∧ X y ∧ cx_ x y ≠ o3_
def R3_ (X : Wl_ → Prop) : Prop := ∃ x y z, X x ∧ X y ∧ X z ∧ dt_ x y z ≠ 0
noncomputable def rk_ (X : Wl_ → Prop) : Nat := @ite Nat (R3_ X) (Classical.propDecidable _) 3 (@ite Nat (R2_ X) (Classical.propDecidable _) 2 (@ite Nat (∃ x, X x) (Classical.propDecidable _) 1 0))
theorem rk_3 {X : Wl_ → Prop} (h : R3_ X) : rk_ X = 3 := by unfold rk_; exact if_pos h
theorem rk_2 {X : Wl_ → Prop} (h : R2_ X) (h3 : ¬ R3_ X) : rk_ X = 2 := by unfold rk_; rw [if_neg h3, if_pos h]
theorem rk_1 {X : Wl_ → Prop} (h : ∃ x, X x) (h2 : ¬ R2_ X) (h3 : ¬ R3_ X) : rk_ X = 1 := by unfold rk_; rw [if_neg h3, if_neg h2, if_pos h]
theorem rk_0 {X : Wl_ → Prop} (h : ¬ ∃ x, X x) (h2 : ¬ R2_ X) (h3 : ¬ R3_ X) : rk_ X = 0 := by unfold rk_; rw [if_neg h3, if_neg h2, if_neg h]
theorem rk_cg {X Y : Wl_ → Prop} (h : ∀ x, X x ↔ Y x) : rk_ X = rk_ Y := by
  have : X = Y := funext (fun x => propext (h x))
  rw [this]
theorem dt_0 {x y : Wl_} (h : cx_ x y = o3_) (z : Wl_) : dt_ x y z = 0 := by rw [dt_, h, dr_o]
theorem R3_R2 {X : Wl_ → Prop} (h : R3_ X) : R2_ X := by
  obtain ⟨x, y, z, h1, h2, h3, h4⟩ := h
  exact ⟨x, y, h1, h2, fun h0 => h4 (dt_0 h0 z)⟩
theorem R2_ex {X : Wl_ → Prop} (h : R2_ X) : ∃ x, X x := by obtain ⟨x, _, h1, _⟩ := h; exact ⟨x, h1⟩
theorem rk_le3 (X : Wl_ → Prop) : rk_ X ≤ 3 := by
  by_cases h3 : R3_ X
  · rw [rk_3 h3]; exact Nat.le_refl _
  · by_cases h2 : R2_ X
    · rw [rk_2 h2 h3]; omega
    · by_cases h1 : ∃ x, X x
      · rw [rk_1 h1 h2 h3]; omega
      · rw [rk_0 h1 h2 h3]; omega
/-- what is across both of two crossing walls is along their line -/
theorem along_cx {x y : Wl_} {u : V3_} (h1 : dr_ x u = 0) (h2 : dr_ y u = 0) (hc : cx_ x y ≠ o3_) : ∃ t : Rat, u = mu_ t (cx_ x y) := by
  obtain ⟨a1, a2, a3, e⟩ := x
  obtain ⟨b1, b2, b3, f⟩ := y
  obtain ⟨u1, u2, u3⟩ := u
  simp only [dr_, cx_, mu_, o3_, ne_eq, Prod.mk.injEq, not_and] at *
  generalize (a1 : Rat) = a1 at *
  generalize (a2 : Rat) = a2 at *
  generalize (a3 : Rat) = a3 at *
  generalize (b1 : Rat) = b1 at *
  generalize (b2 : Rat) = b2 at *
  generalize (b3 : Rat) = b3 at *
  by_cases c1 : a2 * b3 - a3 * b2 = 0
  · by_cases c2 : a3 * b1 - a1 * b3 = 0
    · have c3 := hc c1 c2
      refine ⟨u3 / (a1 * b2 - a2 * b1), ?_, ?_, ?_⟩
      · have : u1 * (a1 * b2 - a2 * b1) = 0 := by grind
        rw [c1, Rat.mul_zero]; exact (Rat.mul_eq_zero.mp this).resolve_right c3
      · have : u2 * (a1 * b2 - a2 * b1) = 0 := by grind
        rw [c2, Rat.mul_zero]; exact (Rat.mul_eq_zero.mp this).resolve_right c3
      · exact (Rat.div_mul_cancel c3).symm
    · refine ⟨u2 / (a3 * b1 - a1 * b3), ?_, (Rat.div_mul_cancel c2).symm, ?_⟩
      · have : u1 * (a3 * b1 - a1 * b3) = 0 := by grind
        rw [c1, Rat.mul_zero]; exact (Rat.mul_eq_zero.mp this).resolve_right c2
      · have h3 : (u3 - u2 / (a3 * b1 - a1 * b3) * (a1 * b2 - a2 * b1)) * (a3 * b1 - a1 * b3) = 0 := by
          have := Rat.div_mul_cancel (a := u2) c2
          grind
        have := (Rat.mul_eq_zero.mp h3).resolve_right c2
        grind
  · refine ⟨u1 / (a2 * b3 - a3 * b2), (Rat.div_mul_cancel c1).symm, ?_, ?_⟩
    · have h3 : (u2 - u1 / (a2 * b3 - a3 * b2) * (a3 * b1 - a1 * b3)) * (a2 * b3 - a3 * b2) = 0 := by
        have := Rat.div_mul_cancel (a := u1) c1
        grind
      have := (Rat.mul_eq_zero.mp h3).resolve_right c1
      grind
    · have h3 : (u3 - u1 / (a2 * b3 - a3 * b2) * (a1 * b2 - a2 * b1)) * (a2 * b3 - a3 * b2) = 0 := by
        have := Rat.div_mul_cancel (a := u1) c1
        grind
      have := (Rat.mul_eq_zero.mp h3).resolve_right c1
      grind
/-- what is across one of the normals, in a set where all are parallel, is across all -/
theorem par_all {X : Wl_ → Prop} (h2 : ¬ R2_ X) {x y : Wl_} (hx : X x) (hy : X y) (hn : nv_ x ≠ o3_) {u : V3_} (hu : dr_ x u = 0) : dr_ y u = 0 := by
  have hc : cx_ x y = o3_ := Classical.byContradiction (fun h => h2 ⟨x, y, hx, hy, h⟩)
  obtain ⟨a1, a2, a3, e⟩ := x
  obtain ⟨b1, b2, b3, f⟩ := y
  obtain ⟨u1, u2, u3⟩ := u
  simp only [dr_, cx_, nv_, o3_, ne_eq, Prod.mk.injEq, not_and] at *
  generalize (a1 : Rat) = a1 at *
  generalize (a2 : Rat) = a2 at *
  generalize (a3 : Rat) = a3 at *
  generalize (b1 : Rat) = b1 at *
  generalize (b2 : Rat) = b2 at *
  generalize (b3 : Rat) = b3 at *
  obtain ⟨c1, c2, c3⟩ := hc
  by_cases q1 : a1 = 0
  · by_cases q2 : a2 = 0
    · have q3 := hn q1 q2
      have : (b1 * u1 + b2 * u2 + b3 * u3) * a3 = 0 := by grind
      exact (Rat.mul_eq_zero.mp this).resolve_right q3
    · have : (b1 * u1 + b2 * u2 + b3 * u3) * a2 = 0 := by grind
      exact (Rat.mul_eq_zero.mp this).resolve_right q2
  · have : (b1 * u1 + b2 * u2 + b3 * u3) * a1 = 0 := by grind
    exact (Rat.mul_eq_zero.mp this).resolve_right q1
/-- what is across two crossing ones, in a set where no three cross, is across all -/
theorem flat_all {X : Wl_ → Prop} (h3 : ¬ R3_ X) {x y z : Wl_} (hx : X x) (hy : X y) (hz : X z) (hc : cx_ x y ≠ o3_) {u : V3_} (hu : dr_ x u = 0) (hv : dr_ y u = 0) : dr_ z u = 0 := by
  obtain ⟨t, rfl⟩ := along_cx hu hv hc
  have : dt_ x y z = 0 := Classical.byContradiction (fun h => h3 ⟨x, y, z, hx, hy, hz, h⟩)
  rw [dr_mu]
  show t * dt_ x y z = 0
  rw [this, Rat.mul_zero]
/-- a wall in the place of one of three that cross -/
theorem swap_in {X : Wl_ → Prop} (h3 : R3_ X) {x : Wl_} (hn : nv_ x ≠ o3_) : ∃ y z, X y ∧ X z ∧ dt_ x y z ≠ 0 := by
  obtain ⟨a, b, c, ha, hb, hc, hd⟩ := h3
  refine Classical.byContradiction (fun hno => hn ?_)
  have q : ∀ y z, X y → X z → dt_ x y z = 0 := fun y z hy hz => Classical.byContradiction (fun h => hno ⟨y, z, hy, hz, h⟩)
  have q1 := q b c hb hc
  have q2 := q c a hc ha
  have q3 := q a b ha hb
  clear q hno ha hb hc
  obtain ⟨x1, x2, x3, e⟩ := x
  obtain ⟨a1, a2, a3, e1⟩ := a
  obtain ⟨b1, b2, b3, e2⟩ := b
  obtain ⟨c1, c2, c3, e3⟩ := c
  simp only [dt_, dr_, cx_, nv_, o3_, Prod.mk.injEq] at *
  generalize (x1 : Rat) = x1 at *
  generalize (x2 : Rat) = x2 at *
  generalize (x3 : Rat) = x3 at *
  generalize (a1 : Rat) = a1 at *
  generalize (a2 : Rat) = a2 at *
  generalize (a3 : Rat) = a3 at *
  generalize (b1 : Rat) = b1 at *
  generalize (b2 : Rat) = b2 at *
  generalize (b3 : Rat) = b3 at *
  generalize (c1 : Rat) = c1 at *
  generalize (c2 : Rat) = c2 at *
  generalize (c3 : Rat) = c3 at *
  have e1 : x1 * (c1 * (a2 * b3 - a3 * b2) + c2 * (a3 * b1 - a1 * b3) + c3 * (a1 * b2 - a2 * b1)) = 0 := by grind
  have e2 : x2 * (c1 * (a2 * b3 - a3 * b2) + c2 * (a3 * b1 - a1 * b3) + c3 * (a1 * b2 - a2 * b1)) = 0 := by grind
  have e3 : x3 * (c1 * (a2 * b3 - a3 * b2) + c2 * (a3 * b1 - a1 * b3) + c3 * (a1 * b2 - a2 * b1)) = 0 := by grind
  exact ⟨(Rat.mul_eq_zero.mp e1).resolve_right hd, (Rat.mul_eq_zero.mp e2).resolve_right hd, (Rat.mul_eq_zero.mp e3).resolve_right hd⟩
/-- a third one beside two that cross -/
theorem third_in {X : Wl_ → Prop} (h3 : R3_ X) {x y : Wl_} (hc : cx_ x y ≠ o3_) : ∃ z, X z ∧ dt_ x y z ≠ 0 := by
  obtain ⟨a, b, c, ha, hb, hc', hd⟩ := h3
  refine Classical.byContradiction (fun hno => hc ?_)
  have q : ∀ z, X z → dr_ z (cx_ x y) = 0 := fun z hz => Classical.byContradiction (fun h => hno ⟨z, hz, h⟩)
  exact Classical.byContradiction (fun hne => by
    have q1 := q a ha
    have q2 := q b hb
    have q3 := q c hc'
    have hcab : cx_ a b ≠ o3_ := fun h0 => hd (dt_0 h0 c)
    obtain ⟨t, ht⟩ := along_cx q1 q2 hcab
    rw [ht, dr_mu] at q3
    rcases Rat.mul_eq_zero.mp q3 with h | h
    · apply hne
      rw [ht, h]
      simp only [mu_, o3_, Rat.zero_mul]
    · exact hd h)
/-- the corner of three walls -/
def cor_ (x y z : Wl_) : V3_ :=
  ((x.2.2.2 * (cx_ y z).1 + y.2.2.2 * (cx_ z x).1 + z.2.2.2 * (cx_ x y).1) / dt_ x y z,
   (x.2.2.2 * (cx_ y z).2.1 + y.2.2.2 * (cx_ z x).2.1 + z.2.2.2 * (cx_ x y).2.1) / dt_ x y z,
   (x.2.2.2 * (cx_ y z).2.2 + y.2.2.2 * (cx_ z x).2.2 + z.2.2.2 * (cx_ x y).2.2) / dt_ x y z)
theorem cor_dr (x y z w : Wl_) (h : dt_ x y z ≠ 0) : dr_ w (cor_ x y z) * dt_ x y z = x.2.2.2 * dr_ w (cx_ y z) + y.2.2.2 * dr_ w (cx_ z x) + z.2.2.2 * dr_ w (cx_ x y) := by
  have c1 := Rat.div_mul_cancel (a := (x.2.2.2 * (cx_ y z).1 + y.2.2.2 * (cx_ z x).1 + z.2.2.2 * (cx_ x y).1)) h
  have c2 := Rat.div_mul_cancel (a := (x.2.2.2 * (cx_ y z).2.1 + y.2.2.2 * (cx_ z x).2.1 + z.2.2.2 * (cx_ x y).2.1)) h
  have c3 := Rat.div_mul_cancel (a := (x.2.2.2 * (cx_ y z).2.2 + y.2.2.2 * (cx_ z x).2.2 + z.2.2.2 * (cx_ x y).2.2)) h
  simp only [cor_, dr_] at *
  grind
theorem cor_on (x y z : Wl_) (h : dt_ x y z ≠ 0) : ev_ x (cor_ x y z) = 0 ∧ ev_ y (cor_ x y z) = 0 ∧ ev_ z (cor_ x y z) = 0 := by
  have k : ∀ w : Wl_, (x.2.2.2 * dr_ w (cx_ y z) + y.2.2.2 * dr_ w (cx_ z x) + z.2.2.2 * dr_ w (cx_ x y) : Rat) = w.2.2.2 * dt_ x y z → ev_ w (cor_ x y z) = 0 := by
    intro w hw
    have := cor_dr x y z w h
    have h2 : ev_ w (cor_ x y z) * dt_ x y z = 0 := by
      unfold ev_; grind
    exact (Rat.mul_eq_zero.mp h2).resolve_right h
  refine ⟨k x ?_, k y ?_, k z ?_⟩
  · rw [dr_cx1, dr_cx2, dt_rot]; grind
  · rw [dr_cx1, dr_cx2, show dr_ y (cx_ z x) = dt_ x y z by simp only [dt_, dr_, cx_]; grind]; grind
  · rw [dr_cx1, dr_cx2]; unfold dt_; grind
theorem min_ex {α : Type} (f : α → Rat) (P : α → Prop) : ∀ L : List α, (∃ x ∈ L, P x) → ∃ x ∈ L, P x ∧ ∀ y ∈ L, P y → f x ≤ f y := by
  intro L
  induction L with
  | nil => intro ⟨x, hx, _⟩; cases hx
  | cons a L ih =>
    intro ⟨x, hx, hp⟩
    by_cases hL : ∃ x ∈ L, P x
    · obtain ⟨m, hm, h1, h2⟩ := ih hL
      by_cases ha : P a ∧ f a ≤ f m
      · refine ⟨a, List.mem_cons_self, ha.1, ?_⟩
        intro y hy hpy
        rcases List.mem_cons.mp hy with rfl | hy
        · exact Rat.le_refl
        · exact Rat.le_trans ha.2 (h2 y hy hpy)
      · refine ⟨m, List.mem_cons_of_mem _ hm, h1, ?_⟩
        intro y hy hpy
        rcases List.mem_cons.mp hy with rfl | hy
        · exact Rat.le_of_lt (Rat.not_le.mp (fun h => ha ⟨hpy, h⟩))
        · exact h2 y hy hpy
    · rcases List.mem_cons.mp hx with rfl | hx
      · refine ⟨x, List.mem_cons_self, hp, ?_⟩
        intro y hy hpy
        rcases List.mem_cons.mp hy with rfl | hy
        · exact Rat.le_refl
        · exact absurd ⟨y, hy, hpy⟩ hL
      · exact absurd ⟨x, hx, hp⟩ hL
