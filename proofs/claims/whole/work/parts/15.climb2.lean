/-! a little aside, so that no two walls are met at once by chance -/
def nn_ (v : V3_) (p : V3_) (x y : Wl_) : Rat := ev_ x p * dr_ y v - ev_ y p * dr_ x v
def bb_ (v u : V3_) (x y : Wl_) : Rat := dr_ x u * dr_ y v - dr_ y u * dr_ x v
theorem aside {A : List Wl_} (p v u : V3_) (hS : ∀ x ∈ A, ev_ x p = 0 → dr_ x u = 0) :
    ∃ p1, RE_ A p1 p ∧ ∀ x ∈ A, ∀ y ∈ A, nn_ v p1 x y = 0 → nn_ v p x y = 0 ∧ bb_ v u x y = 0 := by
  have e1 : Ev_ (fun t => ∀ x ∈ A, sg_ (ev_ x (ad_ p t u)) = sg_ (ev_ x p)) := by
    refine Ev_all A (fun x t => sg_ (ev_ x (ad_ p t u)) = sg_ (ev_ x p)) ?_
    intro x hx
    rcases (show ev_ x p < 0 ∨ ev_ x p = 0 ∨ 0 < ev_ x p by grind) with h | h | h
    · refine Ev_mono (Ev_lin (a := - ev_ x p) (- dr_ x u) (by grind)) (fun t _ ht => ?_)
      rw [sg_neg h, ev_ad]; exact sg_neg (by grind)
    · refine Ev_true (fun t _ => ?_)
      rw [ev_ad, hS x hx h, Rat.mul_zero]; congr 1; grind
    · refine Ev_mono (Ev_lin (dr_ x u) h) (fun t _ ht => ?_)
      rw [sg_pos h, ev_ad]; exact sg_pos ht
  have e2 : Ev_ (fun t => ∀ x ∈ A, ∀ y ∈ A, nn_ v p x y + t * bb_ v u x y = 0 → nn_ v p x y = 0 ∧ bb_ v u x y = 0) := by
    refine Ev_all A _ (fun x _ => ?_)
    exact Ev_all A (fun y t => nn_ v p x y + t * bb_ v u x y = 0 → nn_ v p x y = 0 ∧ bb_ v u x y = 0) (fun y _ => Ev_avoid _ _)
  obtain ⟨t, _, h1, h2⟩ := Ev_get (Ev_and e1 e2)
  refine ⟨ad_ p t u, h1, fun x hx y hy h0 => h2 x hx y hy ?_⟩
  rw [← h0]
  simp only [nn_, bb_, ev_ad]
  grind
/-- the first walls that are met on the way along v, or back -/
theorem first_hit {A : List Wl_} (p v : V3_) (hS : ∀ x ∈ A, ev_ x p = 0 → dr_ x v = 0) (hw : ∃ w ∈ A, dr_ w v ≠ 0) :
    ∃ (c t : Rat), (c = 1 ∨ c = -1) ∧ 0 < t ∧ (∃ x ∈ A, dr_ x v ≠ 0 ∧ ev_ x (ad_ p (c * t) v) = 0) ∧
      (∀ x ∈ A, ev_ x (ad_ p (c * t) v) ≠ 0 → sg_ (ev_ x (ad_ p (c * t) v)) = sg_ (ev_ x p)) := by
  have main : ∀ c : Rat, (c = 1 ∨ c = -1) → (∃ x ∈ A, c * dr_ x v ≠ 0 ∧ 0 < - ev_ x p / (c * dr_ x v)) → ∃ t : Rat, 0 < t ∧ (∃ x ∈ A, dr_ x v ≠ 0 ∧ ev_ x (ad_ p (c * t) v) = 0) ∧
      (∀ x ∈ A, ev_ x (ad_ p (c * t) v) ≠ 0 → sg_ (ev_ x (ad_ p (c * t) v)) = sg_ (ev_ x p)) := by
    intro c hc hex
    obtain ⟨x0, hx0, ⟨hd0, ht0⟩, hmin⟩ := min_ex (fun x => - ev_ x p / (c * dr_ x v)) (fun x => c * dr_ x v ≠ 0 ∧ 0 < - ev_ x p / (c * dr_ x v)) A hex
    refine ⟨- ev_ x0 p / (c * dr_ x0 v), ht0, ⟨x0, hx0, ?_, ?_⟩, ?_⟩
    · intro h; apply hd0; rw [h, Rat.mul_zero]
    · rw [ev_ad]
      have := Rat.div_mul_cancel (a := - ev_ x0 p) hd0
      grind
    · intro x hx hne
      generalize ht : - ev_ x0 p / (c * dr_ x0 v) = t at *
      rw [ev_ad] at *
      by_cases hd : c * dr_ x v = 0
      · have : c * t * dr_ x v = 0 := by
          have : t * (c * dr_ x v) = 0 := by rw [hd, Rat.mul_zero]
          grind
        rw [this, Rat.add_zero]
      · have hc2 := Rat.div_mul_cancel (a := - ev_ x p) hd
        generalize hs : - ev_ x p / (c * dr_ x v) = s at *
        generalize hdd : c * dr_ x v = d at *
        -- ev x p = - s d, and after t it is (t - s) d
        have e1 : ev_ x p = - (s * d) := by grind
        have e2 : ev_ x p + c * t * dr_ x v = (t - s) * d := by
          have : c * t * dr_ x v = t * d := by rw [← hdd]; grind
          grind
        rw [e2] at hne ⊢
        rw [e1]
        rcases (show 0 < s ∨ s = 0 ∨ s < 0 by grind) with h | h | h
        · have hle : t ≤ s := by
            have q := hmin x hx
            rw [hdd, hs] at q
            exact q ⟨hd, h⟩
          have hlt : t < s := by
            rcases (show t < s ∨ t = s by grind) with q | q
            · exact q
            · exfalso; apply hne; rw [q]; grind
          have k1 : sg_ ((s - t) * (-d)) = sg_ (-d) := sg_scale (by grind)
          have k2 : sg_ (s * (-d)) = sg_ (-d) := sg_scale h
          rw [show (t - s) * d = (s - t) * (-d) by grind, show - (s * d) = s * (-d) by grind, k1, k2]
        · exfalso
          have h0 : ev_ x p = 0 := by rw [e1, h]; grind
          apply hd
          rw [← hdd, hS x hx h0, Rat.mul_zero]
        · have k1 : sg_ ((t - s) * d) = sg_ d := sg_scale (by grind)
          have k2 : sg_ ((-s) * d) = sg_ d := sg_scale (by grind)
          rw [show - (s * d) = (-s) * d by grind, k1, k2]
  obtain ⟨w, hwA, hwd⟩ := hw
  have hev : ev_ w p ≠ 0 := fun h => hwd (hS w hwA h)
  have hq : - ev_ w p / dr_ w v ≠ 0 := by
    intro h
    have := Rat.div_mul_cancel (a := - ev_ w p) hwd
    rw [h] at this
    grind
  rcases (show 0 < - ev_ w p / dr_ w v ∨ - ev_ w p / dr_ w v < 0 by grind) with h | h
  · obtain ⟨t, h1, h2, h3⟩ := main 1 (Or.inl rfl) ⟨w, hwA, by rw [Rat.one_mul]; exact hwd, by rw [Rat.one_mul]; exact h⟩
    exact ⟨1, t, Or.inl rfl, h1, h2, h3⟩
  · have hd1 : (-1 : Rat) * dr_ w v ≠ 0 := by intro h0; apply hwd; grind
    obtain ⟨t, h1, h2, h3⟩ := main (-1) (Or.inr rfl) ⟨w, hwA, hd1, by
      have e1 := Rat.div_mul_cancel (a := - ev_ w p) hwd
      have e2 := Rat.div_mul_cancel (a := - ev_ w p) hd1
      generalize - ev_ w p / dr_ w v = a at *
      generalize - ev_ w p / (-1 * dr_ w v) = b at *
      have : (a + b) * dr_ w v = 0 := by grind
      have := (Rat.mul_eq_zero.mp this).resolve_right hwd
      grind⟩
    exact ⟨-1, t, Or.inr rfl, h1, h2, h3⟩
/-- what the class's search keeps to: corners, and moves along lines that take one from the rank -/
def Cl_ (A : List Wl_) (X : Wl_ → Prop) (Rch : V3_ → Prop) : Prop :=
  (∀ p q, RE_ A p q → Rch p → Rch q) ∧
  (∀ x y z, X x → X y → X z → dt_ x y z ≠ 0 → Rch (cor_ x y z)) ∧
  (∀ g, Rch g → ∀ x y, X x → X y → cx_ x y ≠ o3_ → (∃ w ∈ A, dr_ w (cx_ x y) ≠ 0) → rk_ (fun z => On_ A g z ∧ dr_ z (cx_ x y) = 0) + 1 = rk_ (On_ A g) →
    ∀ (c : Rat), (c = 1 ∨ c = -1) → ∀ p, (∀ z ∈ A, ev_ z g ≠ 0 → sg_ (ev_ z p) = sg_ (ev_ z g)) → (∀ z ∈ A, ev_ z g = 0 → sg_ (ev_ z p) = sg_ (c * dr_ z (cx_ x y))) → Rch p)
/-- along a line off p until walls are met: if their rank is one more than p's, p is reached with them -/
theorem climb_step {A : List Wl_} {X : Wl_ → Prop} {Rch : V3_ → Prop} (hC : Cl_ A X Rch) (p : V3_) {x y : Wl_} (hx : X x) (hy : X y) (hS : ∀ z ∈ A, ev_ z p = 0 → dr_ z (cx_ x y) = 0) (hw : ∃ w ∈ A, dr_ w (cx_ x y) ≠ 0)
    (hup : ∀ g, (∀ z ∈ A, ev_ z p = 0 → ev_ z g = 0) → (∃ z ∈ A, dr_ z (cx_ x y) ≠ 0 ∧ ev_ z g = 0) → (∀ z ∈ A, ev_ z g = 0 → dr_ z (cx_ x y) = 0 → ev_ z p = 0) → (∀ z ∈ A, ∀ z' ∈ A, ev_ z g = 0 → ev_ z' g = 0 → nn_ (cx_ x y) p z z' = 0) → rk_ (On_ A g) = rk_ (On_ A p) + 1 ∧ Rch g) : Rch p := by
  obtain ⟨c, t, hc, ht, ⟨x0, hx0, hd0, he0⟩, hsame⟩ := first_hit p (cx_ x y) hS hw
  generalize hg : ad_ p (c * t) (cx_ x y) = g at *
  have hev : ∀ z, ev_ z g = ev_ z p + c * t * dr_ z (cx_ x y) := fun z => by rw [← hg, ev_ad]
  have hct : c * t ≠ 0 := by
    intro h0
    rcases hc with rfl | rfl
    · grind
    · grind
  have hback : ∀ z ∈ A, ev_ z g = 0 → dr_ z (cx_ x y) = 0 → ev_ z p = 0 := by
    intro z _ h1 h2
    have := hev z
    rw [h1, h2, Rat.mul_zero] at this
    grind
  have hon : ∀ z ∈ A, ev_ z p = 0 → ev_ z g = 0 := by
    intro z hz h
    rw [hev z, h, hS z hz h, Rat.mul_zero]; grind
  obtain ⟨hr, hR⟩ := hup g hon ⟨x0, hx0, hd0, he0⟩ hback (by
    intro z _ z' _ h1 h2
    have a1 := hev z
    have a2 := hev z'
    rw [h1] at a1
    rw [h2] at a2
    simp only [nn_]
    have b1 : ev_ z p = - (c * t * dr_ z (cx_ x y)) := by grind
    have b2 : ev_ z' p = - (c * t * dr_ z' (cx_ x y)) := by grind
    rw [b1, b2]; grind)
  have hne : cx_ x y ≠ o3_ := by
    intro h0
    obtain ⟨w, _, hw⟩ := hw
    apply hw
    rw [h0, dr_o]
  refine hC.2.2 g hR x y hx hy hne hw ?_ (-c) (by rcases hc with rfl | rfl; exact Or.inr rfl; exact Or.inl (by grind)) p ?_ ?_
  · rw [hr]
    congr 1
    refine rk_cg (fun z => ⟨fun ⟨⟨h1, h2⟩, h3⟩ => ⟨h1, hback z h1 h2 h3⟩, fun ⟨h1, h2⟩ => ⟨⟨h1, hon z h1 h2⟩, hS z h1 h2⟩⟩)
  · intro z hz h; exact (hsame z hz h).symm
  · intro z hz h
    have a1 := hev z
    rw [h] at a1
    have b1 : ev_ z p = t * (-c * dr_ z (cx_ x y)) := by grind
    rw [b1, sg_scale ht]
/-- walls that are across two ways that aren't parallel are parallel -/
theorem two_ways {x y : Wl_} {a b : V3_} (h1 : dr_ x a = 0) (h2 : dr_ x b = 0) (h3 : dr_ y a = 0) (h4 : dr_ y b = 0)
    (hab : ¬ (a.2.1 * b.2.2 - a.2.2 * b.2.1 = 0 ∧ a.2.2 * b.1 - a.1 * b.2.2 = 0 ∧ a.1 * b.2.1 - a.2.1 * b.1 = 0)) : cx_ x y = o3_ := by
  obtain ⟨x1, x2, x3, e⟩ := x
  obtain ⟨y1, y2, y3, f⟩ := y
  obtain ⟨a1, a2, a3⟩ := a
  obtain ⟨b1, b2, b3⟩ := b
  simp only [dr_, cx_, o3_, Prod.mk.injEq] at *
  generalize (x1 : Rat) = x1 at *
  generalize (x2 : Rat) = x2 at *
  generalize (x3 : Rat) = x3 at *
  generalize (y1 : Rat) = y1 at *
  generalize (y2 : Rat) = y2 at *
  generalize (y3 : Rat) = y3 at *
  by_cases c1 : a2 * b3 - a3 * b2 = 0
  · by_cases c2 : a3 * b1 - a1 * b3 = 0
    · have c3 : a1 * b2 - a2 * b1 ≠ 0 := fun h => hab ⟨c1, c2, h⟩
      have k1 : (x2 * y3 - x3 * y2) * (a1 * b2 - a2 * b1) = 0 := by grind
      have k2 : (x3 * y1 - x1 * y3) * (a1 * b2 - a2 * b1) = 0 := by grind
      have k3 : (x1 * y2 - x2 * y1) * (a1 * b2 - a2 * b1) = 0 := by grind
      exact ⟨(Rat.mul_eq_zero.mp k1).resolve_right c3, (Rat.mul_eq_zero.mp k2).resolve_right c3, (Rat.mul_eq_zero.mp k3).resolve_right c3⟩
    · have k1 : (x2 * y3 - x3 * y2) * (a3 * b1 - a1 * b3) = 0 := by grind
      have k2 : (x3 * y1 - x1 * y3) * (a3 * b1 - a1 * b3) = 0 := by grind
      have k3 : (x1 * y2 - x2 * y1) * (a3 * b1 - a1 * b3) = 0 := by grind
      exact ⟨(Rat.mul_eq_zero.mp k1).resolve_right c2, (Rat.mul_eq_zero.mp k2).resolve_right c2, (Rat.mul_eq_zero.mp k3).resolve_right c2⟩
  · have k1 : (x2 * y3 - x3 * y2) * (a2 * b3 - a3 * b2) = 0 := by grind
    have k2 : (x3 * y1 - x1 * y3) * (a2 * b3 - a3 * b2) = 0 := by grind
    have k3 : (x1 * y2 - x2 * y1) * (a2 * b3 - a3 * b2) = 0 := by grind
    exact ⟨(Rat.mul_eq_zero.mp k1).resolve_right c1, (Rat.mul_eq_zero.mp k2).resolve_right c1, (Rat.mul_eq_zero.mp k3).resolve_right c1⟩
/-- three walls across one way have no determinant -/
theorem one_way {x y z : Wl_} {a : V3_} (ha : a ≠ o3_) (h1 : dr_ x a = 0) (h2 : dr_ y a = 0) (h3 : dr_ z a = 0) : dt_ x y z = 0 := by
  refine Classical.byContradiction (fun hd => ha ?_)
  have hc : cx_ x y ≠ o3_ := fun h0 => hd (dt_0 h0 z)
  obtain ⟨t, ht⟩ := along_cx h1 h2 hc
  rw [ht, dr_mu] at h3
  rcases Rat.mul_eq_zero.mp h3 with h | h
  · rw [ht, h]; simp only [mu_, o3_, Rat.zero_mul]
  · exact absurd h hd
theorem climb_2 {A : List Wl_} {X : Wl_ → Prop} {Rch : V3_ → Prop} (hC : Cl_ A X Rch) (hAX : ∀ x ∈ A, X x) (p : V3_) (h2 : R2_ (On_ A p)) (h3 : ¬ R3_ (On_ A p)) (hw : ∃ w ∈ A, ∃ u, (∀ z ∈ A, ev_ z p = 0 → dr_ z u = 0) ∧ dr_ w u ≠ 0)
    (ih : ∀ g, rk_ (On_ A p) < rk_ (On_ A g) → Rch g) : Rch p := by
  obtain ⟨x, y, hx, hy, hc⟩ := h2
  have hS : ∀ z ∈ A, ev_ z p = 0 → dr_ z (cx_ x y) = 0 := fun z hz h => flat_all h3 hx hy ⟨hz, h⟩ hc (dr_cx1 x y) (dr_cx2 x y)
  have hw' : ∃ w ∈ A, dr_ w (cx_ x y) ≠ 0 := by
    obtain ⟨w, hwA, u, hu, hd⟩ := hw
    obtain ⟨t, ht⟩ := along_cx (hu x hx.1 hx.2) (hu y hy.1 hy.2) hc
    refine ⟨w, hwA, fun h0 => hd ?_⟩
    rw [ht, dr_mu, h0, Rat.mul_zero]
  refine climb_step hC p (hAX x hx.1) (hAX y hy.1) hS hw' ?_
  intro g hon hex _ _
  obtain ⟨z, hz, hd, he⟩ := hex
  have r3 : R3_ (On_ A g) := ⟨x, y, z, ⟨hx.1, hon x hx.1 hx.2⟩, ⟨hy.1, hon y hy.1 hy.2⟩, ⟨hz, he⟩, hd⟩
  have e1 : rk_ (On_ A g) = 3 := rk_3 r3
  have e2 : rk_ (On_ A p) = 2 := rk_2 ⟨x, y, hx, hy, hc⟩ h3
  exact ⟨by rw [e1, e2], ih g (by rw [e1, e2]; omega)⟩
theorem climb_1 {A : List Wl_} {X : Wl_ → Prop} {Rch : V3_ → Prop} (hC : Cl_ A X Rch) (hAX : ∀ x ∈ A, X x) (hX : R3_ X) (hn : ∀ x ∈ A, nv_ x ≠ o3_) (p : V3_) (h1 : ∃ x, On_ A p x) (h2 : ¬ R2_ (On_ A p)) (hw : ∃ w ∈ A, ∃ u, (∀ z ∈ A, ev_ z p = 0 → dr_ z u = 0) ∧ dr_ w u ≠ 0)
    (ih : ∀ g, rk_ (On_ A p) < rk_ (On_ A g) → Rch g) : Rch p := by
  obtain ⟨x, hx⟩ := h1
  obtain ⟨w, hwA, u0, hu0, hd0⟩ := hw
  have hcw : cx_ x w ≠ o3_ := by
    intro h0
    apply hd0
    -- w parallel to x
    have : ¬ R2_ (fun z => z = x ∨ z = w) := by
      rintro ⟨a, b, ha, hb, hab⟩
      apply hab
      rcases ha with rfl | rfl <;> rcases hb with rfl | rfl
      · simp only [cx_, o3_, Prod.mk.injEq]; grind
      · exact h0
      · simp only [cx_, o3_, Prod.mk.injEq] at h0 ⊢; grind
      · simp only [cx_, o3_, Prod.mk.injEq]; grind
    exact par_all this (Or.inl rfl) (Or.inr rfl) (hn x hx.1) (hu0 x hx.1 hx.2)
  obtain ⟨z, hz, hdz⟩ := third_in hX hcw
  have hS : ∀ (u : V3_), dr_ x u = 0 → ∀ y ∈ A, ev_ y p = 0 → dr_ y u = 0 := fun u hu y hy h => par_all h2 hx ⟨hy, h⟩ (hn x hx.1) hu
  obtain ⟨p1, hp1, hp2⟩ := aside (A := A) p (cx_ x z) (cx_ x w) (hS _ (dr_cx1 x w))
  have hop : ∀ y, On_ A p1 y ↔ On_ A p y := On_cg hp1
  have e0 : rk_ (On_ A p1) = rk_ (On_ A p) := rk_cg hop
  refine hC.1 p1 p hp1 ?_
  have hdw : dr_ w (cx_ x z) ≠ 0 := by
    intro h0; apply hdz
    have := dt_rot2 x w z
    rw [h0] at this; grind
  refine climb_step hC p1 (hAX x hx.1) hz (fun y hy h => hS _ (dr_cx1 x z) y hy ((hop y).mp ⟨hy, h⟩).2) ⟨w, hwA, hdw⟩ ?_
  intro g hon hex hback hnn
  obtain ⟨y, hy, hdy, hey⟩ := hex
  have hxg : On_ A g x := ⟨hx.1, hon x hx.1 ((hop x).mpr hx).2⟩
  have hxy : cx_ x y ≠ o3_ := by
    intro h0
    apply hdy
    have e := dt_rot2 x y z
    rw [e, dt_0 h0 z]; rfl
  have r2 : R2_ (On_ A g) := ⟨x, y, hxg, ⟨hy, hey⟩, hxy⟩
  -- all walls met are across one way
  have hway : ∀ y' ∈ A, ev_ y' g = 0 → dr_ y' (ad_ (mu_ (dr_ y (cx_ x z)) (cx_ x w)) (- dr_ y (cx_ x w)) (cx_ x z)) = 0 := by
    intro y' hy' he'
    have hb := (hp2 y' hy' y hy (hnn y' hy' y hy he' hey)).2
    rw [dr_ad, dr_mu]
    simp only [bb_] at hb
    grind
  have hne : ad_ (mu_ (dr_ y (cx_ x z)) (cx_ x w)) (- dr_ y (cx_ x w)) (cx_ x z) ≠ o3_ := by
    intro h0
    have k : dr_ z (ad_ (mu_ (dr_ y (cx_ x z)) (cx_ x w)) (- dr_ y (cx_ x w)) (cx_ x z)) = 0 := by rw [h0, dr_o]
    rw [dr_ad, dr_mu, dr_cx2, Rat.mul_zero, Rat.add_zero] at k
    rcases Rat.mul_eq_zero.mp k with h | h
    · exact hdy h
    · exact hdz h
  have r3 : ¬ R3_ (On_ A g) := by
    rintro ⟨a, b, c, ha, hb, hc, hd⟩
    exact hd (one_way hne (hway a ha.1 ha.2) (hway b hb.1 hb.2) (hway c hc.1 hc.2))
  have e1 : rk_ (On_ A g) = 2 := rk_2 r2 r3
  have e2 : rk_ (On_ A p) = 1 := rk_1 ⟨x, hx⟩ h2 (fun h => h2 (R3_R2 h))
  exact ⟨by rw [e1, e0, e2], ih g (by rw [e1, e2]; omega)⟩
theorem climb_0 {A : List Wl_} {X : Wl_ → Prop} {Rch : V3_ → Prop} (hC : Cl_ A X Rch) (hX : R3_ X) (hn : ∀ x ∈ A, nv_ x ≠ o3_) (p : V3_) (h1 : ¬ ∃ x, On_ A p x) (hw : ∃ w, w ∈ A)
    (ih : ∀ g, rk_ (On_ A p) < rk_ (On_ A g) → Rch g) : Rch p := by
  obtain ⟨w, hwA⟩ := hw
  obtain ⟨y, z, hy, hz, hd⟩ := swap_in hX (hn w hwA)
  have hS : ∀ (q u : V3_), RE_ A q p → ∀ y ∈ A, ev_ y q = 0 → dr_ y u = 0 := fun q u hq y hy h => absurd ⟨y, (On_cg hq y).mp ⟨hy, h⟩⟩ h1
  obtain ⟨p1, hp1, hq1⟩ := aside (A := A) p (cx_ y z) (cx_ w z) (hS p _ (RE_refl A p))
  obtain ⟨p2, hp2, hq2⟩ := aside (A := A) p1 (cx_ y z) (cx_ w y) (hS p1 _ hp1)
  have hpp : RE_ A p2 p := RE_trans hp2 hp1
  have hop : ∀ y, On_ A p2 y ↔ On_ A p y := On_cg hpp
  have e0 : rk_ (On_ A p2) = rk_ (On_ A p) := rk_cg hop
  refine hC.1 p2 p hpp ?_
  have hdw : dr_ w (cx_ y z) ≠ 0 := by rw [dt_rot]; exact hd
  refine climb_step hC p2 hy hz (hS p2 _ hpp) ⟨w, hwA, hdw⟩ ?_
  intro g hon hex hback hnn
  obtain ⟨x, hx, hdx, hex⟩ := hex
  have hway1 : ∀ y' ∈ A, ev_ y' g = 0 → dr_ y' (ad_ (mu_ (dr_ x (cx_ y z)) (cx_ w z)) (- dr_ x (cx_ w z)) (cx_ y z)) = 0 := by
    intro y' hy' he'
    have hb := (hq1 y' hy' x hx (hq2 y' hy' x hx (hnn y' hy' x hx he' hex)).1).2
    rw [dr_ad, dr_mu]
    simp only [bb_] at hb
    grind
  have hway2 : ∀ y' ∈ A, ev_ y' g = 0 → dr_ y' (ad_ (mu_ (dr_ x (cx_ y z)) (cx_ w y)) (- dr_ x (cx_ w y)) (cx_ y z)) = 0 := by
    intro y' hy' he'
    have hb := (hq2 y' hy' x hx (hnn y' hy' x hx he' hex)).2
    rw [dr_ad, dr_mu]
    simp only [bb_] at hb
    grind
  have r2 : ¬ R2_ (On_ A g) := by
    rintro ⟨a, b, ha, hb, hab⟩
    refine hab (two_ways (hway1 a ha.1 ha.2) (hway2 a ha.1 ha.2) (hway1 b hb.1 hb.2) (hway2 b hb.1 hb.2) ?_)
    intro hpar
    -- the two ways aren't parallel: z is along the first alone
    have k1 : dr_ z (ad_ (mu_ (dr_ x (cx_ y z)) (cx_ w z)) (- dr_ x (cx_ w z)) (cx_ y z)) = 0 := by rw [dr_ad, dr_mu, dr_cx2, dr_cx2]; grind
    have k2 : dr_ z (ad_ (mu_ (dr_ x (cx_ y z)) (cx_ w y)) (- dr_ x (cx_ w y)) (cx_ y z)) ≠ 0 := by
      rw [dr_ad, dr_mu, dr_cx2, Rat.mul_zero, Rat.add_zero]
      intro h0
      rcases Rat.mul_eq_zero.mp h0 with h | h
      · exact hdx h
      · exact hd h
    have k3 : dr_ y (ad_ (mu_ (dr_ x (cx_ y z)) (cx_ w z)) (- dr_ x (cx_ w z)) (cx_ y z)) ≠ 0 := by
      rw [dr_ad, dr_mu, dr_cx1, Rat.mul_zero, Rat.add_zero]
      intro h0
      rcases Rat.mul_eq_zero.mp h0 with h | h
      · exact hdx h
      · have := dt_rot2 w y z
        rw [h] at this
        apply hd; grind
    have k4 : dr_ y (ad_ (mu_ (dr_ x (cx_ y z)) (cx_ w y)) (- dr_ x (cx_ w y)) (cx_ y z)) = 0 := by rw [dr_ad, dr_mu, dr_cx2, dr_cx1]; grind
    generalize ad_ (mu_ (dr_ x (cx_ y z)) (cx_ w z)) (- dr_ x (cx_ w z)) (cx_ y z) = m1 at *
    generalize ad_ (mu_ (dr_ x (cx_ y z)) (cx_ w y)) (- dr_ x (cx_ w y)) (cx_ y z) = m2 at *
    have : dr_ y m1 * dr_ z m2 = 0 := by
      obtain ⟨q1, q2, q3⟩ := hpar
      have : dr_ y m1 * dr_ z m2 - dr_ z m1 * dr_ y m2 = 0 := by
        simp only [dr_]; grind
      rw [k1, k4] at this
      grind
    rcases Rat.mul_eq_zero.mp this with h | h
    · exact k3 h
    · exact k2 h
  have e1 : rk_ (On_ A g) = 1 := rk_1 ⟨x, hx, hex⟩ r2 (fun h => r2 (R3_R2 h))
  have e2 : rk_ (On_ A p) = 0 := rk_0 h1 (fun h => h1 (R2_ex h)) (fun h => h1 (R2_ex (R3_R2 h)))
  exact ⟨by rw [e1, e0, e2], ih g (by rw [e1, e2]; omega)⟩
/-- where nothing leads further, a corner tells the face -/
theorem climb_base {A : List Wl_} {X : Wl_ → Prop} {Rch : V3_ → Prop} (hC : Cl_ A X Rch) (hAX : ∀ x ∈ A, X x) (hX : R3_ X) (hn : ∀ x ∈ A, nv_ x ≠ o3_) (p : V3_) (hw : ¬ ∃ w ∈ A, ∃ u, (∀ z ∈ A, ev_ z p = 0 → dr_ z u = 0) ∧ dr_ w u ≠ 0) : Rch p := by
  have key : ∀ x y z, X x → X y → X z → dt_ x y z ≠ 0 → (∀ q, ev_ x q = 0 → ev_ y q = 0 → ev_ z q = 0 → ∀ s ∈ A, ev_ s p = 0 → dr_ s (sb_ q p) = 0) → Rch p := by
    intro x y z hx hy hz hd hq
    obtain ⟨c1, c2, c3⟩ := cor_on x y z hd
    refine hC.1 (cor_ x y z) p ?_ (hC.2.1 x y z hx hy hz hd)
    intro w hwA
    have : dr_ w (sb_ (cor_ x y z) p) = 0 := Classical.byContradiction (fun h => hw ⟨w, hwA, _, hq _ c1 c2 c3, h⟩)
    rw [dr_sb] at this
    congr 1; grind
  by_cases h3 : R3_ (On_ A p)
  · obtain ⟨x, y, z, hx, hy, hz, hd⟩ := h3
    refine key x y z (hAX x hx.1) (hAX y hy.1) (hAX z hz.1) hd ?_
    intro q q1 q2 q3 s _ _
    have hc : cx_ x y ≠ o3_ := fun h0 => hd (dt_0 h0 z)
    obtain ⟨t, ht⟩ := along_cx (u := sb_ q p) (by rw [dr_sb, q1, hx.2]; grind) (by rw [dr_sb, q2, hy.2]; grind) hc
    have hz0 : dr_ z (sb_ q p) = 0 := by rw [dr_sb, q3, hz.2]; grind
    rw [ht, dr_mu] at hz0
    rcases Rat.mul_eq_zero.mp hz0 with h | h
    · rw [ht, h, dr_mu, Rat.zero_mul]
    · exact absurd h hd
  · by_cases h2 : R2_ (On_ A p)
    · obtain ⟨x, y, hx, hy, hc⟩ := h2
      obtain ⟨z, hz, hd⟩ := third_in hX hc
      refine key x y z (hAX x hx.1) (hAX y hy.1) hz hd ?_
      intro q q1 q2 _ s hs he
      exact flat_all h3 hx hy ⟨hs, he⟩ hc (by rw [dr_sb, q1, hx.2]; grind) (by rw [dr_sb, q2, hy.2]; grind)
    · by_cases h1 : ∃ x, On_ A p x
      · obtain ⟨x, hx⟩ := h1
        obtain ⟨y, z, hy, hz, hd⟩ := swap_in hX (hn x hx.1)
        refine key x y z (hAX x hx.1) hy hz hd ?_
        intro q q1 _ _ s hs he
        exact par_all h2 hx ⟨hs, he⟩ (hn x hx.1) (by rw [dr_sb, q1, hx.2]; grind)
      · obtain ⟨x, y, z, hx, hy, hz, hd⟩ := hX
        refine key x y z hx hy hz hd ?_
        intro q _ _ _ s hs he
        exact absurd ⟨s, hs, he⟩ h1
/-- EVERY FACE IS REACHED -/
theorem climb_all {A : List Wl_} {X : Wl_ → Prop} {Rch : V3_ → Prop} (hC : Cl_ A X Rch) (hAX : ∀ x ∈ A, X x) (hX : R3_ X) (hn : ∀ x ∈ A, nv_ x ≠ o3_) : ∀ p, Rch p := by
  have main : ∀ (n : Nat) (p : V3_), 3 - rk_ (On_ A p) < n → Rch p := by
    intro n
    induction n with
    | zero => intro p h; omega
    | succ n ih =>
      intro p h
      have ih' : ∀ g, rk_ (On_ A p) < rk_ (On_ A g) → Rch g := by
        intro g hg
        have := rk_le3 (On_ A g)
        exact ih g (by omega)
      by_cases hw : ∃ w ∈ A, ∃ u, (∀ z ∈ A, ev_ z p = 0 → dr_ z u = 0) ∧ dr_ w u ≠ 0
      · by_cases h3 : R3_ (On_ A p)
        · exfalso
          obtain ⟨x, y, z, hx, hy, hz, hd⟩ := h3
          obtain ⟨w, _, u, hu, hwu⟩ := hw
          apply hwu
          have hc : cx_ x y ≠ o3_ := fun h0 => hd (dt_0 h0 z)
          obtain ⟨t, ht⟩ := along_cx (hu x hx.1 hx.2) (hu y hy.1 hy.2) hc
          have hz0 := hu z hz.1 hz.2
          rw [ht, dr_mu] at hz0
          rcases Rat.mul_eq_zero.mp hz0 with h | h
          · rw [ht, h, dr_mu, Rat.zero_mul]
          · exact absurd h hd
        · by_cases h2 : R2_ (On_ A p)
          · exact climb_2 hC hAX p h2 h3 hw ih'
          · by_cases h1 : ∃ x, On_ A p x
            · exact climb_1 hC hAX hX hn p h1 h2 hw ih'
            · obtain ⟨w, hwA, _⟩ := hw
              exact climb_0 hC hX hn p h1 ⟨w, hwA⟩ ih'
      · exact climb_base hC hAX hX hn p hw
  intro p
  exact main 4 p (by omega)
