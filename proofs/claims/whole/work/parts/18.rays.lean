/-! a room that goes on for ever does so along a line in which two walls cross -/
def vl_ (b : Bool) (r : Rat) : Rat := if b = true then r else - r
theorem r1_vl {b : Bool} {r : Rat} : r1_ b r ↔ 0 ≤ vl_ b r := by
  cases b
  · simp [r1_, vl_]; grind
  · simp [r1_, vl_]
theorem vl_add (b : Bool) (r t q : Rat) : vl_ b (r + t * q) = vl_ b r + t * vl_ b q := by
  cases b
  · simp [vl_]; grind
  · simp [vl_]
theorem vl_mul (b : Bool) (t q : Rat) : vl_ b (t * q) = t * vl_ b q := by
  cases b
  · simp [vl_]; grind
  · simp [vl_]
theorem vl_z {b : Bool} {r : Rat} : vl_ b r = 0 ↔ r = 0 := by
  cases b
  · simp [vl_]; grind
  · simp [vl_]
theorem sq_z {a b c : Rat} (h : a * a + b * b + c * c = 0) : a = 0 ∧ b = 0 ∧ c = 0 := by
  have k : ∀ x : Rat, 0 ≤ x * x := fun x => by
    rcases Rat.le_total (a := 0) (b := x) with q | q
    · exact Rat.mul_nonneg q q
    · have := Rat.mul_nonneg (show 0 ≤ -x by grind) (show 0 ≤ -x by grind)
      grind
  have ka := k a
  have kb := k b
  have kc := k c
  have za : a * a = 0 := by grind
  have zb : b * b = 0 := by grind
  have zc : c * c = 0 := by grind
  refine ⟨?_, ?_, ?_⟩
  · rcases Rat.mul_eq_zero.mp za with q | q <;> exact q
  · rcases Rat.mul_eq_zero.mp zb with q | q <;> exact q
  · rcases Rat.mul_eq_zero.mp zc with q | q <;> exact q
theorem perp_off {u z : V3_} (hu : u ≠ o3_) (h : u.1 * z.1 + u.2.1 * z.2.1 + u.2.2 * z.2.2 = 0) (t : Rat) : ad_ u t z ≠ o3_ := by
  intro h0
  apply hu
  obtain ⟨u1, u2, u3⟩ := u
  obtain ⟨z1, z2, z3⟩ := z
  simp only [ad_, o3_, Prod.mk.injEq] at *
  obtain ⟨h1, h2, h3⟩ := h0
  exact sq_z (by grind)
theorem ray_step {L : List (Wl_ × Bool)} {u z : V3_} (hr : rB_ L u) (hT : ∀ x ∈ L, dr_ x.1 u = 0 → dr_ x.1 z = 0) (hne : ∀ t, ad_ u t z ≠ o3_) (hex : ∃ x ∈ L, dr_ x.1 z ≠ 0) :
    ∃ u', u' ≠ o3_ ∧ rB_ L u' ∧ (∀ x ∈ L, dr_ x.1 u = 0 → dr_ x.1 u' = 0) ∧ ∃ x ∈ L, dr_ x.1 u' = 0 ∧ dr_ x.1 z ≠ 0 := by
  have main : ∀ z : V3_, (∀ x ∈ L, dr_ x.1 u = 0 → dr_ x.1 z = 0) → (∀ t, ad_ u t z ≠ o3_) → (∃ x ∈ L, vl_ x.2 (dr_ x.1 z) < 0) → ∃ u', u' ≠ o3_ ∧ rB_ L u' ∧ (∀ x ∈ L, dr_ x.1 u = 0 → dr_ x.1 u' = 0) ∧ ∃ x ∈ L, dr_ x.1 u' = 0 ∧ dr_ x.1 z ≠ 0 := by
    intro z hT hne hex
    obtain ⟨x, hx, hx0, hmin⟩ := min_ex (fun x : Wl_ × Bool => vl_ x.2 (dr_ x.1 u) / (- vl_ x.2 (dr_ x.1 z))) (fun x => vl_ x.2 (dr_ x.1 z) < 0) L hex
    have hxn : - vl_ x.2 (dr_ x.1 z) ≠ 0 := fun h => by
      have : vl_ x.2 (dr_ x.1 z) = 0 := by grind
      rw [this] at hx0; exact Rat.lt_irrefl hx0
    have hxc := Rat.div_mul_cancel (a := vl_ x.2 (dr_ x.1 u)) hxn
    generalize ht : vl_ x.2 (dr_ x.1 u) / (- vl_ x.2 (dr_ x.1 z)) = t at *
    have ht0 : 0 ≤ t := by
      have h1 := r1_vl.mp (hr x hx)
      rcases Rat.le_total (a := 0) (b := t) with q | q
      · exact q
      · have := Rat.mul_nonneg (show 0 ≤ -t by grind) (show 0 ≤ - vl_ x.2 (dr_ x.1 z) by grind)
        have h2 : t * (- vl_ x.2 (dr_ x.1 z)) = 0 := by grind
        rcases Rat.mul_eq_zero.mp h2 with q | q
        · rw [q]; exact Rat.le_refl
        · exact absurd q hxn
    refine ⟨ad_ u t z, hne t, ?_, ?_, x, hx, ?_, ?_⟩
    · intro y hy
      rw [r1_vl, dr_ad, vl_add]
      have h1 := r1_vl.mp (hr y hy)
      rcases (show 0 ≤ vl_ y.2 (dr_ y.1 z) ∨ vl_ y.2 (dr_ y.1 z) < 0 by grind) with q | q
      · have := Rat.mul_nonneg ht0 q
        grind
      · have hm := hmin y hy q
        have hyn : - vl_ y.2 (dr_ y.1 z) ≠ 0 := fun h => by
          have : vl_ y.2 (dr_ y.1 z) = 0 := by grind
          rw [this] at q; exact Rat.lt_irrefl q
        have hyc := Rat.div_mul_cancel (a := vl_ y.2 (dr_ y.1 u)) hyn
        generalize vl_ y.2 (dr_ y.1 u) / (- vl_ y.2 (dr_ y.1 z)) = s at *
        have := Rat.mul_nonneg (show 0 ≤ s - t by grind) (show 0 ≤ - vl_ y.2 (dr_ y.1 z) by grind)
        grind
    · intro y hy h0
      rw [dr_ad, h0, hT y hy h0, Rat.mul_zero]; exact Rat.add_zero _
    · have : vl_ x.2 (dr_ x.1 (ad_ u t z)) = 0 := by rw [dr_ad, vl_add]; grind
      exact vl_z.mp this
    · intro h0
      apply hxn
      rw [h0]
      have : vl_ x.2 0 = 0 := vl_z.mpr rfl
      rw [this]; rfl
  obtain ⟨x, hx, hd⟩ := hex
  have hv : vl_ x.2 (dr_ x.1 z) ≠ 0 := fun h => hd (vl_z.mp h)
  rcases (show vl_ x.2 (dr_ x.1 z) < 0 ∨ 0 < vl_ x.2 (dr_ x.1 z) by grind) with q | q
  · exact main z hT hne ⟨x, hx, q⟩
  · obtain ⟨u', h1, h2, h3, y, hy, h4, h5⟩ := main (mu_ (-1) z) (fun y hy h0 => by rw [dr_mu, hT y hy h0, Rat.mul_zero]) (fun t => by
      have := hne (-t)
      intro h0
      apply this
      rw [← h0]
      simp only [ad_, mu_, Prod.mk.injEq]
      refine ⟨?_, ?_, ?_⟩ <;> grind) ⟨x, hx, by rw [dr_mu, vl_mul]; grind⟩
    refine ⟨u', h1, h2, h3, y, hy, h4, fun h0 => h5 ?_⟩
    rw [dr_mu, h0, Rat.mul_zero]
theorem rB_scale {L : List (Wl_ × Bool)} {u : V3_} {t : Rat} (ht : 0 < t) (h : rB_ L (mu_ t u)) : rB_ L u := by
  intro x hx
  have := r1_vl.mp (h x hx)
  rw [dr_mu, vl_mul] at this
  rw [r1_vl]
  rcases (show 0 ≤ vl_ x.2 (dr_ x.1 u) ∨ vl_ x.2 (dr_ x.1 u) < 0 by grind) with q | q
  · exact q
  · have := Rat.mul_pos ht (show 0 < - vl_ x.2 (dr_ x.1 u) by grind)
    grind
theorem ray_2 {L : List (Wl_ × Bool)} {u : V3_} (hu : u ≠ o3_) (hr : rB_ L u) {x y : Wl_} (hx : dr_ x u = 0) (hy : dr_ y u = 0) (hc : cx_ x y ≠ o3_) : rB_ L (cx_ x y) ∨ rB_ L (mu_ (-1) (cx_ x y)) := by
  obtain ⟨t, ht⟩ := along_cx hx hy hc
  rcases (show 0 < t ∨ t = 0 ∨ t < 0 by grind) with q | q | q
  · rw [ht] at hr; exact Or.inl (rB_scale q hr)
  · exfalso; apply hu; rw [ht, q]; simp only [mu_, o3_, Rat.zero_mul]
  · refine Or.inr (rB_scale (t := -t) (by grind) ?_)
    have : mu_ (-t) (mu_ (-1) (cx_ x y)) = u := by
      rw [ht]; simp only [mu_, Prod.mk.injEq]; refine ⟨?_, ?_, ?_⟩ <;> grind
    rw [this]; exact hr
theorem ray_1 {L : List (Wl_ × Bool)} (hn : ∀ x ∈ L, nv_ x.1 ≠ o3_) (hE : ∀ u, (∀ x ∈ L, dr_ x.1 u = 0) → u = o3_) {u : V3_} (hu : u ≠ o3_) (hr : rB_ L u) {x : Wl_ × Bool} (hx : x ∈ L) (hx0 : dr_ x.1 u = 0) :
    ∃ x ∈ L, ∃ y ∈ L, cx_ x.1 y.1 ≠ o3_ ∧ (rB_ L (cx_ x.1 y.1) ∨ rB_ L (mu_ (-1) (cx_ x.1 y.1))) := by
  by_cases h2 : R2_ (fun w => ∃ b, (w, b) ∈ L ∧ dr_ w u = 0)
  · obtain ⟨a, b, ⟨ba, ha, ha0⟩, ⟨bb, hb, hb0⟩, hc⟩ := h2
    exact ⟨(a, ba), ha, (b, bb), hb, hc, ray_2 hu hr ha0 hb0 hc⟩
  · -- across the normal and across u
    have hz : ∃ z : V3_, z ≠ o3_ ∧ dr_ x.1 z = 0 ∧ u.1 * z.1 + u.2.1 * z.2.1 + u.2.2 * z.2.2 = 0 := by
      obtain ⟨z, h1, h3, h4⟩ := perp_2 (nv_ x.1) u
      exact ⟨z, h1, h3, h4⟩
    obtain ⟨z, hz0, hzx, hzu⟩ := hz
    have hT : ∀ y ∈ L, dr_ y.1 u = 0 → dr_ y.1 z = 0 := fun y hy h0 => par_all (X := fun w => ∃ b, (w, b) ∈ L ∧ dr_ w u = 0) h2 ⟨x.2, hx, hx0⟩ ⟨y.2, hy, h0⟩ (hn x hx) hzx
    have hex : ∃ y ∈ L, dr_ y.1 z ≠ 0 := Classical.byContradiction (fun hno => hz0 (hE z (fun y hy => Classical.byContradiction (fun h => hno ⟨y, hy, h⟩))))
    obtain ⟨u', h1, h3, h4, y, hy, h5, h6⟩ := ray_step hr hT (perp_off hu hzu) hex
    have hc : cx_ x.1 y.1 ≠ o3_ := fun h0 => h6 (par_2 h0 (hn x hx) hzx)
    exact ⟨x, hx, y, hy, hc, ray_2 h1 h3 (h4 x hx hx0) h5 hc⟩
/-- A LINE OF TWO WALLS LEADS ON -/
theorem ray_all {L : List (Wl_ × Bool)} (hn : ∀ x ∈ L, nv_ x.1 ≠ o3_) (hE : ∀ u, (∀ x ∈ L, dr_ x.1 u = 0) → u = o3_) (h : ∃ u, u ≠ o3_ ∧ rB_ L u) :
    ∃ x ∈ L, ∃ y ∈ L, cx_ x.1 y.1 ≠ o3_ ∧ (rB_ L (cx_ x.1 y.1) ∨ rB_ L (mu_ (-1) (cx_ x.1 y.1))) := by
  obtain ⟨u, hu, hr⟩ := h
  by_cases hx : ∃ x ∈ L, dr_ x.1 u = 0
  · obtain ⟨x, hx, hx0⟩ := hx
    exact ray_1 hn hE hu hr hx hx0
  · obtain ⟨z, hz0, hzu, -⟩ := perp_2 u u
    have hT : ∀ y ∈ L, dr_ y.1 u = 0 → dr_ y.1 z = 0 := fun y hy h0 => absurd ⟨y, hy, h0⟩ hx
    have hex : ∃ y ∈ L, dr_ y.1 z ≠ 0 := Classical.byContradiction (fun hno => hz0 (hE z (fun y hy => Classical.byContradiction (fun h => hno ⟨y, hy, h⟩))))
    obtain ⟨u', h1, h3, h4, y, hy, h5, h6⟩ := ray_step hr hT (perp_off hu hzu) hex
    exact ray_1 hn hE h1 h3 hy h5
