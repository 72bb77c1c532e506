/-! small moves along lines -/
def mv_ (G : Nat → Wl_) (g v : V3_) (c : Rat) : Nat → Nat := fun k => if ev_ (G k) g = 0 then sg_ (c * dr_ (G k) v) else sg_ (ev_ (G k) g)
theorem mv_le (G : Nat → Wl_) (g v : V3_) (c : Rat) (k : Nat) : mv_ G g v c k ≤ 2 := by unfold mv_; split <;> exact sg_le _
theorem mv_place (G : Nat → Wl_) (n : Nat) (g v : V3_) (c : Rat) : ∃ q, ∀ k, k < n → sn_ G q k = mv_ G g v c k := by
  have h : Ev_ (fun t => ∀ x ∈ wl_ G n, sg_ (ev_ x (ad_ g t (mu_ c v))) = if ev_ x g = 0 then sg_ (c * dr_ x v) else sg_ (ev_ x g)) := by
    refine Ev_all _ _ (fun x _ => ?_)
    rcases (show ev_ x g < 0 ∨ ev_ x g = 0 ∨ 0 < ev_ x g by grind) with h0 | h0 | h0
    · refine Ev_mono (Ev_lin (a := - ev_ x g) (- (c * dr_ x v)) (by grind)) (fun t _ ht => ?_)
      rw [if_neg (by grind), sg_neg h0, ev_ad, dr_mu]
      exact sg_neg (by grind)
    · refine Ev_true (fun t ht => ?_)
      rw [if_pos h0, ev_ad, dr_mu, h0]
      rw [show (0 : Rat) + t * (c * dr_ x v) = t * (c * dr_ x v) by grind, sg_scale ht]
    · refine Ev_mono (Ev_lin (c * dr_ x v) h0) (fun t _ ht => ?_)
      rw [if_neg (by grind), sg_pos h0, ev_ad, dr_mu]
      exact sg_pos ht
  obtain ⟨t, _, ht⟩ := Ev_get h
  exact ⟨ad_ g t (mu_ c v), fun k hk => ht _ (wl_get hk)⟩
theorem sg_m1 (r : Rat) : sg_ (-1 * r) = 2 - sg_ r := by
  rcases (show r < 0 ∨ r = 0 ∨ 0 < r by grind) with h | h | h
  · rw [sg_neg h, sg_pos (by grind)]
  · rw [sg_zero h, sg_zero (by grind)]
  · rw [sg_pos h, sg_neg (by grind)]
theorem sg_p1 (r : Rat) : sg_ (1 * r) = sg_ r := by rw [Rat.one_mul]
theorem hS_bn {G : Nat → Wl_} {n : Nat} {b : Nat → Bool} {X : Wl_ → Prop} (h : ∀ x, X x ↔ ∃ k, k < n ∧ b k = true ∧ x = G k) : rk_ (hS_ G (bn_ b n)) = rk_ X := by
  refine rk_cg (fun x => ?_)
  rw [h]
  constructor
  · rintro ⟨k, hk, rfl⟩
    rw [bn_bit] at hk
    simp at hk
    exact ⟨k, hk.1, hk.2, rfl⟩
  · rintro ⟨k, h1, h2, rfl⟩
    exact ⟨k, by rw [bn_bit]; simp [h1, h2], rfl⟩
/-- the same plane -/
def s4_ (x y : Wl_) : Prop := x.1 * y.2.1 = x.2.1 * y.1 ∧ x.1 * y.2.2.1 = x.2.2.1 * y.1 ∧ x.2.1 * y.2.2.1 = x.2.2.1 * y.2.1 ∧ x.1 * y.2.2.2 = x.2.2.2 * y.1 ∧ x.2.1 * y.2.2.2 = x.2.2.2 * y.2.1 ∧ x.2.2.1 * y.2.2.2 = x.2.2.2 * y.2.2.1
theorem rI_eq {a b : Int} : (a : Rat) = b ↔ a = b := by
  constructor
  · intro h
    have : ((a - b : Int) : Rat) = 0 := by rw [Rat.intCast_sub]; grind
    have := rI_zero.mp this
    omega
  · intro h; rw [h]
theorem s4_on {x y : Wl_} {g : V3_} (hc : cx_ x y = o3_) (h1 : ev_ x g = 0) (h2 : ev_ y g = 0) : s4_ x y := by
  simp only [cx_, o3_, Prod.mk.injEq] at hc
  obtain ⟨c1, c2, c3⟩ := hc
  unfold ev_ dr_ at h1 h2
  refine ⟨?_, ?_, ?_, ?_, ?_, ?_⟩ <;> (apply rI_eq.mp; simp only [Rat.intCast_mul]; grind)
/-- no two walls are the same plane -/
def DI_ (G : Nat → Wl_) (n : Nat) : Prop := ∀ i j, i < n → j < n → i ≠ j → ¬ s4_ (G i) (G j)
def CLO_ (G : Nat → Wl_) (n li : Nat) (la lb mk : Nat → Int32) (g : V3_) : Prop :=
  ∀ l, l < li → ∀ v, la l = nI (lm_ G n v 2) → lb l = nI (lm_ G n v 0) → rk_ (fun z => On_ (wl_ G n) g z ∧ dr_ z v = 0) + 1 = rk_ (On_ (wl_ G n) g) →
    ∀ c : Rat, (c = 1 ∨ c = -1) → mkd_ mk (rn_ (mv_ G g v c) n) = true
theorem CLO_mo {G : Nat → Wl_} {n li : Nat} {la lb mk mk' : Nat → Int32} {g : V3_} (h : CLO_ G n li la lb mk g) (hm : ∀ r, mkd_ mk r = true → mkd_ mk' r = true) : CLO_ G n li la lb mk' g :=
  fun l hl v h1 h2 h3 c hc => hm _ (h l hl v h1 h2 h3 c hc)
theorem lm_lt (G : Nat → Wl_) {n : Nat} (hn : n ≤ 8) (v : V3_) (c : Nat) : lm_ G n v c < 256 := bn_lt8 _ hn
/-- the masks tell the signs -/
theorem lm_sg {G : Nat → Wl_} {n : Nat} (hn : n ≤ 8) {v w : V3_} (h2 : nI (lm_ G n v 2) = nI (lm_ G n w 2)) (h0 : nI (lm_ G n v 0) = nI (lm_ G n w 0)) {k : Nat} (hk : k < n) : sg_ (dr_ (G k) v) = sg_ (dr_ (G k) w) := by
  have a2 := lm_lt G hn v 2
  have b2 := lm_lt G hn w 2
  have a0 := lm_lt G hn v 0
  have b0 := lm_lt G hn w 0
  have e2' := (nI_eq (by omega) (by omega)).mp h2
  have e0' := (nI_eq (by omega) (by omega)).mp h0
  have e2 := bn_eq.mp e2' k hk
  have e0 := bn_eq.mp e0' k hk
  have l1 := sg_le (dr_ (G k) v)
  have l2 := sg_le (dr_ (G k) w)
  simp only [decide_eq_decide] at e2 e0
  omega
theorem mv_cg {G : Nat → Wl_} {n : Nat} {g v w : V3_} (h : ∀ k, k < n → sg_ (dr_ (G k) v) = sg_ (dr_ (G k) w)) {c : Rat} (hc : c = 1 ∨ c = -1) : rn_ (mv_ G g v c) n = rn_ (mv_ G g w c) n := by
  refine rn_cg (fun k hk => ?_)
  unfold mv_
  rcases hc with rfl | rfl
  · rw [sg_p1, sg_p1, h k hk]
  · rw [sg_m1, sg_m1, h k hk]
theorem shl8 {x y : Nat} (hx : x < 256) (hy : y < 256) : (nI x <<< ((8 : Int32) &&& 31)) ||| nI y = nI (y + 256 * x) := by
  rw [pk_shlN ((8 : Int32) &&& 31) 8 (by decide) (by omega), nI_or, Nat.mul_comm x, ← Nat.two_pow_add_eq_or_of_lt (i := 8) hy, Nat.add_comm]
theorem sub_1 {r : Nat} (h : 0 < r) : nI r - (1 : Int32) = nI (r - 1) := by
  obtain ⟨m, rfl⟩ : ∃ m, r = m + 1 := ⟨r - 1, by omega⟩
  rw [nI_pred]; rfl
section MV
variable {G : Nat → Wl_} {n : Nat}
theorem on_rk (g : V3_) : rk_ (hS_ G (bn_ (fun k => decide (sn_ G g k = 1)) n)) = rk_ (On_ (wl_ G n) g) := by
  refine hS_bn (fun x => ?_)
  unfold On_
  rw [wl_mem]
  constructor
  · rintro ⟨⟨k, hk, rfl⟩, h⟩
    exact ⟨k, hk, decide_eq_true (sg_eq1.mpr h), rfl⟩
  · rintro ⟨k, hk, h, rfl⟩
    exact ⟨⟨k, hk, rfl⟩, sg_eq1.mp (of_decide_eq_true h)⟩
theorem still_rk (g v : V3_) : rk_ (hS_ G (bn_ (fun k => decide (sn_ G g k = 1) && decide (sg_ (dr_ (G k) v) = 1)) n)) = rk_ (fun z => On_ (wl_ G n) g z ∧ dr_ z v = 0) := by
  refine hS_bn (fun x => ?_)
  unfold On_
  rw [wl_mem]
  constructor
  · rintro ⟨⟨⟨k, hk, rfl⟩, h⟩, h'⟩
    exact ⟨k, hk, by rw [Bool.and_eq_true]; exact ⟨decide_eq_true (sg_eq1.mpr h), decide_eq_true (sg_eq1.mpr h')⟩, rfl⟩
  · rintro ⟨k, hk, h, rfl⟩
    rw [Bool.and_eq_true] at h
    exact ⟨⟨⟨k, hk, rfl⟩, sg_eq1.mp (of_decide_eq_true h.1)⟩, sg_eq1.mp (of_decide_eq_true h.2)⟩
/-- off a single wall: all lines lead to its two sides -/
theorem one_wall (hD : DI_ G n) {g v0 v : V3_} (h0 : ∀ k, k < n → ¬ (ev_ (G k) g = 0 ∧ dr_ (G k) v0 = 0)) (hr0 : rk_ (fun z => On_ (wl_ G n) g z ∧ dr_ z v0 = 0) + 1 = rk_ (On_ (wl_ G n) g))
    (hr : rk_ (fun z => On_ (wl_ G n) g z ∧ dr_ z v = 0) + 1 = rk_ (On_ (wl_ G n) g)) {c : Rat} (hc : c = 1 ∨ c = -1) : ∃ c0 : Rat, (c0 = 1 ∨ c0 = -1) ∧ rn_ (mv_ G g v c) n = rn_ (mv_ G g v0 c0) n := by
  have e0 : ¬ ∃ z, On_ (wl_ G n) g z ∧ dr_ z v0 = 0 := by
    rintro ⟨z, ⟨hz, h1⟩, h2⟩
    obtain ⟨k, hk, rfl⟩ := wl_mem.mp hz
    exact h0 k hk ⟨h1, h2⟩
  have e1 : rk_ (fun z => On_ (wl_ G n) g z ∧ dr_ z v0 = 0) = 0 := by
    have h2 : ¬ R2_ (fun z => On_ (wl_ G n) g z ∧ dr_ z v0 = 0) := fun h => e0 (R2_ex h)
    exact rk_0 e0 h2 (fun h3 => h2 (R3_R2 h3))
  have e2 : rk_ (On_ (wl_ G n) g) = 1 := by omega
  have e3 := rk_inv0 (show rk_ (fun z => On_ (wl_ G n) g z ∧ dr_ z v = 0) = 0 by omega)
  obtain ⟨⟨z, hz, hzg⟩, hn2⟩ := rk_inv1 e2
  obtain ⟨k0, hk0, rfl⟩ := wl_mem.mp hz
  have huniq : ∀ k, k < n → ev_ (G k) g = 0 → k = k0 := by
    intro k hk hkg
    refine Classical.byContradiction fun q => ?_
    refine hD k k0 hk hk0 q (s4_on (Classical.byContradiction fun hcx => ?_) hkg hzg)
    exact hn2 ⟨G k, G k0, ⟨wl_get hk, hkg⟩, ⟨wl_get hk0, hzg⟩, hcx⟩
  have d0 : dr_ (G k0) v0 ≠ 0 := fun q => h0 k0 hk0 ⟨hzg, q⟩
  have d1 : dr_ (G k0) v ≠ 0 := fun q => e3 ⟨G k0, ⟨wl_get hk0, hzg⟩, q⟩
  have key : ∀ c0 : Rat, sg_ (c * dr_ (G k0) v) = sg_ (c0 * dr_ (G k0) v0) → rn_ (mv_ G g v c) n = rn_ (mv_ G g v0 c0) n := by
    intro c0 he
    refine rn_cg (fun k hk => ?_)
    unfold mv_
    by_cases q : ev_ (G k) g = 0
    · rw [if_pos q, if_pos q, huniq k hk q, he]
    · rw [if_neg q, if_neg q]
  have g0 : sg_ (dr_ (G k0) v0) ≠ 1 := fun q => d0 (sg_eq1.mp q)
  have g1 : sg_ (dr_ (G k0) v) ≠ 1 := fun q => d1 (sg_eq1.mp q)
  have l0 := sg_le (dr_ (G k0) v0)
  have l1 := sg_le (dr_ (G k0) v)
  have hcv : sg_ (c * dr_ (G k0) v) = 0 ∨ sg_ (c * dr_ (G k0) v) = 2 := by
    rcases hc with rfl | rfl
    · rw [sg_p1]; omega
    · rw [sg_m1]; omega
  by_cases q : sg_ (c * dr_ (G k0) v) = sg_ (dr_ (G k0) v0)
  · exact ⟨1, Or.inl rfl, key 1 (by rw [sg_p1]; exact q)⟩
  · exact ⟨-1, Or.inr rfl, key (-1) (by rw [sg_m1]; omega)⟩
theorem f_moveFrom (hn : n ≤ 8) {vth vrk la lb : Nat → Int32} (hT : TH_ vth) (hD : DI_ G n) {M li : Nat} (hL : LI_ G n M li la lb) (hli : li ≤ 55) (hrk : ∀ h, h < 2 ^ n → vrk h = nI (rk_ (hS_ G h)))
    {fo : Nat} {cm mk re : Nat → Int32} (h : CS_ G n fo cm mk re) (g : V3_) :
    ∃ fo' cm' mk' re', fX1_moveFrom (nI fo) (nI li) vth vrk cm mk re la lb (nI (sp_ (sn_ G g) n)) = some (nI fo', cm', mk', re') ∧ CS_ G n fo' cm' mk' re' ∧ MO_ fo mk re fo' mk' re' ∧ CLO_ G n li la lb mk' g := by
  have h2n : 2 ^ n ≤ 256 := Nat.pow_le_pow_right (n := 2) (j := 8) (by decide) hn
  have hon := bn_lt (fun k => decide (sn_ G g k = 1)) n
  unfold fX1_moveFrom
  rw [bind_yes (f_onMask hn), bind_yes (f_aboveMask hn)]
  by_cases hz : bn_ (fun k => decide (sn_ G g k = 1)) n = 0
  · rw [if_pos (by rw [hz]; rfl)]
    refine ⟨fo, cm, mk, re, rfl, h, MO_refl _ _ _, ?_⟩
    intro l hl v _ _ hr
    rw [← on_rk (G := G) (n := n) g, hz] at hr
    have := (KV_0 G 0 0 0).1
    have h3 := rk_le3 (hS_ G 0)
    have : rk_ (hS_ G 0) = 0 := ((nI_eq (a := 0) (by decide) (by omega)).mp this).symm
    omega
  · rw [if_neg (nI_ne0 (by omega) (by omega))]
    have hon0 : 0 < rk_ (On_ (wl_ G n) g) := by
      refine Nat.pos_of_ne_zero (fun q => ?_)
      have := rk_inv0 q
      apply hz
      rw [bn_zero]
      intro k hk
      cases e : decide (sn_ G g k = 1) with
      | false => rfl
      | true => exact absurd ⟨G k, wl_get hk, sg_eq1.mp (of_decide_eq_true e)⟩ this
    have hlp := lp_for (body := fun (st : (Int32 × Int32 × (Nat → Int32) × (Nat → Int32) × (Nat → Int32))) => fX1_moveFrom_L18 (nI li) (nI (bn_ (fun k => decide (sn_ G g k = 1)) n)) la lb vrk vth (nI (bn_ (fun k => decide (sn_ G g k = 2)) n)) st.1 st.2.1 st.2.2.1 st.2.2.2.1 st.2.2.2.2)
      (fun l st => st.1 = nI l ∧ ∃ fo', st.2.1 = nI fo' ∧ CS_ G n fo' st.2.2.1 st.2.2.2.1 st.2.2.2.2 ∧ MO_ fo mk re fo' st.2.2.2.1 st.2.2.2.2 ∧ CLO_ G n l la lb st.2.2.2.1 g)
      (fun u => ∃ fo' cm' mk' re', Sum.elim (fun (x15 : (Int32 × Int32 × (Nat → Int32) × (Nat → Int32) × (Nat → Int32))) => some (x15.2.1, x15.2.2.1, x15.2.2.2.1, x15.2.2.2.2)) (fun y => some y) u = some (nI fo', cm', mk', re') ∧ CS_ G n fo' cm' mk' re' ∧ MO_ fo mk re fo' mk' re' ∧ CLO_ G n li la lb mk' g) li (by omega) (s := ((0 : Int32), nI fo, cm, mk, re)) ?_ ?_ ?_
    · obtain ⟨r, h1, h2⟩ := hlp
      rw [bind_yes h1]
      exact h2
    · exact ⟨rfl, fo, rfl, h, MO_refl _ _ _, fun l hl => absurd hl (Nat.not_lt_zero l)⟩
    · rintro l ⟨l', f', cm', mk', re'⟩ hl ⟨e1, fo', e2, hC, hMo, hA⟩
      dsimp only at e1 e2 hC hMo hA ⊢
      subst e1 e2
      obtain ⟨i1, j1, _, _, _, _, hla, hlb⟩ := hL l hl
      generalize cx_ (G (ix_ n i1)) (G (ix_ n j1)) = v at hla hlb
      have hR : in_R (nI l) 55 := in_R_nI (by omega) (by decide)
      have hst : nI (bn_ (fun k => decide (sn_ G g k = 1)) n) &&& ((la l ||| lb l) ^^^ (-1 : Int32)) = nI (bn_ (fun k => decide (sn_ G g k = 1) && decide (sg_ (dr_ (G k) v) = 1)) n) := by
        rw [hla, hlb, nI_or]
        unfold lm_
        rw [bn_or, bn_andn]
        congr 1
        refine bn_cg (fun k _ => ?_)
        have := sg_le (dr_ (G k) v)
        generalize sg_ (dr_ (G k) v) = d at *
        rcases (show d = 0 ∨ d = 1 ∨ d = 2 by omega) with rfl | rfl | rfl <;> simp
      have hst256 := bn_lt8 (fun k => decide (sn_ G g k = 1) && decide (sg_ (dr_ (G k) v) = 1)) hn
      have hst2n := bn_lt (fun k => decide (sn_ G g k = 1) && decide (sg_ (dr_ (G k) v) = 1)) n
      have up : ((nI (bn_ (fun k => decide (sn_ G g k = 2)) n) ||| (nI (bn_ (fun k => decide (sn_ G g k = 1)) n) &&& la l)) <<< ((8 : Int32) &&& 31)) ||| nI (bn_ (fun k => decide (sn_ G g k = 1) && decide (sg_ (dr_ (G k) v) = 1)) n) = nI (sp_ (mv_ G g v 1) n) := by
        rw [hla]
        unfold lm_
        rw [nI_and, nI_or, bn_and, bn_or, shl8 (bn_lt8 _ hn) hst256]
        unfold sp_
        congr 1
        congr 1
        · refine bn_cg (fun k _ => ?_)
          unfold mv_ sn_
          by_cases q : ev_ (G k) g = 0
          · rw [if_pos q, sg_p1, sg_zero q]; simp
          · have : ¬ sg_ (ev_ (G k) g) = 1 := fun w => q (sg_eq1.mp w)
            rw [if_neg q]; simp [this]
        · congr 1
          refine bn_cg (fun k _ => ?_)
          unfold mv_ sn_
          by_cases q : ev_ (G k) g = 0
          · rw [if_pos q, sg_p1, sg_zero q]; simp
          · have : ¬ sg_ (ev_ (G k) g) = 1 := fun w => q (sg_eq1.mp w)
            rw [if_neg q]; simp [this]
      have dn : ((nI (bn_ (fun k => decide (sn_ G g k = 2)) n) ||| (nI (bn_ (fun k => decide (sn_ G g k = 1)) n) &&& lb l)) <<< ((8 : Int32) &&& 31)) ||| nI (bn_ (fun k => decide (sn_ G g k = 1) && decide (sg_ (dr_ (G k) v) = 1)) n) = nI (sp_ (mv_ G g v (-1)) n) := by
        rw [hlb]
        unfold lm_
        rw [nI_and, nI_or, bn_and, bn_or, shl8 (bn_lt8 _ hn) hst256]
        unfold sp_
        congr 1
        congr 1
        · refine bn_cg (fun k _ => ?_)
          unfold mv_ sn_
          have := sg_le (dr_ (G k) v)
          by_cases q : ev_ (G k) g = 0
          · rw [if_pos q, sg_m1, sg_zero q]
            generalize sg_ (dr_ (G k) v) = d at *
            rcases (show d = 0 ∨ d = 1 ∨ d = 2 by omega) with rfl | rfl | rfl <;> simp
          · have : ¬ sg_ (ev_ (G k) g) = 1 := fun w => q (sg_eq1.mp w)
            rw [if_neg q]; simp [this]
        · congr 1
          refine bn_cg (fun k _ => ?_)
          unfold mv_ sn_
          have := sg_le (dr_ (G k) v)
          by_cases q : ev_ (G k) g = 0
          · rw [if_pos q, sg_m1, sg_zero q]
            generalize sg_ (dr_ (G k) v) = d at *
            rcases (show d = 0 ∨ d = 1 ∨ d = 2 by omega) with rfl | rfl | rfl <;> simp
          · have : ¬ sg_ (ev_ (G k) g) = 1 := fun w => q (sg_eq1.mp w)
            rw [if_neg q]; simp [this]
      unfold fX1_moveFrom_L18
      rw [if_neg (nI_ge hl (by omega)), ck_yes hR, ck_yes hR]
      simp only [nI_clamp (show l < 2 ^ 31 by omega), hst]
      rw [ck_yes (in_R_nI hst256 (by decide)), ck_yes (in_R_nI (bn_lt8 _ hn) (by decide))]
      simp only [nI_clamp (show bn_ (fun k => decide (sn_ G g k = 1) && decide (sg_ (dr_ (G k) v) = 1)) n < 2 ^ 31 by omega), nI_clamp (show bn_ (fun k => decide (sn_ G g k = 1)) n < 2 ^ 31 by omega), hrk _ hst2n, hrk _ hon, on_rk, still_rk, sub_1 hon0]
      have l3a := rk_le3 (fun z => On_ (wl_ G n) g z ∧ dr_ z v = 0)
      have l3b := rk_le3 (On_ (wl_ G n) g)
      have same : ∀ w, la l = nI (lm_ G n w 2) → lb l = nI (lm_ G n w 0) → ∀ k, k < n → sg_ (dr_ (G k) w) = sg_ (dr_ (G k) v) := fun w w2 w0 k hk => lm_sg hn (w2.symm.trans hla) (w0.symm.trans hlb) hk
      have sameR : ∀ w, (∀ k, k < n → sg_ (dr_ (G k) w) = sg_ (dr_ (G k) v)) → rk_ (fun z => On_ (wl_ G n) g z ∧ dr_ z w = 0) = rk_ (fun z => On_ (wl_ G n) g z ∧ dr_ z v = 0) := by
        intro w hw
        refine rk_cg (fun z => ?_)
        constructor
        · rintro ⟨⟨hz, h1⟩, h2⟩
          obtain ⟨k, hk, rfl⟩ := wl_mem.mp hz
          exact ⟨⟨hz, h1⟩, sg_eq1.mp (by rw [← hw k hk]; exact sg_eq1.mpr h2)⟩
        · rintro ⟨⟨hz, h1⟩, h2⟩
          obtain ⟨k, hk, rfl⟩ := wl_mem.mp hz
          exact ⟨⟨hz, h1⟩, sg_eq1.mp (by rw [hw k hk]; exact sg_eq1.mpr h2)⟩
      by_cases hr : rk_ (fun z => On_ (wl_ G n) g z ∧ dr_ z v = 0) + 1 = rk_ (On_ (wl_ G n) g)
      · rw [if_pos (by congr 1; omega), ck_yes hR, up]
        obtain ⟨p1, hp1⟩ := mv_place G n g v 1
        obtain ⟨p2, hp2⟩ := mv_place G n g v (-1)
        rw [← sp_cg hp1]
        obtain ⟨f1, cm1, mk1, re1, ea, hC1, hm1, ha1, hb1, hc1⟩ := f_reach hn hT hC p1
        rw [bind_yes ea, ck_yes hR, dn, ← sp_cg hp2]
        obtain ⟨f2, cm2, mk2, re2, eb, hC2, hm2, ha2, hb2, hc2⟩ := f_reach hn hT hC1 p2
        dsimp only
        rw [bind_yes eb]
        have hMo2 : MO_ fo mk re f2 mk2 re2 := MO_trans hMo (MO_trans ⟨ha1, hb1, hc1⟩ ⟨ha2, hb2, hc2⟩)
        have r1 : rp_ G n p1 = rn_ (mv_ G g v 1) n := rn_cg hp1
        have r2 : rp_ G n p2 = rn_ (mv_ G g v (-1)) n := rn_cg hp2
        have both : ∀ c : Rat, (c = 1 ∨ c = -1) → mkd_ mk2 (rn_ (mv_ G g v c) n) = true := by
          rintro c (rfl | rfl)
          · rw [← r1]; exact ha2 _ hm1
          · rw [← r2]; exact hm2
        have upto : CLO_ G n (l + 1) la lb mk2 g := by
          intro l1 hl1 w w2 w0 hrw c hc
          rcases (show l1 < l ∨ l1 = l by omega) with q | rfl
          · exact ha2 _ (ha1 _ (hA l1 q w w2 w0 hrw c hc))
          · rw [mv_cg (same w w2 w0) hc]; exact both c hc
        by_cases hs0 : bn_ (fun k => decide (sn_ G g k = 1) && decide (sg_ (dr_ (G k) v) = 1)) n = 0
        · right
          rw [if_pos (by rw [hs0]; rfl)]
          refine ⟨_, rfl, f2, cm2, mk2, re2, rfl, hC2, hMo2, ?_⟩
          intro l1 hl1 w w2 w0 hrw c hc
          have hk0 : ∀ k, k < n → ¬ (ev_ (G k) g = 0 ∧ dr_ (G k) v = 0) := by
            rintro k hk ⟨q1, q2⟩
            have := bn_zero.mp hs0 k hk
            simp [sn_, sg_zero q1, sg_zero q2] at this
          obtain ⟨c0, hc0, e⟩ := one_wall hD hk0 hr hrw hc
          rw [e]; exact both c0 hc0
        · left
          rw [if_neg (nI_ne0 (by omega) (by omega)), nI_1]
          exact ⟨_, rfl, rfl, f2, rfl, hC2, hMo2, upto⟩
      · rw [if_neg (fun q => hr (by have := (nI_eq (by omega) (by omega)).mp q; omega)), nI_1]
        left
        refine ⟨_, rfl, rfl, fo', rfl, hC, hMo, ?_⟩
        intro l1 hl1 w w2 w0 hrw c hc
        rcases (show l1 < l ∨ l1 = l by omega) with q | rfl
        · exact hA l1 q w w2 w0 hrw c hc
        · rw [sameR w (same w w2 w0)] at hrw; exact absurd hrw hr
    · rintro ⟨l', f', cm', mk', re'⟩ ⟨e1, fo', e2, hC, hMo, hA⟩
      dsimp only at e1 e2 hC hMo hA ⊢
      subst e1 e2
      unfold fX1_moveFrom_L18
      rw [if_pos (nI_le (Nat.le_refl _) (by omega))]
      exact ⟨_, rfl, fo', cm', mk', re', rfl, hC, hMo, hA⟩
end MV
