/-! planes and places over the rationals -/
abbrev Wl_ : Type := Int × Int × Int × Int
abbrev V3_ : Type := Rat × Rat × Rat
def o3_ : V3_ := (0, 0, 0)
def dr_ (w : Wl_) (v : V3_) : Rat := (w.1 : Rat) * v.1 + (w.2.1 : Rat) * v.2.1 + (w.2.2.1 : Rat) * v.2.2
def ev_ (w : Wl_) (p : V3_) : Rat := dr_ w p - (w.2.2.2 : Rat)
def ad_ (p : V3_) (t : Rat) (v : V3_) : V3_ := (p.1 + t * v.1, p.2.1 + t * v.2.1, p.2.2 + t * v.2.2)
def mu_ (t : Rat) (v : V3_) : V3_ := (t * v.1, t * v.2.1, t * v.2.2)
theorem dr_ad (w : Wl_) (p : V3_) (t : Rat) (v : V3_) : dr_ w (ad_ p t v) = dr_ w p + t * dr_ w v := by
  simp only [dr_, ad_]; grind
theorem ev_ad (w : Wl_) (p : V3_) (t : Rat) (v : V3_) : ev_ w (ad_ p t v) = ev_ w p + t * dr_ w v := by
  simp only [ev_, dr_ad]; grind
theorem dr_mu (w : Wl_) (t : Rat) (v : V3_) : dr_ w (mu_ t v) = t * dr_ w v := by
  simp only [dr_, mu_]; grind
theorem dr_o (w : Wl_) : dr_ w o3_ = 0 := by simp only [dr_, o3_]; grind
theorem mu_ne {t : Rat} {v : V3_} (ht : t ≠ 0) (hv : v ≠ o3_) : mu_ t v ≠ o3_ := by
  intro h
  apply hv
  simp only [mu_, o3_, Prod.mk.injEq] at h
  obtain ⟨h1, h2, h3⟩ := h
  have a1 : v.1 = 0 := by rcases Rat.mul_eq_zero.mp h1 with h | h <;> grind
  have a2 : v.2.1 = 0 := by rcases Rat.mul_eq_zero.mp h2 with h | h <;> grind
  have a3 : v.2.2 = 0 := by rcases Rat.mul_eq_zero.mp h3 with h | h <;> grind
  exact Prod.ext a1 (Prod.ext a2 a3)
/-! for all small numbers above 0 -/
def Ev_ (P : Rat → Prop) : Prop := ∃ d : Rat, 0 < d ∧ ∀ t, 0 < t → t < d → P t
theorem Ev_and {P Q : Rat → Prop} (h1 : Ev_ P) (h2 : Ev_ Q) : Ev_ (fun t => P t ∧ Q t) := by
  obtain ⟨d, hd, h⟩ := h1
  obtain ⟨d', hd', h'⟩ := h2
  rcases Rat.le_total (a := d) (b := d') with hl | hl
  · exact ⟨d, hd, fun t h0 h3 => ⟨h t h0 h3, h' t h0 (by grind)⟩⟩
  · exact ⟨d', hd', fun t h0 h3 => ⟨h t h0 (by grind), h' t h0 h3⟩⟩
theorem Ev_true {P : Rat → Prop} (h : ∀ t, 0 < t → P t) : Ev_ P := ⟨1, by decide, fun t h0 _ => h t h0⟩
theorem Ev_mono {P Q : Rat → Prop} (h1 : Ev_ P) (h : ∀ t, 0 < t → P t → Q t) : Ev_ Q := by
  obtain ⟨d, hd, h'⟩ := h1
  exact ⟨d, hd, fun t h0 h3 => h t h0 (h' t h0 h3)⟩
theorem Ev_all {α : Type} (L : List α) (P : α → Rat → Prop) (h : ∀ x ∈ L, Ev_ (P x)) : Ev_ (fun t => ∀ x ∈ L, P x t) := by
  induction L with
  | nil => exact Ev_true (fun t _ x hx => by cases hx)
  | cons a L ih =>
    refine Ev_mono (Ev_and (h a List.mem_cons_self) (ih (fun x hx => h x (List.mem_cons_of_mem _ hx)))) ?_
    intro t _ ht x hx
    rcases List.mem_cons.mp hx with rfl | hx
    · exact ht.1
    · exact ht.2 x hx
theorem Ev_get {P : Rat → Prop} (h : Ev_ P) : ∃ t, 0 < t ∧ P t := by
  obtain ⟨d, hd, h⟩ := h
  exact ⟨d / 2, by grind, h _ (by grind) (by grind)⟩
theorem pd_ {a b : Rat} (ha : 0 < a) (hb : 0 < b) : ∃ d : Rat, 0 < d ∧ d * b = a :=
  ⟨a / b, by rw [Rat.div_def]; exact Rat.mul_pos ha (Rat.inv_pos.mpr hb), Rat.div_mul_cancel (by grind)⟩
theorem Ev_lin {a : Rat} (b : Rat) (h : 0 < a) : Ev_ (fun t => 0 < a + t * b) := by
  by_cases hb : 0 ≤ b
  · refine Ev_true (fun t ht => ?_)
    have := Rat.mul_nonneg (Rat.le_of_lt ht) hb
    grind
  · obtain ⟨d, hd, he⟩ := pd_ (a := a) (b := -b) h (by grind)
    refine ⟨d, hd, fun t h0 h1 => ?_⟩
    have := Rat.mul_lt_mul_of_pos_right h1 (show 0 < -b by grind)
    grind
/-- a line a + t b that isn't 0 always is so for no small t -/
theorem Ev_avoid (a b : Rat) : Ev_ (fun t => a + t * b = 0 → a = 0 ∧ b = 0) := by
  by_cases hb : b = 0
  · exact Ev_true (fun t _ h => by subst hb; exact ⟨by grind, rfl⟩)
  · by_cases ha : a = 0
    · refine Ev_true (fun t ht h => ?_)
      subst ha
      have h2 : t * b = 0 := by grind
      rcases Rat.mul_eq_zero.mp h2 with h | h
      · grind
      · exact absurd h hb
    · rcases (show 0 < a ∨ 0 < -a by grind) with h | h
      · exact Ev_mono (Ev_lin b h) (fun t _ ht h0 => by grind)
      · exact Ev_mono (Ev_lin (-b) h) (fun t _ ht h0 => by grind)

/-! flats, rooms, and the ways on for ever -/
def oB_ (B : List Wl_) (p : V3_) : Prop := ∀ w ∈ B, ev_ w p = 0
def pB_ (B : List Wl_) (u : V3_) : Prop := ∀ w ∈ B, dr_ w u = 0
def s1_ (b : Bool) (r : Rat) : Prop := if b = true then 0 < r else r < 0
def r1_ (b : Bool) (r : Rat) : Prop := if b = true then 0 ≤ r else r ≤ 0
def sB_ (L : List (Wl_ × Bool)) (p : V3_) : Prop := ∀ x ∈ L, s1_ x.2 (ev_ x.1 p)
def rB_ (L : List (Wl_ × Bool)) (u : V3_) : Prop := ∀ x ∈ L, r1_ x.2 (dr_ x.1 u)
def Re_ (B : List Wl_) (L : List (Wl_ × Bool)) : Prop := ∃ p, oB_ B p ∧ sB_ L p
def Rc_ (B : List Wl_) (L : List (Wl_ × Bool)) : Prop := ∃ u, pB_ B u ∧ rB_ L u ∧ u ≠ o3_
def Bd_ (B : List Wl_) (L : List (Wl_ × Bool)) : Prop := Re_ B L ∧ ¬ Rc_ B L
theorem oB_cons {w : Wl_} {B : List Wl_} {p : V3_} : oB_ (w :: B) p ↔ ev_ w p = 0 ∧ oB_ B p := List.forall_mem_cons
theorem pB_cons {w : Wl_} {B : List Wl_} {p : V3_} : pB_ (w :: B) p ↔ dr_ w p = 0 ∧ pB_ B p := List.forall_mem_cons
theorem sB_cons {x : Wl_ × Bool} {L : List (Wl_ × Bool)} {p : V3_} : sB_ (x :: L) p ↔ s1_ x.2 (ev_ x.1 p) ∧ sB_ L p := List.forall_mem_cons
theorem rB_cons {x : Wl_ × Bool} {L : List (Wl_ × Bool)} {p : V3_} : rB_ (x :: L) p ↔ r1_ x.2 (dr_ x.1 p) ∧ rB_ L p := List.forall_mem_cons
theorem s1_t {r : Rat} : s1_ true r ↔ 0 < r := by simp [s1_]
theorem s1_f {r : Rat} : s1_ false r ↔ r < 0 := by simp [s1_]
theorem r1_t {r : Rat} : r1_ true r ↔ 0 ≤ r := by simp [r1_]
theorem r1_f {r : Rat} : r1_ false r ↔ r ≤ 0 := by simp [r1_]
theorem oB_ad {B : List Wl_} {p u : V3_} {t : Rat} (h : oB_ B p) (hu : pB_ B u) : oB_ B (ad_ p t u) := by
  intro w hw
  rw [ev_ad, h w hw, hu w hw]; grind
theorem sB_ev {L : List (Wl_ × Bool)} {p : V3_} (h : sB_ L p) (u : V3_) : Ev_ (fun t => sB_ L (ad_ p t u)) := by
  refine Ev_all L (fun x t => s1_ x.2 (ev_ x.1 (ad_ p t u))) ?_
  intro x hx
  have hs := h x hx
  cases hb : x.2 with
  | true =>
    rw [hb, s1_t] at hs
    refine Ev_mono (Ev_lin (dr_ x.1 u) hs) (fun t _ ht => ?_)
    rw [s1_t, ev_ad]; exact ht
  | false =>
    rw [hb, s1_f] at hs
    refine Ev_mono (Ev_lin (a := - ev_ x.1 p) (- dr_ x.1 u) (by grind)) (fun t _ ht => ?_)
    rw [s1_f, ev_ad]; grind
/-- the half between two places is in the room as well -/
theorem s1_mix {b : Bool} {r r' t : Rat} (h : s1_ b r) (h' : s1_ b r') (h0 : 0 ≤ t) (h1 : t ≤ 1) : s1_ b (r + t * (r' - r)) := by
  cases b with
  | true =>
    rw [s1_t] at *
    by_cases ht : t = 0
    · subst ht; grind
    · have h2 := Rat.mul_pos (show 0 < t by grind) h'
      have h3 := Rat.mul_nonneg (show 0 ≤ 1 - t by grind) (Rat.le_of_lt h)
      grind
  | false =>
    rw [s1_f] at *
    by_cases ht : t = 0
    · subst ht; grind
    · have h2 := Rat.mul_pos (show 0 < t by grind) (show 0 < - r' by grind)
      have h3 := Rat.mul_nonneg (show 0 ≤ 1 - t by grind) (show 0 ≤ - r by grind)
      grind
def sb_ (q p : V3_) : V3_ := (q.1 - p.1, q.2.1 - p.2.1, q.2.2 - p.2.2)
theorem dr_sb (w : Wl_) (q p : V3_) : dr_ w (sb_ q p) = ev_ w q - ev_ w p := by
  simp only [ev_, dr_, sb_]; grind
theorem sB_mix {L : List (Wl_ × Bool)} {p q : V3_} {t : Rat} (h : sB_ L p) (h' : sB_ L q) (h0 : 0 ≤ t) (h1 : t ≤ 1) : sB_ L (ad_ p t (sb_ q p)) := by
  intro x hx
  rw [ev_ad, dr_sb]
  exact s1_mix (h x hx) (h' x hx) h0 h1
theorem oB_mix {B : List Wl_} {p q : V3_} {t : Rat} (h : oB_ B p) (h' : oB_ B q) : oB_ B (ad_ p t (sb_ q p)) := by
  intro x hx
  rw [ev_ad, dr_sb, h x hx, h' x hx]; grind
theorem Re_sub {B : List Wl_} {L : List (Wl_ × Bool)} {x : Wl_ × Bool} (h : Re_ B (x :: L)) : Re_ B L := by
  obtain ⟨p, h1, h2⟩ := h
  exact ⟨p, h1, (sB_cons.mp h2).2⟩
theorem Re_on {B : List Wl_} {L : List (Wl_ × Bool)} {w : Wl_} (h : Re_ (w :: B) L) : Re_ B L := by
  obtain ⟨p, h1, h2⟩ := h
  exact ⟨p, (oB_cons.mp h1).2, h2⟩
theorem Re_three {B : List Wl_} {L : List (Wl_ × Bool)} (w : Wl_) (h : Re_ B L) : Re_ B ((w, true) :: L) ∨ Re_ B ((w, false) :: L) ∨ Re_ (w :: B) L := by
  obtain ⟨p, h1, h2⟩ := h
  rcases (show 0 < ev_ w p ∨ ev_ w p < 0 ∨ ev_ w p = 0 by grind) with h | h | h
  · exact Or.inl ⟨p, h1, sB_cons.mpr ⟨s1_t.mpr h, h2⟩⟩
  · exact Or.inr (Or.inl ⟨p, h1, sB_cons.mpr ⟨s1_f.mpr h, h2⟩⟩)
  · exact Or.inr (Or.inr ⟨p, oB_cons.mpr ⟨h, h1⟩, h2⟩)
theorem Re_both {B : List Wl_} {L : List (Wl_ × Bool)} {w : Wl_} (h : Re_ (w :: B) L) (hw : ∃ u, pB_ B u ∧ dr_ w u ≠ 0) : Re_ B ((w, true) :: L) ∧ Re_ B ((w, false) :: L) := by
  obtain ⟨p, h1, h2⟩ := h
  obtain ⟨u, h3, h4⟩ := hw
  rw [oB_cons] at h1
  have key : ∀ v : V3_, pB_ B v → 0 < dr_ w v → Re_ B ((w, true) :: L) := by
    intro v hv hv0
    obtain ⟨t, ht, hs⟩ := Ev_get (sB_ev h2 v)
    refine ⟨ad_ p t v, oB_ad h1.2 hv, sB_cons.mpr ⟨s1_t.mpr ?_, hs⟩⟩
    show 0 < ev_ w (ad_ p t v)
    rw [ev_ad, h1.1]
    have := Rat.mul_pos ht hv0
    grind
  have key2 : ∀ v : V3_, pB_ B v → dr_ w v < 0 → Re_ B ((w, false) :: L) := by
    intro v hv hv0
    obtain ⟨t, ht, hs⟩ := Ev_get (sB_ev h2 v)
    refine ⟨ad_ p t v, oB_ad h1.2 hv, sB_cons.mpr ⟨s1_f.mpr ?_, hs⟩⟩
    show ev_ w (ad_ p t v) < 0
    rw [ev_ad, h1.1]
    have := Rat.mul_pos ht (show 0 < - dr_ w v by grind)
    grind
  have hm : pB_ B (mu_ (-1) u) := fun x hx => by rw [dr_mu, h3 x hx]; grind
  rcases (show 0 < dr_ w u ∨ dr_ w u < 0 by grind) with h | h
  · exact ⟨key u h3 h, key2 _ hm (by rw [dr_mu]; grind)⟩
  · exact ⟨key _ hm (by rw [dr_mu]; grind), key2 u h3 h⟩
theorem Re_meet {B : List Wl_} {L : List (Wl_ × Bool)} {w : Wl_} (h : Re_ B ((w, true) :: L)) (h' : Re_ B ((w, false) :: L)) : Re_ (w :: B) L := by
  obtain ⟨p, h1, h2⟩ := h
  obtain ⟨q, h3, h4⟩ := h'
  rw [sB_cons] at h2 h4
  have a1 : 0 < ev_ w p := s1_t.mp h2.1
  have a2 : ev_ w q < 0 := s1_f.mp h4.1
  obtain ⟨t, ht, he⟩ := pd_ (a := ev_ w p) (b := ev_ w p - ev_ w q) a1 (by grind)
  refine ⟨ad_ p t (sb_ q p), oB_cons.mpr ⟨?_, oB_mix h1 h3⟩, sB_mix h2.2 h4.2 (by grind) ?_⟩
  · rw [ev_ad, dr_sb]; grind
  · rcases Rat.le_total (a := t) (b := 1) with h | h
    · exact h
    · have := Rat.mul_nonneg (show 0 ≤ t - 1 by grind) (show 0 ≤ ev_ w p - ev_ w q by grind)
      grind
theorem rB_add {L : List (Wl_ × Bool)} {p u : V3_} {t : Rat} (h : sB_ L p) (hu : rB_ L u) (ht : 0 ≤ t) : sB_ L (ad_ p t u) := by
  intro x hx
  rw [ev_ad]
  have a1 := h x hx
  have a2 := hu x hx
  cases hb : x.2 with
  | true =>
    rw [hb, s1_t] at a1; rw [hb, r1_t] at a2
    have := Rat.mul_nonneg ht a2
    rw [s1_t]; grind
  | false =>
    rw [hb, s1_f] at a1; rw [hb, r1_f] at a2
    have := Rat.mul_nonneg ht (show 0 ≤ - dr_ x.1 u by grind)
    rw [s1_f]; grind
theorem Rc_sub {B : List Wl_} {L : List (Wl_ × Bool)} {x : Wl_ × Bool} (h : Rc_ B (x :: L)) : Rc_ B L := by
  obtain ⟨u, h1, h2, h3⟩ := h
  exact ⟨u, h1, (rB_cons.mp h2).2, h3⟩
theorem Rc_on {B : List Wl_} {L : List (Wl_ × Bool)} {w : Wl_} (b : Bool) (h : Rc_ (w :: B) L) : Rc_ B ((w, b) :: L) := by
  obtain ⟨u, h1, h2, h3⟩ := h
  rw [pB_cons] at h1
  refine ⟨u, h1.2, rB_cons.mpr ⟨?_, h2⟩, h3⟩
  show r1_ b (dr_ w u)
  rw [h1.1]
  cases b
  · rw [r1_f]; grind
  · rw [r1_t]; grind
theorem Rc_or {B : List Wl_} {L : List (Wl_ × Bool)} (w : Wl_) (h : Rc_ B L) : Rc_ B ((w, true) :: L) ∨ Rc_ B ((w, false) :: L) := by
  obtain ⟨u, h1, h2, h3⟩ := h
  rcases (show 0 ≤ dr_ w u ∨ dr_ w u ≤ 0 by grind) with h | h
  · exact Or.inl ⟨u, h1, rB_cons.mpr ⟨r1_t.mpr h, h2⟩, h3⟩
  · exact Or.inr ⟨u, h1, rB_cons.mpr ⟨r1_f.mpr h, h2⟩, h3⟩
/-- only 0 is along everything -/
def Es_ (B : List Wl_) (A : List Wl_) : Prop := ∀ u, pB_ B u → pB_ A u → u = o3_
theorem Rc_and {B : List Wl_} {L : List (Wl_ × Bool)} {w : Wl_} (hE : Es_ B (L.map Prod.fst)) (h : Rc_ B ((w, true) :: L)) (h' : Rc_ B ((w, false) :: L)) : Rc_ (w :: B) L := by
  obtain ⟨u, h1, h2, h3⟩ := h
  obtain ⟨v, g1, g2, g3⟩ := h'
  rw [rB_cons] at h2 g2
  have a1 : 0 ≤ dr_ w u := r1_t.mp h2.1
  have a2 : dr_ w v ≤ 0 := r1_f.mp g2.1
  by_cases hu : dr_ w u = 0
  · exact ⟨u, pB_cons.mpr ⟨hu, h1⟩, h2.2, h3⟩
  by_cases hv : dr_ w v = 0
  · exact ⟨v, pB_cons.mpr ⟨hv, g1⟩, g2.2, g3⟩
  have b1 : 0 < dr_ w u := by grind
  have b2 : 0 < - dr_ w v := by grind
  refine ⟨ad_ (mu_ (- dr_ w v) u) (dr_ w u) v, pB_cons.mpr ⟨?_, ?_⟩, ?_, ?_⟩
  · rw [dr_ad, dr_mu]; grind
  · intro x hx
    rw [dr_ad, dr_mu, h1 x hx, g1 x hx]; grind
  · intro x hx
    rw [dr_ad, dr_mu]
    have c1 := h2.2 x hx
    have c2 := g2.2 x hx
    cases hb : x.2 with
    | true =>
      rw [hb, r1_t] at c1 c2
      have e1 := Rat.mul_nonneg (Rat.le_of_lt b2) c1
      have e2 := Rat.mul_nonneg (Rat.le_of_lt b1) c2
      rw [r1_t]; grind
    | false =>
      rw [hb, r1_f] at c1 c2
      have e1 := Rat.mul_nonneg (Rat.le_of_lt b2) (show 0 ≤ - dr_ x.1 u by grind)
      have e2 := Rat.mul_nonneg (Rat.le_of_lt b1) (show 0 ≤ - dr_ x.1 v by grind)
      rw [r1_f]; grind
  · intro h0
    apply h3
    refine hE u h1 ?_
    intro y hy
    obtain ⟨x, hx, rfl⟩ := List.mem_map.mp hy
    have e0 : dr_ x.1 (ad_ (mu_ (- dr_ w v) u) (dr_ w u) v) = 0 := by rw [h0, dr_o]
    rw [dr_ad, dr_mu] at e0
    have c1 := h2.2 x hx
    have c2 := g2.2 x hx
    have k1 : (- dr_ w v) * dr_ x.1 u = 0 := by
      cases hb : x.2 with
      | true =>
        rw [hb, r1_t] at c1 c2
        have e1 := Rat.mul_nonneg (Rat.le_of_lt b2) c1
        have e2 := Rat.mul_nonneg (Rat.le_of_lt b1) c2
        grind
      | false =>
        rw [hb, r1_f] at c1 c2
        have e1 := Rat.mul_nonneg (Rat.le_of_lt b2) (show 0 ≤ - dr_ x.1 u by grind)
        have e2 := Rat.mul_nonneg (Rat.le_of_lt b1) (show 0 ≤ - dr_ x.1 v by grind)
        grind
    rcases Rat.mul_eq_zero.mp k1 with h | h
    · grind
    · exact h
/-- a room that lies on one side of a wall goes on for ever on that side alone -/
theorem Rc_side {B : List Wl_} {L : List (Wl_ × Bool)} {w : Wl_} (b : Bool) (h0 : ¬ Re_ (w :: B) L) (h1 : Re_ B ((w, b) :: L)) (h2 : Rc_ B L) : Rc_ B ((w, b) :: L) := by
  obtain ⟨u, k1, k2, k3⟩ := h2
  obtain ⟨p, g1, g2⟩ := h1
  rw [sB_cons] at g2
  refine ⟨u, k1, rB_cons.mpr ⟨?_, k2⟩, k3⟩
  show r1_ b (dr_ w u)
  have g3 : s1_ b (ev_ w p) := g2.1
  cases b with
  | true =>
    rw [s1_t] at g3
    rw [r1_t]
    rcases (show 0 ≤ dr_ w u ∨ dr_ w u < 0 by grind) with h | h
    · exact h
    · obtain ⟨t, ht, he⟩ := pd_ (a := ev_ w p) (b := - dr_ w u) g3 (by grind)
      exact absurd ⟨ad_ p t u, oB_cons.mpr ⟨by rw [ev_ad]; grind, oB_ad g1 k1⟩, rB_add g2.2 k2 (Rat.le_of_lt ht)⟩ h0
  | false =>
    rw [s1_f] at g3
    rw [r1_f]
    rcases (show dr_ w u ≤ 0 ∨ 0 < dr_ w u by grind) with h | h
    · exact h
    · obtain ⟨t, ht, he⟩ := pd_ (a := - ev_ w p) (b := dr_ w u) (by grind) h
      exact absurd ⟨ad_ p t u, oB_cons.mpr ⟨by rw [ev_ad]; grind, oB_ad g1 k1⟩, rB_add g2.2 k2 (Rat.le_of_lt ht)⟩ h0
noncomputable def in_ (P : Prop) : Int := @ite Int P (Classical.propDecidable P) 1 0
theorem in_1 {P : Prop} (h : P) : in_ P = 1 := by unfold in_; exact if_pos h
theorem in_0 {P : Prop} (h : ¬ P) : in_ P = 0 := by unfold in_; exact if_neg h
theorem in_cg {P Q : Prop} (h : P ↔ Q) : in_ P = in_ Q := by rw [propext h]
theorem cut_1 {B : List Wl_} {L : List (Wl_ × Bool)} {w : Wl_} (hE : Es_ B (L.map Prod.fst)) (hw : ∃ u, pB_ B u ∧ dr_ w u ≠ 0) :
    in_ (Bd_ B ((w, true) :: L)) + in_ (Bd_ B ((w, false) :: L)) = in_ (Bd_ B L) + in_ (Bd_ (w :: B) L) := by
  by_cases hR : Re_ B L
  · by_cases h0 : Re_ (w :: B) L
    · obtain ⟨hp, hm⟩ := Re_both h0 hw
      by_cases c1 : Rc_ B ((w, true) :: L)
      · by_cases c2 : Rc_ B ((w, false) :: L)
        · have c0 := Rc_and hE c1 c2
          rw [in_0 (fun h => h.2 c1), in_0 (fun h => h.2 c2), in_0 (fun h => h.2 (Rc_sub c1)), in_0 (fun h => h.2 c0)]
        · rw [in_0 (fun h => h.2 c1), in_1 ⟨hm, c2⟩, in_0 (fun h => h.2 (Rc_sub c1)), in_1 ⟨h0, fun h => c2 (Rc_on false h)⟩]
      · by_cases c2 : Rc_ B ((w, false) :: L)
        · rw [in_1 ⟨hp, c1⟩, in_0 (fun h => h.2 c2), in_0 (fun h => h.2 (Rc_sub c2)), in_1 ⟨h0, fun h => c1 (Rc_on true h)⟩]; rfl
        · rw [in_1 ⟨hp, c1⟩, in_1 ⟨hm, c2⟩, in_1 ⟨hR, fun h => (Rc_or w h).elim c1 c2⟩, in_1 ⟨h0, fun h => c1 (Rc_on true h)⟩]
    · rw [in_0 (P := Bd_ (w :: B) L) (fun h => h0 h.1)]
      by_cases hp : Re_ B ((w, true) :: L)
      · have hm : ¬ Re_ B ((w, false) :: L) := fun h => h0 (Re_meet hp h)
        rw [in_0 (P := Bd_ B ((w, false) :: L)) (fun h => hm h.1), in_cg (show Bd_ B ((w, true) :: L) ↔ Bd_ B L from ⟨fun h => ⟨hR, fun c => h.2 (Rc_side true h0 hp c)⟩, fun h => ⟨hp, fun c => h.2 (Rc_sub c)⟩⟩)]
      · have hm : Re_ B ((w, false) :: L) := by
          rcases Re_three w hR with h | h | h
          · exact absurd h hp
          · exact h
          · exact absurd h h0
        rw [in_0 (P := Bd_ B ((w, true) :: L)) (fun h => hp h.1), in_cg (show Bd_ B ((w, false) :: L) ↔ Bd_ B L from ⟨fun h => ⟨hR, fun c => h.2 (Rc_side false h0 hm c)⟩, fun h => ⟨hm, fun c => h.2 (Rc_sub c)⟩⟩)]
        omega
  · rw [in_0 (fun h => hR (Re_sub h.1)), in_0 (fun h => hR (Re_sub h.1)), in_0 (fun h => hR h.1), in_0 (fun h => hR (Re_on h.1))]
