section
/-! the words of nest mates, the static row, the worlds, the calls -/
abbrev in_R (i : Int32) (n : Nat) : Prop := ¬ (i < 0 ∨ n ≤ i.toNatClampNeg)
def ck_ {α : Type} (c : Prop) [Decidable c] (k : Option α) : Option α := if c then k else none
theorem ck_some {α : Type} {c : Prop} [Decidable c] {k : Option α} {r : α} (h : ck_ c k = some r) : c ∧ k = some r := by
  unfold ck_ at h
  by_cases hc : c
  · rw [if_pos hc] at h; exact ⟨hc, h⟩
  · rw [if_neg hc] at h; cases h
theorem bd_some {α β : Type} {o : Option α} {k : α → Option β} {b : β} (h : o.bind k = some b) : ∃ a, o = some a ∧ k a = some b := by
  cases o with
  | none => cases h
  | some a => exact ⟨a, rfl, h⟩
def nm_ {α β : Type} (e : α) (k : α → β) : β := k e
theorem nm_some {α β : Type} {e x : α} {k : α → β} {r : β} (ex : x = e) (h : nm_ e k = r) : k x = r := by subst ex; exact h
/-- a loop: its body goes on with a new state (inl) or leaves (inr) -/
def lp_ {σ ρ : Type} (body : σ → Option (σ ⊕ ρ)) : Nat → σ → Option ρ
  | 0, _ => none
  | n + 1, s => (body s).bind (fun x => match x with
    | .inl s' => lp_ body n s'
    | .inr r => some r)
def lp_next {σ ρ : Type} (body : σ → Option (σ ⊕ ρ)) (n : Nat) (r : ρ) (x : σ ⊕ ρ) : Prop := match x with
  | .inl s' => lp_ body n s' = some r
  | .inr r' => r' = r
theorem lp_some {σ ρ : Type} {body : σ → Option (σ ⊕ ρ)} {n : Nat} {s : σ} {r : ρ} (h : lp_ body (n + 1) s = some r) : ∃ x, body s = some x ∧ lp_next body n r x := by
  obtain ⟨x, h1, h2⟩ := bd_some (show (body s).bind _ = some r from h)
  refine ⟨x, h1, ?_⟩
  cases x with
  | inl s' => exact h2
  | inr r' => exact Option.some.inj h2
theorem lp_zero {σ ρ : Type} {body : σ → Option (σ ⊕ ρ)} {s : σ} {r : ρ} (h : lp_ body 0 s = some r) : False := by cases h
/-- rounds enough for every loop of the program -/
def fu_ : Nat := 1000000000

/-- the static row of powers -/
def pw_ (j : Nat) : Int32 := nI (3 ^ j)
end
section
/-! planes and places over the rationals -/
abbrev Wl_ : Type := Int × Int × Int × Int
abbrev V3_ : Type := Rat × Rat × Rat
def o3_ : V3_ := (0, 0, 0)
def dr_ (w : Wl_) (v : V3_) : Rat := (w.1 : Rat) * v.1 + (w.2.1 : Rat) * v.2.1 + (w.2.2.1 : Rat) * v.2.2
def ev_ (w : Wl_) (p : V3_) : Rat := dr_ w p - (w.2.2.2 : Rat)
def ad_ (p : V3_) (t : Rat) (v : V3_) : V3_ := (p.1 + t * v.1, p.2.1 + t * v.2.1, p.2.2 + t * v.2.2)
def mu_ (t : Rat) (v : V3_) : V3_ := (t * v.1, t * v.2.1, t * v.2.2)
theorem dr_ad (w : Wl_) (p : V3_) (t : Rat) (v : V3_) : dr_ w (ad_ p t v) = dr_ w p + t * dr_ w v := by
  simp only [dr_, ad_]; grind
theorem ev_ad (w : Wl_) (p : V3_) (t : Rat) (v : V3_) : ev_ w (ad_ p t v) = ev_ w p + t * dr_ w v := by
  simp only [ev_, dr_ad]; grind
theorem dr_mu (w : Wl_) (t : Rat) (v : V3_) : dr_ w (mu_ t v) = t * dr_ w v := by
  simp only [dr_, mu_]; grind
theorem dr_o (w : Wl_) : dr_ w o3_ = 0 := by simp only [dr_, o3_]; grind
theorem mu_ne {t : Rat} {v : V3_} (ht : t ≠ 0) (hv : v ≠ o3_) : mu_ t v ≠ o3_ := by
  intro h
  apply hv
  simp only [mu_, o3_, Prod.mk.injEq] at h
  obtain ⟨h1, h2, h3⟩ := h
  have a1 : v.1 = 0 := by rcases Rat.mul_eq_zero.mp h1 with h | h <;> grind
  have a2 : v.2.1 = 0 := by rcases Rat.mul_eq_zero.mp h2 with h | h <;> grind
  have a3 : v.2.2 = 0 := by rcases Rat.mul_eq_zero.mp h3 with h | h <;> grind
  exact Prod.ext a1 (Prod.ext a2 a3)
/-! for all small numbers above 0 -/
def Ev_ (P : Rat → Prop) : Prop := ∃ d : Rat, 0 < d ∧ ∀ t, 0 < t → t < d → P t
theorem Ev_and {P Q : Rat → Prop} (h1 : Ev_ P) (h2 : Ev_ Q) : Ev_ (fun t => P t ∧ Q t) := by
  obtain ⟨d, hd, h⟩ := h1
  obtain ⟨d', hd', h'⟩ := h2
  rcases Rat.le_total (a := d) (b := d') with hl | hl
  · exact ⟨d, hd, fun t h0 h3 => ⟨h t h0 h3, h' t h0 (by grind)⟩⟩
  · exact ⟨d', hd', fun t h0 h3 => ⟨h t h0 (by grind), h' t h0 h3⟩⟩
theorem Ev_true {P : Rat → Prop} (h : ∀ t, 0 < t → P t) : Ev_ P := ⟨1, by decide, fun t h0 _ => h t h0⟩
theorem Ev_mono {P Q : Rat → Prop} (h1 : Ev_ P) (h : ∀ t, 0 < t → P t → Q t) : Ev_ Q := by
  obtain ⟨d, hd, h'⟩ := h1
  exact ⟨d, hd, fun t h0 h3 => h t h0 (h' t h0 h3)⟩
theorem Ev_all {α : Type} (L : List α) (P : α → Rat → Prop) (h : ∀ x ∈ L, Ev_ (P x)) : Ev_ (fun t => ∀ x ∈ L, P x t) := by
  induction L with
  | nil => exact Ev_true (fun t _ x hx => by cases hx)
  | cons a L ih =>
    refine Ev_mono (Ev_and (h a List.mem_cons_self) (ih (fun x hx => h x (List.mem_cons_of_mem _ hx)))) ?_
    intro t _ ht x hx
    rcases List.mem_cons.mp hx with rfl | hx
    · exact ht.1
    · exact ht.2 x hx
theorem Ev_get {P : Rat → Prop} (h : Ev_ P) : ∃ t, 0 < t ∧ P t := by
  obtain ⟨d, hd, h⟩ := h
  exact ⟨d / 2, by grind, h _ (by grind) (by grind)⟩
theorem pd_ {a b : Rat} (ha : 0 < a) (hb : 0 < b) : ∃ d : Rat, 0 < d ∧ d * b = a :=
  ⟨a / b, by rw [Rat.div_def]; exact Rat.mul_pos ha (Rat.inv_pos.mpr hb), Rat.div_mul_cancel (by grind)⟩
theorem Ev_lin {a : Rat} (b : Rat) (h : 0 < a) : Ev_ (fun t => 0 < a + t * b) := by
  by_cases hb : 0 ≤ b
  · refine Ev_true (fun t ht => ?_)
    have := Rat.mul_nonneg (Rat.le_of_lt ht) hb
    grind
  · obtain ⟨d, hd, he⟩ := pd_ (a := a) (b := -b) h (by grind)
    refine ⟨d, hd, fun t h0 h1 => ?_⟩
    have := Rat.mul_lt_mul_of_pos_right h1 (show 0 < -b by grind)
    grind
/-- a line a + t b that isn't 0 always is so for no small t -/
theorem Ev_avoid (a b : Rat) : Ev_ (fun t => a + t * b = 0 → a = 0 ∧ b = 0) := by
  by_cases hb : b = 0
  · exact Ev_true (fun t _ h => by subst hb; exact ⟨by grind, rfl⟩)
  · by_cases ha : a = 0
    · refine Ev_true (fun t ht h => ?_)
      subst ha
      have h2 : t * b = 0 := by grind
      rcases Rat.mul_eq_zero.mp h2 with h | h
      · grind
      · exact absurd h hb
    · rcases (show 0 < a ∨ 0 < -a by grind) with h | h
      · exact Ev_mono (Ev_lin b h) (fun t _ ht h0 => by grind)
      · exact Ev_mono (Ev_lin (-b) h) (fun t _ ht h0 => by grind)

/-! flats, rooms, and the ways on for ever -/
def oB_ (B : List Wl_) (p : V3_) : Prop := ∀ w ∈ B, ev_ w p = 0
def pB_ (B : List Wl_) (u : V3_) : Prop := ∀ w ∈ B, dr_ w u = 0
def s1_ (b : Bool) (r : Rat) : Prop := if b = true then 0 < r else r < 0
def r1_ (b : Bool) (r : Rat) : Prop := if b = true then 0 ≤ r else r ≤ 0
def sB_ (L : List (Wl_ × Bool)) (p : V3_) : Prop := ∀ x ∈ L, s1_ x.2 (ev_ x.1 p)
def rB_ (L : List (Wl_ × Bool)) (u : V3_) : Prop := ∀ x ∈ L, r1_ x.2 (dr_ x.1 u)
def Re_ (B : List Wl_) (L : List (Wl_ × Bool)) : Prop := ∃ p, oB_ B p ∧ sB_ L p
def Rc_ (B : List Wl_) (L : List (Wl_ × Bool)) : Prop := ∃ u, pB_ B u ∧ rB_ L u ∧ u ≠ o3_
def Bd_ (B : List Wl_) (L : List (Wl_ × Bool)) : Prop := Re_ B L ∧ ¬ Rc_ B L
theorem oB_cons {w : Wl_} {B : List Wl_} {p : V3_} : oB_ (w :: B) p ↔ ev_ w p = 0 ∧ oB_ B p := List.forall_mem_cons
theorem pB_cons {w : Wl_} {B : List Wl_} {p : V3_} : pB_ (w :: B) p ↔ dr_ w p = 0 ∧ pB_ B p := List.forall_mem_cons
theorem sB_cons {x : Wl_ × Bool} {L : List (Wl_ × Bool)} {p : V3_} : sB_ (x :: L) p ↔ s1_ x.2 (ev_ x.1 p) ∧ sB_ L p := List.forall_mem_cons
theorem rB_cons {x : Wl_ × Bool} {L : List (Wl_ × Bool)} {p : V3_} : rB_ (x :: L) p ↔ r1_ x.2 (dr_ x.1 p) ∧ rB_ L p := List.forall_mem_cons
theorem s1_t {r : Rat} : s1_ true r ↔ 0 < r := by simp [s1_]
theorem s1_f {r : Rat} : s1_ false r ↔ r < 0 := by simp [s1_]
theorem r1_t {r : Rat} : r1_ true r ↔ 0 ≤ r := by simp [r1_]
theorem r1_f {r : Rat} : r1_ false r ↔ r ≤ 0 := by simp [r1_]
theorem oB_ad {B : List Wl_} {p u : V3_} {t : Rat} (h : oB_ B p) (hu : pB_ B u) : oB_ B (ad_ p t u) := by
  intro w hw
  rw [ev_ad, h w hw, hu w hw]; grind
theorem sB_ev {L : List (Wl_ × Bool)} {p : V3_} (h : sB_ L p) (u : V3_) : Ev_ (fun t => sB_ L (ad_ p t u)) := by
  refine Ev_all L (fun x t => s1_ x.2 (ev_ x.1 (ad_ p t u))) ?_
  intro x hx
  have hs := h x hx
  cases hb : x.2 with
  | true =>
    rw [hb, s1_t] at hs
    refine Ev_mono (Ev_lin (dr_ x.1 u) hs) (fun t _ ht => ?_)
    rw [s1_t, ev_ad]; exact ht
  | false =>
    rw [hb, s1_f] at hs
    refine Ev_mono (Ev_lin (a := - ev_ x.1 p) (- dr_ x.1 u) (by grind)) (fun t _ ht => ?_)
    rw [s1_f, ev_ad]; grind
/-- the half between two places is in the room as well -/
theorem s1_mix {b : Bool} {r r' t : Rat} (h : s1_ b r) (h' : s1_ b r') (h0 : 0 ≤ t) (h1 : t ≤ 1) : s1_ b (r + t * (r' - r)) := by
  cases b with
  | true =>
    rw [s1_t] at *
    by_cases ht : t = 0
    · subst ht; grind
    · have h2 := Rat.mul_pos (show 0 < t by grind) h'
      have h3 := Rat.mul_nonneg (show 0 ≤ 1 - t by grind) (Rat.le_of_lt h)
      grind
  | false =>
    rw [s1_f] at *
    by_cases ht : t = 0
    · subst ht; grind
    · have h2 := Rat.mul_pos (show 0 < t by grind) (show 0 < - r' by grind)
      have h3 := Rat.mul_nonneg (show 0 ≤ 1 - t by grind) (show 0 ≤ - r by grind)
      grind
def sb_ (q p : V3_) : V3_ := (q.1 - p.1, q.2.1 - p.2.1, q.2.2 - p.2.2)
theorem dr_sb (w : Wl_) (q p : V3_) : dr_ w (sb_ q p) = ev_ w q - ev_ w p := by
  simp only [ev_, dr_, sb_]; grind
theorem sB_mix {L : List (Wl_ × Bool)} {p q : V3_} {t : Rat} (h : sB_ L p) (h' : sB_ L q) (h0 : 0 ≤ t) (h1 : t ≤ 1) : sB_ L (ad_ p t (sb_ q p)) := by
  intro x hx
  rw [ev_ad, dr_sb]
  exact s1_mix (h x hx) (h' x hx) h0 h1
theorem oB_mix {B : List Wl_} {p q : V3_} {t : Rat} (h : oB_ B p) (h' : oB_ B q) : oB_ B (ad_ p t (sb_ q p)) := by
  intro x hx
  rw [ev_ad, dr_sb, h x hx, h' x hx]; grind
theorem Re_sub {B : List Wl_} {L : List (Wl_ × Bool)} {x : Wl_ × Bool} (h : Re_ B (x :: L)) : Re_ B L := by
  obtain ⟨p, h1, h2⟩ := h
  exact ⟨p, h1, (sB_cons.mp h2).2⟩
theorem Re_on {B : List Wl_} {L : List (Wl_ × Bool)} {w : Wl_} (h : Re_ (w :: B) L) : Re_ B L := by
  obtain ⟨p, h1, h2⟩ := h
  exact ⟨p, (oB_cons.mp h1).2, h2⟩
theorem Re_three {B : List Wl_} {L : List (Wl_ × Bool)} (w : Wl_) (h : Re_ B L) : Re_ B ((w, true) :: L) ∨ Re_ B ((w, false) :: L) ∨ Re_ (w :: B) L := by
  obtain ⟨p, h1, h2⟩ := h
  rcases (show 0 < ev_ w p ∨ ev_ w p < 0 ∨ ev_ w p = 0 by grind) with h | h | h
  · exact Or.inl ⟨p, h1, sB_cons.mpr ⟨s1_t.mpr h, h2⟩⟩
  · exact Or.inr (Or.inl ⟨p, h1, sB_cons.mpr ⟨s1_f.mpr h, h2⟩⟩)
  · exact Or.inr (Or.inr ⟨p, oB_cons.mpr ⟨h, h1⟩, h2⟩)
theorem Re_both {B : List Wl_} {L : List (Wl_ × Bool)} {w : Wl_} (h : Re_ (w :: B) L) (hw : ∃ u, pB_ B u ∧ dr_ w u ≠ 0) : Re_ B ((w, true) :: L) ∧ Re_ B ((w, false) :: L) := by
  obtain ⟨p, h1, h2⟩ := h
  obtain ⟨u, h3, h4⟩ := hw
  rw [oB_cons] at h1
  have key : ∀ v : V3_, pB_ B v → 0 < dr_ w v → Re_ B ((w, true) :: L) := by
    intro v hv hv0
    obtain ⟨t, ht, hs⟩ := Ev_get (sB_ev h2 v)
    refine ⟨ad_ p t v, oB_ad h1.2 hv, sB_cons.mpr ⟨s1_t.mpr ?_, hs⟩⟩
    show 0 < ev_ w (ad_ p t v)
    rw [ev_ad, h1.1]
    have := Rat.mul_pos ht hv0
    grind
  have key2 : ∀ v : V3_, pB_ B v → dr_ w v < 0 → Re_ B ((w, false) :: L) := by
    intro v hv hv0
    obtain ⟨t, ht, hs⟩ := Ev_get (sB_ev h2 v)
    refine ⟨ad_ p t v, oB_ad h1.2 hv, sB_cons.mpr ⟨s1_f.mpr ?_, hs⟩⟩
    show ev_ w (ad_ p t v) < 0
    rw [ev_ad, h1.1]
    have := Rat.mul_pos ht (show 0 < - dr_ w v by grind)
    grind
  have hm : pB_ B (mu_ (-1) u) := fun x hx => by rw [dr_mu, h3 x hx]; grind
  rcases (show 0 < dr_ w u ∨ dr_ w u < 0 by grind) with h | h
  · exact ⟨key u h3 h, key2 _ hm (by rw [dr_mu]; grind)⟩
  · exact ⟨key _ hm (by rw [dr_mu]; grind), key2 u h3 h⟩
theorem Re_meet {B : List Wl_} {L : List (Wl_ × Bool)} {w : Wl_} (h : Re_ B ((w, true) :: L)) (h' : Re_ B ((w, false) :: L)) : Re_ (w :: B) L := by
  obtain ⟨p, h1, h2⟩ := h
  obtain ⟨q, h3, h4⟩ := h'
  rw [sB_cons] at h2 h4
  have a1 : 0 < ev_ w p := s1_t.mp h2.1
  have a2 : ev_ w q < 0 := s1_f.mp h4.1
  obtain ⟨t, ht, he⟩ := pd_ (a := ev_ w p) (b := ev_ w p - ev_ w q) a1 (by grind)
  refine ⟨ad_ p t (sb_ q p), oB_cons.mpr ⟨?_, oB_mix h1 h3⟩, sB_mix h2.2 h4.2 (by grind) ?_⟩
  · rw [ev_ad, dr_sb]; grind
  · rcases Rat.le_total (a := t) (b := 1) with h | h
    · exact h
    · have := Rat.mul_nonneg (show 0 ≤ t - 1 by grind) (show 0 ≤ ev_ w p - ev_ w q by grind)
      grind
theorem rB_add {L : List (Wl_ × Bool)} {p u : V3_} {t : Rat} (h : sB_ L p) (hu : rB_ L u) (ht : 0 ≤ t) : sB_ L (ad_ p t u) := by
  intro x hx
  rw [ev_ad]
  have a1 := h x hx
  have a2 := hu x hx
  cases hb : x.2 with
  | true =>
    rw [hb, s1_t] at a1; rw [hb, r1_t] at a2
    have := Rat.mul_nonneg ht a2
    rw [s1_t]; grind
  | false =>
    rw [hb, s1_f] at a1; rw [hb, r1_f] at a2
    have := Rat.mul_nonneg ht (show 0 ≤ - dr_ x.1 u by grind)
    rw [s1_f]; grind
theorem Rc_sub {B : List Wl_} {L : List (Wl_ × Bool)} {x : Wl_ × Bool} (h : Rc_ B (x :: L)) : Rc_ B L := by
  obtain ⟨u, h1, h2, h3⟩ := h
  exact ⟨u, h1, (rB_cons.mp h2).2, h3⟩
theorem Rc_on {B : List Wl_} {L : List (Wl_ × Bool)} {w : Wl_} (b : Bool) (h : Rc_ (w :: B) L) : Rc_ B ((w, b) :: L) := by
  obtain ⟨u, h1, h2, h3⟩ := h
  rw [pB_cons] at h1
  refine ⟨u, h1.2, rB_cons.mpr ⟨?_, h2⟩, h3⟩
  show r1_ b (dr_ w u)
  rw [h1.1]
  cases b
  · rw [r1_f]; grind
  · rw [r1_t]; grind
theorem Rc_or {B : List Wl_} {L : List (Wl_ × Bool)} (w : Wl_) (h : Rc_ B L) : Rc_ B ((w, true) :: L) ∨ Rc_ B ((w, false) :: L) := by
  obtain ⟨u, h1, h2, h3⟩ := h
  rcases (show 0 ≤ dr_ w u ∨ dr_ w u ≤ 0 by grind) with h | h
  · exact Or.inl ⟨u, h1, rB_cons.mpr ⟨r1_t.mpr h, h2⟩, h3⟩
  · exact Or.inr ⟨u, h1, rB_cons.mpr ⟨r1_f.mpr h, h2⟩, h3⟩
/-- only 0 is along everything -/
def Es_ (B : List Wl_) (A : List Wl_) : Prop := ∀ u, pB_ B u → pB_ A u → u = o3_
theorem Rc_and {B : List Wl_} {L : List (Wl_ × Bool)} {w : Wl_} (hE : Es_ B (L.map Prod.fst)) (h : Rc_ B ((w, true) :: L)) (h' : Rc_ B ((w, false) :: L)) : Rc_ (w :: B) L := by
  obtain ⟨u, h1, h2, h3⟩ := h
  obtain ⟨v, g1, g2, g3⟩ := h'
  rw [rB_cons] at h2 g2
  have a1 : 0 ≤ dr_ w u := r1_t.mp h2.1
  have a2 : dr_ w v ≤ 0 := r1_f.mp g2.1
  by_cases hu : dr_ w u = 0
  · exact ⟨u, pB_cons.mpr ⟨hu, h1⟩, h2.2, h3⟩
  by_cases hv : dr_ w v = 0
  · exact ⟨v, pB_cons.mpr ⟨hv, g1⟩, g2.2, g3⟩
  have b1 : 0 < dr_ w u := by grind
  have b2 : 0 < - dr_ w v := by grind
  refine ⟨ad_ (mu_ (- dr_ w v) u) (dr_ w u) v, pB_cons.mpr ⟨?_, ?_⟩, ?_, ?_⟩
  · rw [dr_ad, dr_mu]; grind
  · intro x hx
    rw [dr_ad, dr_mu, h1 x hx, g1 x hx]; grind
  · intro x hx
    rw [dr_ad, dr_mu]
    have c1 := h2.2 x hx
    have c2 := g2.2 x hx
    cases hb : x.2 with
    | true =>
      rw [hb, r1_t] at c1 c2
      have e1 := Rat.mul_nonneg (Rat.le_of_lt b2) c1
      have e2 := Rat.mul_nonneg (Rat.le_of_lt b1) c2
      rw [r1_t]; grind
    | false =>
      rw [hb, r1_f] at c1 c2
      have e1 := Rat.mul_nonneg (Rat.le_of_lt b2) (show 0 ≤ - dr_ x.1 u by grind)
      have e2 := Rat.mul_nonneg (Rat.le_of_lt b1) (show 0 ≤ - dr_ x.1 v by grind)
      rw [r1_f]; grind
  · intro h0
    apply h3
    refine hE u h1 ?_
    intro y hy
    obtain ⟨x, hx, rfl⟩ := List.mem_map.mp hy
    have e0 : dr_ x.1 (ad_ (mu_ (- dr_ w v) u) (dr_ w u) v) = 0 := by rw [h0, dr_o]
    rw [dr_ad, dr_mu] at e0
    have c1 := h2.2 x hx
    have c2 := g2.2 x hx
    have k1 : (- dr_ w v) * dr_ x.1 u = 0 := by
      cases hb : x.2 with
      | true =>
        rw [hb, r1_t] at c1 c2
        have e1 := Rat.mul_nonneg (Rat.le_of_lt b2) c1
        have e2 := Rat.mul_nonneg (Rat.le_of_lt b1) c2
        grind
      | false =>
        rw [hb, r1_f] at c1 c2
        have e1 := Rat.mul_nonneg (Rat.le_of_lt b2) (show 0 ≤ - dr_ x.1 u by grind)
        have e2 := Rat.mul_nonneg (Rat.le_of_lt b1) (show 0 ≤ - dr_ x.1 v by grind)
        grind
    rcases Rat.mul_eq_zero.mp k1 with h | h
    · grind
    · exact h
/-- a room that lies on one side of a wall goes on for ever on that side alone -/
theorem Rc_side {B : List Wl_} {L : List (Wl_ × Bool)} {w : Wl_} (b : Bool) (h0 : ¬ Re_ (w :: B) L) (h1 : Re_ B ((w, b) :: L)) (h2 : Rc_ B L) : Rc_ B ((w, b) :: L) := by
  obtain ⟨u, k1, k2, k3⟩ := h2
  obtain ⟨p, g1, g2⟩ := h1
  rw [sB_cons] at g2
  refine ⟨u, k1, rB_cons.mpr ⟨?_, k2⟩, k3⟩
  show r1_ b (dr_ w u)
  have g3 : s1_ b (ev_ w p) := g2.1
  cases b with
  | true =>
    rw [s1_t] at g3
    rw [r1_t]
    rcases (show 0 ≤ dr_ w u ∨ dr_ w u < 0 by grind) with h | h
    · exact h
    · obtain ⟨t, ht, he⟩ := pd_ (a := ev_ w p) (b := - dr_ w u) g3 (by grind)
      exact absurd ⟨ad_ p t u, oB_cons.mpr ⟨by rw [ev_ad]; grind, oB_ad g1 k1⟩, rB_add g2.2 k2 (Rat.le_of_lt ht)⟩ h0
  | false =>
    rw [s1_f] at g3
    rw [r1_f]
    rcases (show dr_ w u ≤ 0 ∨ 0 < dr_ w u by grind) with h | h
    · exact h
    · obtain ⟨t, ht, he⟩ := pd_ (a := - ev_ w p) (b := dr_ w u) (by grind) h
      exact absurd ⟨ad_ p t u, oB_cons.mpr ⟨by rw [ev_ad]; grind, oB_ad g1 k1⟩, rB_add g2.2 k2 (Rat.le_of_lt ht)⟩ h0
noncomputable def in_ (P : Prop) : Int := @ite Int P (Classical.propDecidable P) 1 0
theorem in_1 {P : Prop} (h : P) : in_ P = 1 := by unfold in_; exact if_pos h
theorem in_0 {P : Prop} (h : ¬ P) : in_ P = 0 := by unfold in_; exact if_neg h
theorem in_cg {P Q : Prop} (h : P ↔ Q) : in_ P = in_ Q := by rw [propext h]
theorem cut_1 {B : List Wl_} {L : List (Wl_ × Bool)} {w : Wl_} (hE : Es_ B (L.map Prod.fst)) (hw : ∃ u, pB_ B u ∧ dr_ w u ≠ 0) :
    in_ (Bd_ B ((w, true) :: L)) + in_ (Bd_ B ((w, false) :: L)) = in_ (Bd_ B L) + in_ (Bd_ (w :: B) L) := by
  by_cases hR : Re_ B L
  · by_cases h0 : Re_ (w :: B) L
    · obtain ⟨hp, hm⟩ := Re_both h0 hw
      by_cases c1 : Rc_ B ((w, true) :: L)
      · by_cases c2 : Rc_ B ((w, false) :: L)
        · have c0 := Rc_and hE c1 c2
          rw [in_0 (fun h => h.2 c1), in_0 (fun h => h.2 c2), in_0 (fun h => h.2 (Rc_sub c1)), in_0 (fun h => h.2 c0)]
        · rw [in_0 (fun h => h.2 c1), in_1 ⟨hm, c2⟩, in_0 (fun h => h.2 (Rc_sub c1)), in_1 ⟨h0, fun h => c2 (Rc_on false h)⟩]
      · by_cases c2 : Rc_ B ((w, false) :: L)
        · rw [in_1 ⟨hp, c1⟩, in_0 (fun h => h.2 c2), in_0 (fun h => h.2 (Rc_sub c2)), in_1 ⟨h0, fun h => c1 (Rc_on true h)⟩]; rfl
        · rw [in_1 ⟨hp, c1⟩, in_1 ⟨hm, c2⟩, in_1 ⟨hR, fun h => (Rc_or w h).elim c1 c2⟩, in_1 ⟨h0, fun h => c1 (Rc_on true h)⟩]
    · rw [in_0 (P := Bd_ (w :: B) L) (fun h => h0 h.1)]
      by_cases hp : Re_ B ((w, true) :: L)
      · have hm : ¬ Re_ B ((w, false) :: L) := fun h => h0 (Re_meet hp h)
        rw [in_0 (P := Bd_ B ((w, false) :: L)) (fun h => hm h.1), in_cg (show Bd_ B ((w, true) :: L) ↔ Bd_ B L from ⟨fun h => ⟨hR, fun c => h.2 (Rc_side true h0 hp c)⟩, fun h => ⟨hp, fun c => h.2 (Rc_sub c)⟩⟩)]
      · have hm : Re_ B ((w, false) :: L) := by
          rcases Re_three w hR with h | h | h
          · exact absurd h hp
          · exact h
          · exact absurd h h0
        rw [in_0 (P := Bd_ B ((w, true) :: L)) (fun h => hp h.1), in_cg (show Bd_ B ((w, false) :: L) ↔ Bd_ B L from ⟨fun h => ⟨hR, fun c => h.2 (Rc_side false h0 hm c)⟩, fun h => ⟨hm, fun c => h.2 (Rc_sub c)⟩⟩)]
        omega
  · rw [in_0 (fun h => hR (Re_sub h.1)), in_0 (fun h => hR (Re_sub h.1)), in_0 (fun h => hR h.1), in_0 (fun h => hR (Re_on h.1))]
end
section
/-! how many bounded rooms there are: one wall after the other -/
noncomputable def cn_ (B : List Wl_) : List Wl_ → List (Wl_ × Bool) → Int
  | [], L => in_ (Bd_ B L)
  | w :: A, L => cn_ B A ((w, true) :: L) + cn_ B A ((w, false) :: L)
/-- the heaps that have a place in common, odd ones below 0 -/
noncomputable def sS_ : List Wl_ → List Wl_ → Int
  | [], B => in_ (∃ p, oB_ B p)
  | w :: A, B => sS_ A B - sS_ A (w :: B)
theorem Re_cg {B B' : List Wl_} {L L' : List (Wl_ × Bool)} (hB : ∀ x, x ∈ B ↔ x ∈ B') (hL : ∀ x, x ∈ L ↔ x ∈ L') (h : Re_ B L) : Re_ B' L' := by
  obtain ⟨p, h1, h2⟩ := h
  exact ⟨p, fun x hx => h1 x ((hB x).mpr hx), fun x hx => h2 x ((hL x).mpr hx)⟩
theorem Rc_cg {B B' : List Wl_} {L L' : List (Wl_ × Bool)} (hB : ∀ x, x ∈ B ↔ x ∈ B') (hL : ∀ x, x ∈ L ↔ x ∈ L') (h : Rc_ B L) : Rc_ B' L' := by
  obtain ⟨p, h1, h2, h3⟩ := h
  exact ⟨p, fun x hx => h1 x ((hB x).mpr hx), fun x hx => h2 x ((hL x).mpr hx), h3⟩
theorem Bd_cg {B B' : List Wl_} {L L' : List (Wl_ × Bool)} (hB : ∀ x, x ∈ B ↔ x ∈ B') (hL : ∀ x, x ∈ L ↔ x ∈ L') : Bd_ B L ↔ Bd_ B' L' :=
  ⟨fun h => ⟨Re_cg hB hL h.1, fun c => h.2 (Rc_cg (fun x => (hB x).symm) (fun x => (hL x).symm) c)⟩, fun h => ⟨Re_cg (fun x => (hB x).symm) (fun x => (hL x).symm) h.1, fun c => h.2 (Rc_cg hB hL c)⟩⟩
theorem mem_cg {α : Type} {L L' : List α} (x : α) (h : ∀ y, y ∈ L ↔ y ∈ L') : ∀ y, y ∈ x :: L ↔ y ∈ x :: L' := fun y => by simp [h y]
theorem mem_sw {α : Type} (a b : α) (L : List α) : ∀ y, y ∈ a :: b :: L ↔ y ∈ b :: a :: L := fun y => by simp; grind
theorem cn_cg {B B' : List Wl_} (hB : ∀ x, x ∈ B ↔ x ∈ B') : ∀ (A : List Wl_) (L L' : List (Wl_ × Bool)), (∀ x, x ∈ L ↔ x ∈ L') → cn_ B A L = cn_ B' A L' := by
  intro A
  induction A with
  | nil => intro L L' h; exact in_cg (Bd_cg hB h)
  | cons w A ih => intro L L' h; simp only [cn_]; rw [ih _ _ (mem_cg (w, true) h), ih _ _ (mem_cg (w, false) h)]
theorem sS_cg : ∀ (A : List Wl_) (B B' : List Wl_), (∀ x, x ∈ B ↔ x ∈ B') → sS_ A B = sS_ A B' := by
  intro A
  induction A with
  | nil => intro B B' h; exact in_cg ⟨fun ⟨p, hp⟩ => ⟨p, fun x hx => hp x ((h x).mpr hx)⟩, fun ⟨p, hp⟩ => ⟨p, fun x hx => hp x ((h x).mp hx)⟩⟩
  | cons w A ih => intro B B' h; simp only [sS_]; rw [ih _ _ h, ih _ _ (mem_cg w h)]
theorem Es_cg {B : List Wl_} {A A' : List Wl_} (h : ∀ x, x ∈ A ↔ x ∈ A') (hE : Es_ B A) : Es_ B A' := fun u h1 h2 => hE u h1 (fun x hx => h2 x ((h x).mp hx))
theorem cut_all {B : List Wl_} {w : Wl_} (hw : ∃ u, pB_ B u ∧ dr_ w u ≠ 0) : ∀ (A : List Wl_) (L : List (Wl_ × Bool)), Es_ B (L.map Prod.fst ++ A) → cn_ B A ((w, true) :: L) + cn_ B A ((w, false) :: L) = cn_ B A L + cn_ (w :: B) A L := by
  intro A
  induction A with
  | nil => intro L hE; exact cut_1 (by simpa using hE) hw
  | cons v A ih =>
    intro L hE
    simp only [cn_]
    have e1 := ih ((v, true) :: L) (Es_cg (fun x => by simp; grind) hE)
    have e2 := ih ((v, false) :: L) (Es_cg (fun x => by simp; grind) hE)
    rw [cn_cg (fun _ => Iff.rfl) A _ _ (mem_sw (v, true) (w, true) L), cn_cg (fun _ => Iff.rfl) A _ _ (mem_sw (v, true) (w, false) L), cn_cg (fun _ => Iff.rfl) A _ _ (mem_sw (v, false) (w, true) L), cn_cg (fun _ => Iff.rfl) A _ _ (mem_sw (v, false) (w, false) L)]
    omega
theorem cn_none {B : List Wl_} : ∀ (A : List Wl_) (L : List (Wl_ × Bool)), ¬ Re_ B L → cn_ B A L = 0 := by
  intro A
  induction A with
  | nil => intro L h; exact in_0 (fun q => h q.1)
  | cons w A ih => intro L h; simp only [cn_]; rw [ih _ (fun q => h (Re_sub q)), ih _ (fun q => h (Re_sub q))]; rfl
theorem sS_none : ∀ (A : List Wl_) (B : List Wl_), (¬ ∃ p, oB_ B p) → sS_ A B = 0 := by
  intro A
  induction A with
  | nil => intro B h; exact in_0 h
  | cons w A ih => intro B h; simp only [sS_]; rw [ih _ h, ih _ (fun ⟨p, hp⟩ => h ⟨p, (oB_cons.mp hp).2⟩)]; rfl
/-- a way along everything but w: to be on w is no matter -/
theorem sS_free {w : Wl_} : ∀ (A : List Wl_) (B : List Wl_), (∃ u, pB_ B u ∧ pB_ A u ∧ dr_ w u ≠ 0) → sS_ A B = sS_ A (w :: B) := by
  intro A
  induction A with
  | nil =>
    intro B ⟨u, h1, _, h3⟩
    refine in_cg ⟨fun ⟨p, hp⟩ => ?_, fun ⟨p, hp⟩ => ⟨p, (oB_cons.mp hp).2⟩⟩
    refine ⟨ad_ p (- ev_ w p / dr_ w u) u, oB_cons.mpr ⟨?_, oB_ad hp h1⟩⟩
    rw [ev_ad, Rat.div_mul_cancel h3]; grind
  | cons a A ih =>
    intro B ⟨u, h1, h2, h3⟩
    rw [pB_cons] at h2
    simp only [sS_]
    rw [ih B ⟨u, h1, h2.2, h3⟩, ih (a :: B) ⟨u, pB_cons.mpr ⟨h2.1, h1⟩, h2.2, h3⟩, sS_cg A _ _ (mem_sw w a B)]
theorem cn_free {B : List Wl_} : ∀ (A : List Wl_) (L : List (Wl_ × Bool)), (∃ u, pB_ B u ∧ pB_ A u ∧ rB_ L u ∧ u ≠ o3_) → cn_ B A L = 0 := by
  intro A
  induction A with
  | nil => intro L ⟨u, h1, _, h3, h4⟩; exact in_0 (fun q => q.2 ⟨u, h1, h3, h4⟩)
  | cons a A ih =>
    intro L ⟨u, h1, h2, h3, h4⟩
    rw [pB_cons] at h2
    simp only [cn_]
    have hb : ∀ b : Bool, r1_ b (dr_ a u) := by
      intro b
      rw [h2.1]
      cases b
      · rw [r1_f]; grind
      · rw [r1_t]; grind
    rw [ih _ ⟨u, h1, h2.2, rB_cons.mpr ⟨hb true, h3⟩, h4⟩, ih _ ⟨u, h1, h2.2, rB_cons.mpr ⟨hb false, h3⟩, h4⟩]; rfl
/-! walls one after the other that cross all those before -/
def Id_ : List Wl_ → Prop
  | [] => True
  | w :: B => Id_ B ∧ ∃ u, pB_ B u ∧ dr_ w u ≠ 0
theorem perp_2 (a b : V3_) : ∃ u : V3_, u ≠ o3_ ∧ a.1 * u.1 + a.2.1 * u.2.1 + a.2.2 * u.2.2 = 0 ∧ b.1 * u.1 + b.2.1 * u.2.1 + b.2.2 * u.2.2 = 0 := by
  obtain ⟨a1, a2, a3⟩ := a
  obtain ⟨b1, b2, b3⟩ := b
  simp only [o3_]
  by_cases h : (a2 * b3 - a3 * b2, a3 * b1 - a1 * b3, a1 * b2 - a2 * b1) = ((0, 0, 0) : V3_)
  · simp only [Prod.mk.injEq] at h
    obtain ⟨h1, h2, h3⟩ := h
    -- parallel: any way across the one that isn't 0
    by_cases ha1 : a1 = 0
    · by_cases ha2 : a2 = 0
      · by_cases ha3 : a3 = 0
        · by_cases hb1 : b1 = 0
          · exact ⟨(1, 0, 0), by simp, by simp only []; grind, by simp only []; grind⟩
          · exact ⟨(-b2, b1, 0), by simp; grind, by simp only []; grind, by simp only []; grind⟩
        · exact ⟨(1, 0, 0), by simp, by simp only []; grind, by
            have : a3 * b1 = 0 := by grind
            rcases Rat.mul_eq_zero.mp this with h | h <;> simp only [] <;> grind⟩
      · exact ⟨(1, 0, 0), by simp, by simp only []; grind, by
            have : a2 * b1 = 0 := by grind
            rcases Rat.mul_eq_zero.mp this with h | h <;> simp only [] <;> grind⟩
    · exact ⟨(-a2, a1, 0), by simp; grind, by simp only []; grind, by simp only []; grind⟩
  · exact ⟨_, h, by simp only []; grind, by simp only []; grind⟩
def nv_ (w : Wl_) : V3_ := ((w.1 : Rat), (w.2.1 : Rat), (w.2.2.1 : Rat))
theorem dr_nv (w : Wl_) (u : V3_) : dr_ w u = (nv_ w).1 * u.1 + (nv_ w).2.1 * u.2.1 + (nv_ w).2.2 * u.2.2 := rfl
theorem Id_3 {a b c : Wl_} (h : Id_ [c, b, a]) : ∀ v : V3_, dr_ a v = 0 → dr_ b v = 0 → dr_ c v = 0 → v = o3_ := by
  obtain ⟨⟨⟨-, u1, -, h1⟩, u2, h2, h3⟩, u3, h4, h5⟩ := h
  have k2 : dr_ a u2 = 0 := h2 a (by simp)
  have k3 : dr_ a u3 = 0 := h4 a (by simp)
  have k4 : dr_ b u3 = 0 := h4 b (by simp)
  intro v g1 g2 g3
  rw [dr_nv] at *
  generalize nv_ a = a at *
  generalize nv_ b = b at *
  generalize nv_ c = c at *
  obtain ⟨a1, a2, a3⟩ := a
  obtain ⟨b1, b2, b3⟩ := b
  obtain ⟨c1, c2, c3⟩ := c
  obtain ⟨x1, x2, x3⟩ := u1
  obtain ⟨y1, y2, y3⟩ := u2
  obtain ⟨z1, z2, z3⟩ := u3
  obtain ⟨v1, v2, v3⟩ := v
  simp only [dr_nv] at *
  -- the determinant of a, b, c isn't 0, for its product with that of the ways isn't
  have hdet : (a1 * (b2 * c3 - b3 * c2) - a2 * (b1 * c3 - b3 * c1) + a3 * (b1 * c2 - b2 * c1)) * (x1 * (y2 * z3 - y3 * z2) - x2 * (y1 * z3 - y3 * z1) + x3 * (y1 * z2 - y2 * z1)) = (a1 * x1 + a2 * x2 + a3 * x3) * (b1 * y1 + b2 * y2 + b3 * y3) * (c1 * z1 + c2 * z2 + c3 * z3) := by
    grind
  have hd : a1 * (b2 * c3 - b3 * c2) - a2 * (b1 * c3 - b3 * c1) + a3 * (b1 * c2 - b2 * c1) ≠ 0 := by
    intro h0
    rw [h0] at hdet
    have q : (a1 * x1 + a2 * x2 + a3 * x3) * (b1 * y1 + b2 * y2 + b3 * y3) * (c1 * z1 + c2 * z2 + c3 * z3) = 0 := by grind
    rcases Rat.mul_eq_zero.mp q with q | q
    · rcases Rat.mul_eq_zero.mp q with q | q
      · exact h1 q
      · exact h3 q
    · exact h5 q
  have e1 : (a1 * (b2 * c3 - b3 * c2) - a2 * (b1 * c3 - b3 * c1) + a3 * (b1 * c2 - b2 * c1)) * v1 = 0 := by grind
  have e2 : (a1 * (b2 * c3 - b3 * c2) - a2 * (b1 * c3 - b3 * c1) + a3 * (b1 * c2 - b2 * c1)) * v2 = 0 := by grind
  have e3 : (a1 * (b2 * c3 - b3 * c2) - a2 * (b1 * c3 - b3 * c1) + a3 * (b1 * c2 - b2 * c1)) * v3 = 0 := by grind
  have w1 := (Rat.mul_eq_zero.mp e1).resolve_left hd
  have w2 := (Rat.mul_eq_zero.mp e2).resolve_left hd
  have w3 := (Rat.mul_eq_zero.mp e3).resolve_left hd
  simp only [o3_, w1, w2, w3]
theorem Id_le : ∀ (B : List Wl_), Id_ B → B.length ≤ 3 := by
  intro B h
  match B, h with
  | [], _ => simp
  | [_], _ => simp
  | [_, _], _ => simp
  | [_, _, _], _ => simp
  | d :: c :: b :: a :: B, h =>
    exfalso
    -- the last four: cut the rest off
    have key : ∀ (X Y : List Wl_), Id_ (X ++ Y) → Id_ X := by
      intro X Y
      induction X with
      | nil => intro _; trivial
      | cons x X ih =>
        intro ⟨q1, u, q2, q3⟩
        exact ⟨ih q1, u, fun y hy => q2 y (List.mem_append_left _ hy), q3⟩
    have h4 : Id_ [d, c, b, a] := key [d, c, b, a] B h
    obtain ⟨h3, u, h5, h6⟩ := h4
    have hu : u = o3_ := Id_3 h3 u (h5 a (by simp)) (h5 b (by simp)) (h5 c (by simp))
    rw [hu, dr_o] at h6
    exact h6 rfl
theorem Id_es {B : List Wl_} (h : Id_ B) (hE : Es_ B []) : B.length = 3 := by
  have hl := Id_le B h
  match B, h, hE with
  | [], _, hE =>
    exfalso
    have := hE (1, 0, 0) (fun x hx => by cases hx) (fun x hx => by cases hx)
    simp [o3_] at this
  | [a], _, hE =>
    exfalso
    obtain ⟨u, h1, h2, -⟩ := perp_2 (nv_ a) (nv_ a)
    exact h1 (hE u (fun x hx => by rw [List.mem_singleton] at hx; subst hx; exact h2) (fun x hx => by cases hx))
  | [a, b], _, hE =>
    exfalso
    obtain ⟨u, h1, h2, h3⟩ := perp_2 (nv_ a) (nv_ b)
    exact h1 (hE u (fun x hx => by
      rcases List.mem_cons.mp hx with rfl | hx
      · exact h2
      · rw [List.mem_singleton] at hx; subst hx; exact h3) (fun x hx => by cases hx))
  | [_, _, _], _, _ => rfl
  | _ :: _ :: _ :: _ :: _, _, _ => simp at hl
/-- 1 for an odd number, -1 for an even one -/
def sg3_ (n : Nat) : Int := if n % 2 = 1 then 1 else -1
theorem sg3_s (n : Nat) : sg3_ (n + 1) = - sg3_ n := by
  unfold sg3_
  by_cases h : n % 2 = 1
  · rw [if_pos h, if_neg (by omega)]
  · rw [if_neg h, if_pos (by omega)]; rfl
/-- Zaslavsky's count of the bounded rooms -/
theorem zas_ : ∀ (A B : List Wl_), Id_ B → (∃ p, oB_ B p) → Es_ B A → cn_ B A [] = sg3_ B.length * sS_ A B := by
  intro A
  induction A with
  | nil =>
    intro B hI hp hE
    have h3 := Id_es hI hE
    simp only [cn_, sS_]
    rw [in_1 hp, in_1 (P := Bd_ B []) ⟨⟨hp.choose, hp.choose_spec, fun x hx => by cases hx⟩, fun ⟨u, h1, _, h2⟩ => h2 (hE u h1 (fun x hx => by cases hx))⟩, h3]
    rfl
  | cons w A ih =>
    intro B hI hp hE
    by_cases hw : ∃ u, pB_ B u ∧ dr_ w u ≠ 0
    · have hI' : Id_ (w :: B) := ⟨hI, hw⟩
      have hp' : ∃ p, oB_ (w :: B) p := by
        obtain ⟨p, hp⟩ := hp
        obtain ⟨u, h1, h2⟩ := hw
        refine ⟨ad_ p (- ev_ w p / dr_ w u) u, oB_cons.mpr ⟨?_, oB_ad hp h1⟩⟩
        rw [ev_ad, Rat.div_mul_cancel h2]; grind
      have hE' : Es_ (w :: B) A := fun u h1 h2 => hE u (pB_cons.mp h1).2 (pB_cons.mpr ⟨(pB_cons.mp h1).1, h2⟩)
      have e1 := ih (w :: B) hI' hp' hE'
      rw [List.length_cons, sg3_s] at e1
      by_cases hA : Es_ B A
      · have e2 := ih B hI hp hA
        have e3 := cut_all hw A [] (by simpa using hA)
        simp only [cn_, sS_]
        rw [e3, e1, e2]
        rw [Int.mul_sub, Int.neg_mul]; omega
      · have : ∃ u, pB_ B u ∧ pB_ A u ∧ u ≠ o3_ := by
          refine Classical.byContradiction (fun hn => hA (fun u h1 h2 => Classical.byContradiction (fun h3 => hn ⟨u, h1, h2, h3⟩)))
        obtain ⟨u, h1, h2, h3⟩ := this
        have h4 : dr_ w u ≠ 0 := fun h0 => h3 (hE u h1 (pB_cons.mpr ⟨h0, h2⟩))
        simp only [cn_, sS_]
        rw [← sS_free A B ⟨u, h1, h2, h4⟩]
        have hm1 : pB_ B (mu_ (-1) u) := fun x hx => by rw [dr_mu, h1 x hx]; grind
        have hm2 : pB_ A (mu_ (-1) u) := fun x hx => by rw [dr_mu, h2 x hx]; grind
        have hm3 : mu_ (-1) u ≠ o3_ := mu_ne (by decide) h3
        have hnil : ∀ v, rB_ [] v := fun v x hx => by cases hx
        rcases (show 0 < dr_ w u ∨ dr_ w u < 0 by grind) with h | h
        · rw [cn_free A [(w, true)] ⟨u, h1, h2, rB_cons.mpr ⟨r1_t.mpr (Rat.le_of_lt h), hnil _⟩, h3⟩, cn_free A [(w, false)] ⟨_, hm1, hm2, rB_cons.mpr ⟨r1_f.mpr (by show dr_ w _ ≤ 0; rw [dr_mu]; grind), hnil _⟩, hm3⟩]
          rw [Int.sub_self, Int.mul_zero]; rfl
        · rw [cn_free A [(w, false)] ⟨u, h1, h2, rB_cons.mpr ⟨r1_f.mpr (Rat.le_of_lt h), hnil _⟩, h3⟩, cn_free A [(w, true)] ⟨_, hm1, hm2, rB_cons.mpr ⟨r1_t.mpr (by show 0 ≤ dr_ w _; rw [dr_mu]; grind), hnil _⟩, hm3⟩]
          rw [Int.sub_self, Int.mul_zero]; rfl
    · have hc : ∀ u, pB_ B u → dr_ w u = 0 := fun u h1 => Classical.byContradiction (fun h2 => hw ⟨u, h1, h2⟩)
      obtain ⟨p0, hp0⟩ := hp
      have hconst : ∀ p, oB_ B p → ev_ w p = ev_ w p0 := by
        intro p hp
        have := hc (sb_ p p0) (fun x hx => by rw [dr_sb, hp x hx, hp0 x hx]; grind)
        rw [dr_sb] at this
        grind
      have hEA : Es_ B A := fun u h1 h2 => hE u h1 (pB_cons.mpr ⟨hc u h1, h2⟩)
      have e2 := ih B hI ⟨p0, hp0⟩ hEA
      by_cases h0 : ev_ w p0 = 0
      · have hsame : sS_ A (w :: B) = sS_ A B := by
          have gen : ∀ (A B' : List Wl_), sS_ A (w :: (B' ++ B)) = sS_ A (B' ++ B) := by
            intro A
            induction A with
            | nil =>
              intro B'
              refine in_cg ⟨fun ⟨p, hp⟩ => ⟨p, (oB_cons.mp hp).2⟩, fun ⟨p, hp⟩ => ⟨p, oB_cons.mpr ⟨?_, hp⟩⟩⟩
              rw [hconst p (fun x hx => hp x (List.mem_append_right _ hx)), h0]
            | cons a A ih2 =>
              intro B'
              simp only [sS_]
              have e5 : sS_ A (w :: a :: (B' ++ B)) = sS_ A (a :: (B' ++ B)) := ih2 (a :: B')
              rw [ih2 B', sS_cg A _ _ (mem_sw a w (B' ++ B)), e5]
          exact gen A []
        simp only [cn_, sS_]
        rw [hsame, cn_none A [(w, true)] (fun ⟨p, q1, q2⟩ => by
          have := s1_t.mp (sB_cons.mp q2).1
          rw [hconst p q1, h0] at this; grind), cn_none A [(w, false)] (fun ⟨p, q1, q2⟩ => by
          have := s1_f.mp (sB_cons.mp q2).1
          rw [hconst p q1, h0] at this; grind), Int.sub_self, Int.mul_zero]; rfl
      · have hn : sS_ A (w :: B) = 0 := sS_none A _ (fun ⟨p, hp⟩ => by
          have := oB_cons.mp hp
          exact h0 ((hconst p this.2).symm.trans this.1))
        have same : ∀ (b : Bool), s1_ b (ev_ w p0) → ∀ (A : List Wl_) (L : List (Wl_ × Bool)), cn_ B A ((w, b) :: L) = cn_ B A L := by
          intro b hb A
          induction A with
          | nil =>
            intro L
            refine in_cg ⟨fun h => ⟨Re_sub h.1, fun ⟨u, q1, q2, q3⟩ => h.2 ⟨u, q1, rB_cons.mpr ⟨?_, q2⟩, q3⟩⟩, fun h => ⟨?_, fun q => h.2 (Rc_sub q)⟩⟩
            · show r1_ b (dr_ w u)
              rw [hc u q1]
              cases b
              · rw [r1_f]; grind
              · rw [r1_t]; grind
            · obtain ⟨p, q1, q2⟩ := h.1
              exact ⟨p, q1, sB_cons.mpr ⟨by show s1_ b (ev_ w p); rw [hconst p q1]; exact hb, q2⟩⟩
          | cons a A ih2 =>
            intro L
            simp only [cn_]
            rw [cn_cg (fun _ => Iff.rfl) A _ _ (mem_sw (a, true) (w, b) L), cn_cg (fun _ => Iff.rfl) A _ _ (mem_sw (a, false) (w, b) L), ih2, ih2]
        simp only [cn_, sS_]
        rw [hn, Int.sub_zero, ← e2]
        rcases (show 0 < ev_ w p0 ∨ ev_ w p0 < 0 by grind) with h | h
        · rw [same true (s1_t.mpr h) A [], cn_none A [(w, false)] (fun ⟨p, q1, q2⟩ => by
            have := s1_f.mp (sB_cons.mp q2).1
            rw [hconst p q1] at this; grind)]; omega
        · rw [same false (s1_f.mpr h) A [], cn_none A [(w, true)] (fun ⟨p, q1, q2⟩ => by
            have := s1_t.mp (sB_cons.mp q2).1
            rw [hconst p q1] at this; grind)]; omega
end
section
/-! how many faces there are at most -/
def s3_ (s : Nat) (r : Rat) : Prop := if s = 0 then r < 0 else if s = 1 then r = 0 else 0 < r
def S3_ (L : List (Wl_ × Nat)) (p : V3_) : Prop := ∀ x ∈ L, s3_ x.2 (ev_ x.1 p)
def F3_ (B : List Wl_) (L : List (Wl_ × Nat)) : Prop := ∃ p, oB_ B p ∧ S3_ L p
theorem S3_cons {x : Wl_ × Nat} {L : List (Wl_ × Nat)} {p : V3_} : S3_ (x :: L) p ↔ s3_ x.2 (ev_ x.1 p) ∧ S3_ L p := List.forall_mem_cons
theorem s3_0 {r : Rat} : s3_ 0 r ↔ r < 0 := by simp [s3_]
theorem s3_1 {r : Rat} : s3_ 1 r ↔ r = 0 := by simp [s3_]
theorem s3_2 {r : Rat} : s3_ 2 r ↔ 0 < r := by simp [s3_]
noncomputable def iN_ (P : Prop) : Nat := @ite Nat P (Classical.propDecidable P) 1 0
theorem iN_1 {P : Prop} (h : P) : iN_ P = 1 := by unfold iN_; exact if_pos h
theorem iN_0 {P : Prop} (h : ¬ P) : iN_ P = 0 := by unfold iN_; exact if_neg h
theorem iN_cg {P Q : Prop} (h : P ↔ Q) : iN_ P = iN_ Q := by rw [propext h]
theorem iN_le (P : Prop) : iN_ P ≤ 1 := by
  by_cases h : P
  · rw [iN_1 h]; exact Nat.le_refl _
  · rw [iN_0 h]; omega
noncomputable def fc_ (B : List Wl_) : List Wl_ → List (Wl_ × Nat) → Nat
  | [], L => iN_ (F3_ B L)
  | w :: A, L => fc_ B A ((w, 0) :: L) + fc_ B A ((w, 1) :: L) + fc_ B A ((w, 2) :: L)
theorem F3_sub {B : List Wl_} {L : List (Wl_ × Nat)} {x : Wl_ × Nat} (h : F3_ B (x :: L)) : F3_ B L := by
  obtain ⟨p, h1, h2⟩ := h
  exact ⟨p, h1, (S3_cons.mp h2).2⟩
theorem F3_on {B : List Wl_} {L : List (Wl_ × Nat)} {w : Wl_} : F3_ B ((w, 1) :: L) ↔ F3_ (w :: B) L :=
  ⟨fun ⟨p, h1, h2⟩ => ⟨p, oB_cons.mpr ⟨s3_1.mp (S3_cons.mp h2).1, h1⟩, (S3_cons.mp h2).2⟩, fun ⟨p, h1, h2⟩ => ⟨p, (oB_cons.mp h1).2, S3_cons.mpr ⟨s3_1.mpr (oB_cons.mp h1).1, h2⟩⟩⟩
theorem s3_mix {s : Nat} {r r' t : Rat} (h : s3_ s r) (h' : s3_ s r') (h0 : 0 ≤ t) (h1 : t ≤ 1) : s3_ s (r + t * (r' - r)) := by
  unfold s3_ at *
  by_cases c0 : s = 0
  · rw [if_pos c0] at *
    exact s1_f.mp (s1_mix (b := false) (s1_f.mpr h) (s1_f.mpr h') h0 h1)
  · rw [if_neg c0] at *
    by_cases c1 : s = 1
    · rw [if_pos c1] at *; rw [h, h']; grind
    · rw [if_neg c1] at *
      exact s1_t.mp (s1_mix (b := true) (s1_t.mpr h) (s1_t.mpr h') h0 h1)
theorem F3_meet {B : List Wl_} {L : List (Wl_ × Nat)} {w : Wl_} (h : F3_ B ((w, 2) :: L)) (h' : F3_ B ((w, 0) :: L)) : F3_ (w :: B) L := by
  obtain ⟨p, h1, h2⟩ := h
  obtain ⟨q, h3, h4⟩ := h'
  rw [S3_cons] at h2 h4
  have a1 : 0 < ev_ w p := s3_2.mp h2.1
  have a2 : ev_ w q < 0 := s3_0.mp h4.1
  obtain ⟨t, ht, he⟩ := pd_ (a := ev_ w p) (b := ev_ w p - ev_ w q) a1 (by grind)
  have t1 : t ≤ 1 := by
    rcases Rat.le_total (a := t) (b := 1) with h | h
    · exact h
    · have := Rat.mul_nonneg (show 0 ≤ t - 1 by grind) (show 0 ≤ ev_ w p - ev_ w q by grind)
      grind
  refine ⟨ad_ p t (sb_ q p), oB_cons.mpr ⟨?_, oB_mix h1 h3⟩, fun x hx => ?_⟩
  · rw [ev_ad, dr_sb]; grind
  · rw [ev_ad, dr_sb]
    exact s3_mix (h2.2 x hx) (h4.2 x hx) (by grind) t1
theorem fc_1 (B : List Wl_) (L : List (Wl_ × Nat)) (w : Wl_) : iN_ (F3_ B ((w, 0) :: L)) + iN_ (F3_ B ((w, 1) :: L)) + iN_ (F3_ B ((w, 2) :: L)) ≤ iN_ (F3_ B L) + 2 * iN_ (F3_ (w :: B) L) := by
  have l0 := iN_le (F3_ B ((w, 0) :: L))
  have l1 := iN_le (F3_ B ((w, 1) :: L))
  have l2 := iN_le (F3_ B ((w, 2) :: L))
  by_cases h : F3_ (w :: B) L
  · rw [iN_1 h, iN_1 (F3_sub (F3_on.mpr h))]; omega
  · rw [iN_0 (P := F3_ B ((w, 1) :: L)) (fun q => h (F3_on.mp q))]
    by_cases h0 : F3_ B ((w, 0) :: L)
    · rw [iN_0 (P := F3_ B ((w, 2) :: L)) (fun q => h (F3_meet q h0)), iN_1 (F3_sub h0)]; omega
    · rw [iN_0 h0]
      by_cases h2 : F3_ B ((w, 2) :: L)
      · rw [iN_1 (F3_sub h2)]; omega
      · rw [iN_0 h2]; omega
theorem fc_c (B : List Wl_) (L : List (Wl_ × Nat)) (w : Wl_) (hc : ∀ u, pB_ B u → dr_ w u = 0) : iN_ (F3_ B ((w, 0) :: L)) + iN_ (F3_ B ((w, 1) :: L)) + iN_ (F3_ B ((w, 2) :: L)) ≤ iN_ (F3_ B L) := by
  have same : ∀ p q, oB_ B p → oB_ B q → ev_ w p = ev_ w q := by
    intro p q hp hq
    have := hc (sb_ p q) (fun x hx => by rw [dr_sb, hp x hx, hq x hx]; grind)
    rw [dr_sb] at this
    grind
  by_cases h0 : F3_ B ((w, 0) :: L)
  · obtain ⟨p, h1, h2⟩ := id h0
    have e0 : ev_ w p < 0 := s3_0.mp (S3_cons.mp h2).1
    rw [iN_1 h0, iN_1 (F3_sub h0), iN_0 (P := F3_ B ((w, 1) :: L)) (fun ⟨q, g1, g2⟩ => by
      have := s3_1.mp (S3_cons.mp g2).1
      have := same p q h1 g1
      grind), iN_0 (P := F3_ B ((w, 2) :: L)) (fun ⟨q, g1, g2⟩ => by
      have := s3_2.mp (S3_cons.mp g2).1
      have := same p q h1 g1
      grind)]
    omega
  · rw [iN_0 h0]
    by_cases h1 : F3_ B ((w, 1) :: L)
    · obtain ⟨p, k1, k2⟩ := id h1
      have e0 : ev_ w p = 0 := s3_1.mp (S3_cons.mp k2).1
      rw [iN_1 h1, iN_1 (F3_sub h1), iN_0 (P := F3_ B ((w, 2) :: L)) (fun ⟨q, g1, g2⟩ => by
        have := s3_2.mp (S3_cons.mp g2).1
        have := same p q k1 g1
        grind)]
      omega
    · rw [iN_0 h1]
      by_cases h2 : F3_ B ((w, 2) :: L)
      · rw [iN_1 h2, iN_1 (F3_sub h2)]; omega
      · rw [iN_0 h2]; omega
theorem F3_cg {B B' : List Wl_} {L L' : List (Wl_ × Nat)} (hB : ∀ x, x ∈ B ↔ x ∈ B') (hL : ∀ x, x ∈ L ↔ x ∈ L') : F3_ B L ↔ F3_ B' L' :=
  ⟨fun ⟨p, h1, h2⟩ => ⟨p, fun x hx => h1 x ((hB x).mpr hx), fun x hx => h2 x ((hL x).mpr hx)⟩, fun ⟨p, h1, h2⟩ => ⟨p, fun x hx => h1 x ((hB x).mp hx), fun x hx => h2 x ((hL x).mp hx)⟩⟩
theorem fc_cg {B : List Wl_} : ∀ (A : List Wl_) (L L' : List (Wl_ × Nat)), (∀ x, x ∈ L ↔ x ∈ L') → fc_ B A L = fc_ B A L' := by
  intro A
  induction A with
  | nil => intro L L' h; exact iN_cg (F3_cg (fun _ => Iff.rfl) h)
  | cons w A ih => intro L L' h; simp only [fc_]; rw [ih _ _ (mem_cg (w, 0) h), ih _ _ (mem_cg (w, 1) h), ih _ _ (mem_cg (w, 2) h)]
theorem fc_cut {B : List Wl_} {w : Wl_} : ∀ (A : List Wl_) (L : List (Wl_ × Nat)), fc_ B A ((w, 0) :: L) + fc_ B A ((w, 1) :: L) + fc_ B A ((w, 2) :: L) ≤ fc_ B A L + 2 * fc_ (w :: B) A L := by
  intro A
  induction A with
  | nil => intro L; exact fc_1 B L w
  | cons v A ih =>
    intro L
    have e0 := ih ((v, 0) :: L)
    have e1 := ih ((v, 1) :: L)
    have e2 := ih ((v, 2) :: L)
    simp only [fc_]
    have sw : ∀ i j : Nat, fc_ B A ((v, i) :: (w, j) :: L) = fc_ B A ((w, j) :: (v, i) :: L) := fun i j => fc_cg A _ _ (mem_sw (v, i) (w, j) L)
    rw [sw 0 0, sw 0 1, sw 0 2, sw 1 0, sw 1 1, sw 1 2, sw 2 0, sw 2 1, sw 2 2]
    omega
theorem fc_cutc {B : List Wl_} {w : Wl_} (hc : ∀ u, pB_ B u → dr_ w u = 0) : ∀ (A : List Wl_) (L : List (Wl_ × Nat)), fc_ B A ((w, 0) :: L) + fc_ B A ((w, 1) :: L) + fc_ B A ((w, 2) :: L) ≤ fc_ B A L := by
  intro A
  induction A with
  | nil => intro L; exact fc_c B L w hc
  | cons v A ih =>
    intro L
    have e0 := ih ((v, 0) :: L)
    have e1 := ih ((v, 1) :: L)
    have e2 := ih ((v, 2) :: L)
    simp only [fc_]
    have sw : ∀ i j : Nat, fc_ B A ((v, i) :: (w, j) :: L) = fc_ B A ((w, j) :: (v, i) :: L) := fun i j => fc_cg A _ _ (mem_sw (v, i) (w, j) L)
    rw [sw 0 0, sw 0 1, sw 0 2, sw 1 0, sw 1 1, sw 1 2, sw 2 0, sw 2 1, sw 2 2]
    omega
/-- the most that m walls make of a flat of n numbers -/
def ph_ : Nat → Nat → Nat
  | _, 0 => 1
  | 0, m + 1 => ph_ 0 m
  | n + 1, m + 1 => ph_ (n + 1) m + 2 * ph_ n m
theorem ph_s (n m : Nat) : ph_ n m ≤ ph_ n (m + 1) := by
  cases n with
  | zero => simp only [ph_]; exact Nat.le_refl _
  | succ n => simp only [ph_]; omega
theorem fc_le : ∀ (A B : List Wl_), Id_ B → fc_ B A [] ≤ ph_ (3 - B.length) A.length := by
  intro A
  induction A with
  | nil => intro B _; simp only [fc_, List.length_nil, ph_]; exact iN_le _
  | cons w A ih =>
    intro B hI
    by_cases hw : ∃ u, pB_ B u ∧ dr_ w u ≠ 0
    · have hI' : Id_ (w :: B) := ⟨hI, hw⟩
      have hl := Id_le _ hI'
      rw [List.length_cons] at hl
      have e1 := ih B hI
      have e2 := ih (w :: B) hI'
      have e3 := fc_cut (B := B) (w := w) A []
      rw [List.length_cons] at e2
      obtain ⟨k, hk⟩ : ∃ k, 3 - B.length = k + 1 := ⟨2 - B.length, by omega⟩
      rw [show 3 - (B.length + 1) = k by omega] at e2
      rw [hk] at e1 ⊢
      simp only [fc_, List.length_cons, ph_]
      omega
    · have hc : ∀ u, pB_ B u → dr_ w u = 0 := fun u h1 => Classical.byContradiction (fun h2 => hw ⟨u, h1, h2⟩)
      have e1 := ih B hI
      have e3 := fc_cutc hc A []
      have e4 := ph_s (3 - B.length) A.length
      simp only [fc_, List.length_cons]
      omega
theorem ph_38 : ph_ 3 8 = 577 := by decide
theorem ph_mono (n : Nat) : ∀ k m : Nat, ph_ n m ≤ ph_ n (m + k) := by
  intro k
  induction k with
  | zero => intro m; exact Nat.le_refl _
  | succ k ih => intro m; exact Nat.le_trans (ih m) (ph_s n (m + k))
theorem fc_577 (A : List Wl_) (h : A.length ≤ 8) : fc_ [] A [] ≤ 577 := by
  have e1 := fc_le A [] trivial
  have e2 := ph_mono 3 (8 - A.length) A.length
  rw [show A.length + (8 - A.length) = 8 by omega, ph_38] at e2
  exact Nat.le_trans e1 e2
end
section
/-! every face is reached: corners, and small ways along lines -/
def cx_ (x y : Wl_) : V3_ := ((x.2.1 : Rat) * y.2.2.1 - (x.2.2.1 : Rat) * y.2.1, (x.2.2.1 : Rat) * y.1 - (x.1 : Rat) * y.2.2.1, (x.1 : Rat) * y.2.1 - (x.2.1 : Rat) * y.1)
/-- the determinant of three normals -/
def dt_ (x y z : Wl_) : Rat := dr_ z (cx_ x y)
theorem dr_cx1 (x y : Wl_) : dr_ x (cx_ x y) = 0 := by simp only [dr_, cx_]; grind
theorem dr_cx2 (x y : Wl_) : dr_ y (cx_ x y) = 0 := by simp only [dr_, cx_]; grind
theorem dt_rot (x y z : Wl_) : dr_ x (cx_ y z) = dt_ x y z := by simp only [dt_, dr_, cx_]; grind
theorem dt_rot2 (x y z : Wl_) : dr_ y (cx_ x z) = - dt_ x y z := by simp only [dt_, dr_, cx_]; grind
def sg_ (r : Rat) : Nat := if r < 0 then 0 else if r = 0 then 1 else 2
theorem sg_neg {r : Rat} (h : r < 0) : sg_ r = 0 := by simp [sg_, h]
theorem sg_zero {r : Rat} (h : r = 0) : sg_ r = 1 := by subst h; simp [sg_]
theorem sg_pos {r : Rat} (h : 0 < r) : sg_ r = 2 := by
  unfold sg_
  rw [if_neg (by grind), if_neg (by grind)]
theorem sg_eq0 {r : Rat} : sg_ r = 0 ↔ r < 0 := ⟨fun h => by
  rcases (show r < 0 ∨ r = 0 ∨ 0 < r by grind) with q | q | q
  · exact q
  · rw [sg_zero q] at h; cases h
  · rw [sg_pos q] at h; exact absurd h (by decide), sg_neg⟩
theorem sg_eq1 {r : Rat} : sg_ r = 1 ↔ r = 0 := ⟨fun h => by
  rcases (show r < 0 ∨ r = 0 ∨ 0 < r by grind) with q | q | q
  · rw [sg_neg q] at h; cases h
  · exact q
  · rw [sg_pos q] at h; exact absurd h (by decide), sg_zero⟩
theorem sg_eq2 {r : Rat} : sg_ r = 2 ↔ 0 < r := ⟨fun h => by
  rcases (show r < 0 ∨ r = 0 ∨ 0 < r by grind) with q | q | q
  · rw [sg_neg q] at h; cases h
  · rw [sg_zero q] at h; cases h
  · exact q, sg_pos⟩
theorem sg_scale {r t : Rat} (ht : 0 < t) : sg_ (t * r) = sg_ r := by
  rcases (show r < 0 ∨ r = 0 ∨ 0 < r by grind) with q | q | q
  · have := Rat.mul_pos ht (show 0 < -r by grind)
    rw [sg_neg q, sg_neg (by grind)]
  · rw [q, Rat.mul_zero]
  · rw [sg_pos q, sg_pos (Rat.mul_pos ht q)]
theorem sg_s3 {r : Rat} {s : Nat} (h : s ≤ 2) : sg_ r = s ↔ s3_ s r := by
  rcases (show s = 0 ∨ s = 1 ∨ s = 2 by omega) with rfl | rfl | rfl
  · rw [sg_eq0, s3_0]
  · rw [sg_eq1, s3_1]
  · rw [sg_eq2, s3_2]
/-- two places of one row -/
def RE_ (A : List Wl_) (p q : V3_) : Prop := ∀ x ∈ A, sg_ (ev_ x p) = sg_ (ev_ x q)
theorem RE_refl (A : List Wl_) (p : V3_) : RE_ A p p := fun _ _ => rfl
theorem RE_symm {A : List Wl_} {p q : V3_} (h : RE_ A p q) : RE_ A q p := fun x hx => (h x hx).symm
theorem RE_trans {A : List Wl_} {p q r : V3_} (h : RE_ A p q) (h' : RE_ A q r) : RE_ A p r := fun x hx => (h x hx).trans (h' x hx)
def On_ (A : List Wl_) (p : V3_) : Wl_ → Prop := fun x => x ∈ A ∧ ev_ x p = 0
theorem On_cg {A : List Wl_} {p q : V3_} (h : RE_ A p q) (x : Wl_) : On_ A p x ↔ On_ A q x :=
  ⟨fun ⟨h1, h2⟩ => ⟨h1, sg_eq1.mp ((h x h1).symm.trans (sg_eq1.mpr h2))⟩, fun ⟨h1, h2⟩ => ⟨h1, sg_eq1.mp ((h x h1).trans (sg_eq1.mpr h2))⟩⟩
def R2_ (X : Wl_ → Prop) : Prop := ∃ x y, X x ∧ X y ∧ cx_ x y ≠ o3_
def R3_ (X : Wl_ → Prop) : Prop := ∃ x y z, X x ∧ X y ∧ X z ∧ dt_ x y z ≠ 0
noncomputable def rk_ (X : Wl_ → Prop) : Nat := @ite Nat (R3_ X) (Classical.propDecidable _) 3 (@ite Nat (R2_ X) (Classical.propDecidable _) 2 (@ite Nat (∃ x, X x) (Classical.propDecidable _) 1 0))
theorem rk_3 {X : Wl_ → Prop} (h : R3_ X) : rk_ X = 3 := by unfold rk_; exact if_pos h
theorem rk_2 {X : Wl_ → Prop} (h : R2_ X) (h3 : ¬ R3_ X) : rk_ X = 2 := by unfold rk_; rw [if_neg h3, if_pos h]
theorem rk_1 {X : Wl_ → Prop} (h : ∃ x, X x) (h2 : ¬ R2_ X) (h3 : ¬ R3_ X) : rk_ X = 1 := by unfold rk_; rw [if_neg h3, if_neg h2, if_pos h]
theorem rk_0 {X : Wl_ → Prop} (h : ¬ ∃ x, X x) (h2 : ¬ R2_ X) (h3 : ¬ R3_ X) : rk_ X = 0 := by unfold rk_; rw [if_neg h3, if_neg h2, if_neg h]
theorem rk_cg {X Y : Wl_ → Prop} (h : ∀ x, X x ↔ Y x) : rk_ X = rk_ Y := by
  have : X = Y := funext (fun x => propext (h x))
  rw [this]
theorem dt_0 {x y : Wl_} (h : cx_ x y = o3_) (z : Wl_) : dt_ x y z = 0 := by rw [dt_, h, dr_o]
theorem R3_R2 {X : Wl_ → Prop} (h : R3_ X) : R2_ X := by
  obtain ⟨x, y, z, h1, h2, h3, h4⟩ := h
  exact ⟨x, y, h1, h2, fun h0 => h4 (dt_0 h0 z)⟩
theorem R2_ex {X : Wl_ → Prop} (h : R2_ X) : ∃ x, X x := by obtain ⟨x, _, h1, _⟩ := h; exact ⟨x, h1⟩
theorem rk_le3 (X : Wl_ → Prop) : rk_ X ≤ 3 := by
  by_cases h3 : R3_ X
  · rw [rk_3 h3]; exact Nat.le_refl _
  · by_cases h2 : R2_ X
    · rw [rk_2 h2 h3]; omega
    · by_cases h1 : ∃ x, X x
      · rw [rk_1 h1 h2 h3]; omega
      · rw [rk_0 h1 h2 h3]; omega
/-- what is across both of two crossing walls is along their line -/
theorem along_cx {x y : Wl_} {u : V3_} (h1 : dr_ x u = 0) (h2 : dr_ y u = 0) (hc : cx_ x y ≠ o3_) : ∃ t : Rat, u = mu_ t (cx_ x y) := by
  obtain ⟨a1, a2, a3, e⟩ := x
  obtain ⟨b1, b2, b3, f⟩ := y
  obtain ⟨u1, u2, u3⟩ := u
  simp only [dr_, cx_, mu_, o3_, ne_eq, Prod.mk.injEq, not_and] at *
  generalize (a1 : Rat) = a1 at *
  generalize (a2 : Rat) = a2 at *
  generalize (a3 : Rat) = a3 at *
  generalize (b1 : Rat) = b1 at *
  generalize (b2 : Rat) = b2 at *
  generalize (b3 : Rat) = b3 at *
  by_cases c1 : a2 * b3 - a3 * b2 = 0
  · by_cases c2 : a3 * b1 - a1 * b3 = 0
    · have c3 := hc c1 c2
      refine ⟨u3 / (a1 * b2 - a2 * b1), ?_, ?_, ?_⟩
      · have : u1 * (a1 * b2 - a2 * b1) = 0 := by grind
        rw [c1, Rat.mul_zero]; exact (Rat.mul_eq_zero.mp this).resolve_right c3
      · have : u2 * (a1 * b2 - a2 * b1) = 0 := by grind
        rw [c2, Rat.mul_zero]; exact (Rat.mul_eq_zero.mp this).resolve_right c3
      · exact (Rat.div_mul_cancel c3).symm
    · refine ⟨u2 / (a3 * b1 - a1 * b3), ?_, (Rat.div_mul_cancel c2).symm, ?_⟩
      · have : u1 * (a3 * b1 - a1 * b3) = 0 := by grind
        rw [c1, Rat.mul_zero]; exact (Rat.mul_eq_zero.mp this).resolve_right c2
      · have h3 : (u3 - u2 / (a3 * b1 - a1 * b3) * (a1 * b2 - a2 * b1)) * (a3 * b1 - a1 * b3) = 0 := by
          have := Rat.div_mul_cancel (a := u2) c2
          grind
        have := (Rat.mul_eq_zero.mp h3).resolve_right c2
        grind
  · refine ⟨u1 / (a2 * b3 - a3 * b2), (Rat.div_mul_cancel c1).symm, ?_, ?_⟩
    · have h3 : (u2 - u1 / (a2 * b3 - a3 * b2) * (a3 * b1 - a1 * b3)) * (a2 * b3 - a3 * b2) = 0 := by
        have := Rat.div_mul_cancel (a := u1) c1
        grind
      have := (Rat.mul_eq_zero.mp h3).resolve_right c1
      grind
    · have h3 : (u3 - u1 / (a2 * b3 - a3 * b2) * (a1 * b2 - a2 * b1)) * (a2 * b3 - a3 * b2) = 0 := by
        have := Rat.div_mul_cancel (a := u1) c1
        grind
      have := (Rat.mul_eq_zero.mp h3).resolve_right c1
      grind
/-- what is across one of the normals, in a set where all are parallel, is across all -/
theorem par_all {X : Wl_ → Prop} (h2 : ¬ R2_ X) {x y : Wl_} (hx : X x) (hy : X y) (hn : nv_ x ≠ o3_) {u : V3_} (hu : dr_ x u = 0) : dr_ y u = 0 := by
  have hc : cx_ x y = o3_ := Classical.byContradiction (fun h => h2 ⟨x, y, hx, hy, h⟩)
  obtain ⟨a1, a2, a3, e⟩ := x
  obtain ⟨b1, b2, b3, f⟩ := y
  obtain ⟨u1, u2, u3⟩ := u
  simp only [dr_, cx_, nv_, o3_, ne_eq, Prod.mk.injEq, not_and] at *
  generalize (a1 : Rat) = a1 at *
  generalize (a2 : Rat) = a2 at *
  generalize (a3 : Rat) = a3 at *
  generalize (b1 : Rat) = b1 at *
  generalize (b2 : Rat) = b2 at *
  generalize (b3 : Rat) = b3 at *
  obtain ⟨c1, c2, c3⟩ := hc
  by_cases q1 : a1 = 0
  · by_cases q2 : a2 = 0
    · have q3 := hn q1 q2
      have : (b1 * u1 + b2 * u2 + b3 * u3) * a3 = 0 := by grind
      exact (Rat.mul_eq_zero.mp this).resolve_right q3
    · have : (b1 * u1 + b2 * u2 + b3 * u3) * a2 = 0 := by grind
      exact (Rat.mul_eq_zero.mp this).resolve_right q2
  · have : (b1 * u1 + b2 * u2 + b3 * u3) * a1 = 0 := by grind
    exact (Rat.mul_eq_zero.mp this).resolve_right q1
/-- what is across two crossing ones, in a set where no three cross, is across all -/
theorem flat_all {X : Wl_ → Prop} (h3 : ¬ R3_ X) {x y z : Wl_} (hx : X x) (hy : X y) (hz : X z) (hc : cx_ x y ≠ o3_) {u : V3_} (hu : dr_ x u = 0) (hv : dr_ y u = 0) : dr_ z u = 0 := by
  obtain ⟨t, rfl⟩ := along_cx hu hv hc
  have : dt_ x y z = 0 := Classical.byContradiction (fun h => h3 ⟨x, y, z, hx, hy, hz, h⟩)
  rw [dr_mu]
  show t * dt_ x y z = 0
  rw [this, Rat.mul_zero]
/-- a wall in the place of one of three that cross -/
theorem swap_in {X : Wl_ → Prop} (h3 : R3_ X) {x : Wl_} (hn : nv_ x ≠ o3_) : ∃ y z, X y ∧ X z ∧ dt_ x y z ≠ 0 := by
  obtain ⟨a, b, c, ha, hb, hc, hd⟩ := h3
  refine Classical.byContradiction (fun hno => hn ?_)
  have q : ∀ y z, X y → X z → dt_ x y z = 0 := fun y z hy hz => Classical.byContradiction (fun h => hno ⟨y, z, hy, hz, h⟩)
  have q1 := q b c hb hc
  have q2 := q c a hc ha
  have q3 := q a b ha hb
  clear q hno ha hb hc
  obtain ⟨x1, x2, x3, e⟩ := x
  obtain ⟨a1, a2, a3, e1⟩ := a
  obtain ⟨b1, b2, b3, e2⟩ := b
  obtain ⟨c1, c2, c3, e3⟩ := c
  simp only [dt_, dr_, cx_, nv_, o3_, Prod.mk.injEq] at *
  generalize (x1 : Rat) = x1 at *
  generalize (x2 : Rat) = x2 at *
  generalize (x3 : Rat) = x3 at *
  generalize (a1 : Rat) = a1 at *
  generalize (a2 : Rat) = a2 at *
  generalize (a3 : Rat) = a3 at *
  generalize (b1 : Rat) = b1 at *
  generalize (b2 : Rat) = b2 at *
  generalize (b3 : Rat) = b3 at *
  generalize (c1 : Rat) = c1 at *
  generalize (c2 : Rat) = c2 at *
  generalize (c3 : Rat) = c3 at *
  have e1 : x1 * (c1 * (a2 * b3 - a3 * b2) + c2 * (a3 * b1 - a1 * b3) + c3 * (a1 * b2 - a2 * b1)) = 0 := by grind
  have e2 : x2 * (c1 * (a2 * b3 - a3 * b2) + c2 * (a3 * b1 - a1 * b3) + c3 * (a1 * b2 - a2 * b1)) = 0 := by grind
  have e3 : x3 * (c1 * (a2 * b3 - a3 * b2) + c2 * (a3 * b1 - a1 * b3) + c3 * (a1 * b2 - a2 * b1)) = 0 := by grind
  exact ⟨(Rat.mul_eq_zero.mp e1).resolve_right hd, (Rat.mul_eq_zero.mp e2).resolve_right hd, (Rat.mul_eq_zero.mp e3).resolve_right hd⟩
/-- a third one beside two that cross -/
theorem third_in {X : Wl_ → Prop} (h3 : R3_ X) {x y : Wl_} (hc : cx_ x y ≠ o3_) : ∃ z, X z ∧ dt_ x y z ≠ 0 := by
  obtain ⟨a, b, c, ha, hb, hc', hd⟩ := h3
  refine Classical.byContradiction (fun hno => hc ?_)
  have q : ∀ z, X z → dr_ z (cx_ x y) = 0 := fun z hz => Classical.byContradiction (fun h => hno ⟨z, hz, h⟩)
  exact Classical.byContradiction (fun hne => by
    have q1 := q a ha
    have q2 := q b hb
    have q3 := q c hc'
    have hcab : cx_ a b ≠ o3_ := fun h0 => hd (dt_0 h0 c)
    obtain ⟨t, ht⟩ := along_cx q1 q2 hcab
    rw [ht, dr_mu] at q3
    rcases Rat.mul_eq_zero.mp q3 with h | h
    · apply hne
      rw [ht, h]
      simp only [mu_, o3_, Rat.zero_mul]
    · exact hd h)
/-- the corner of three walls -/
def cor_ (x y z : Wl_) : V3_ :=
  ((x.2.2.2 * (cx_ y z).1 + y.2.2.2 * (cx_ z x).1 + z.2.2.2 * (cx_ x y).1) / dt_ x y z,
   (x.2.2.2 * (cx_ y z).2.1 + y.2.2.2 * (cx_ z x).2.1 + z.2.2.2 * (cx_ x y).2.1) / dt_ x y z,
   (x.2.2.2 * (cx_ y z).2.2 + y.2.2.2 * (cx_ z x).2.2 + z.2.2.2 * (cx_ x y).2.2) / dt_ x y z)
theorem cor_dr (x y z w : Wl_) (h : dt_ x y z ≠ 0) : dr_ w (cor_ x y z) * dt_ x y z = x.2.2.2 * dr_ w (cx_ y z) + y.2.2.2 * dr_ w (cx_ z x) + z.2.2.2 * dr_ w (cx_ x y) := by
  have c1 := Rat.div_mul_cancel (a := (x.2.2.2 * (cx_ y z).1 + y.2.2.2 * (cx_ z x).1 + z.2.2.2 * (cx_ x y).1)) h
  have c2 := Rat.div_mul_cancel (a := (x.2.2.2 * (cx_ y z).2.1 + y.2.2.2 * (cx_ z x).2.1 + z.2.2.2 * (cx_ x y).2.1)) h
  have c3 := Rat.div_mul_cancel (a := (x.2.2.2 * (cx_ y z).2.2 + y.2.2.2 * (cx_ z x).2.2 + z.2.2.2 * (cx_ x y).2.2)) h
  simp only [cor_, dr_] at *
  grind
theorem cor_on (x y z : Wl_) (h : dt_ x y z ≠ 0) : ev_ x (cor_ x y z) = 0 ∧ ev_ y (cor_ x y z) = 0 ∧ ev_ z (cor_ x y z) = 0 := by
  have k : ∀ w : Wl_, (x.2.2.2 * dr_ w (cx_ y z) + y.2.2.2 * dr_ w (cx_ z x) + z.2.2.2 * dr_ w (cx_ x y) : Rat) = w.2.2.2 * dt_ x y z → ev_ w (cor_ x y z) = 0 := by
    intro w hw
    have := cor_dr x y z w h
    have h2 : ev_ w (cor_ x y z) * dt_ x y z = 0 := by
      unfold ev_; grind
    exact (Rat.mul_eq_zero.mp h2).resolve_right h
  refine ⟨k x ?_, k y ?_, k z ?_⟩
  · rw [dr_cx1, dr_cx2, dt_rot]; grind
  · rw [dr_cx1, dr_cx2, show dr_ y (cx_ z x) = dt_ x y z by simp only [dt_, dr_, cx_]; grind]; grind
  · rw [dr_cx1, dr_cx2]; unfold dt_; grind
theorem min_ex {α : Type} (f : α → Rat) (P : α → Prop) : ∀ L : List α, (∃ x ∈ L, P x) → ∃ x ∈ L, P x ∧ ∀ y ∈ L, P y → f x ≤ f y := by
  intro L
  induction L with
  | nil => intro ⟨x, hx, _⟩; cases hx
  | cons a L ih =>
    intro ⟨x, hx, hp⟩
    by_cases hL : ∃ x ∈ L, P x
    · obtain ⟨m, hm, h1, h2⟩ := ih hL
      by_cases ha : P a ∧ f a ≤ f m
      · refine ⟨a, List.mem_cons_self, ha.1, ?_⟩
        intro y hy hpy
        rcases List.mem_cons.mp hy with rfl | hy
        · exact Rat.le_refl
        · exact Rat.le_trans ha.2 (h2 y hy hpy)
      · refine ⟨m, List.mem_cons_of_mem _ hm, h1, ?_⟩
        intro y hy hpy
        rcases List.mem_cons.mp hy with rfl | hy
        · exact Rat.le_of_lt (Rat.not_le.mp (fun h => ha ⟨hpy, h⟩))
        · exact h2 y hy hpy
    · rcases List.mem_cons.mp hx with rfl | hx
      · refine ⟨x, List.mem_cons_self, hp, ?_⟩
        intro y hy hpy
        rcases List.mem_cons.mp hy with rfl | hy
        · exact Rat.le_refl
        · exact absurd ⟨y, hy, hpy⟩ hL
      · exact absurd ⟨x, hx, hp⟩ hL
end
section
/-! a little aside, so that no two walls are met at once by chance -/
def nn_ (v : V3_) (p : V3_) (x y : Wl_) : Rat := ev_ x p * dr_ y v - ev_ y p * dr_ x v
def bb_ (v u : V3_) (x y : Wl_) : Rat := dr_ x u * dr_ y v - dr_ y u * dr_ x v
theorem aside {A : List Wl_} (p v u : V3_) (hS : ∀ x ∈ A, ev_ x p = 0 → dr_ x u = 0) :
    ∃ p1, RE_ A p1 p ∧ ∀ x ∈ A, ∀ y ∈ A, nn_ v p1 x y = 0 → nn_ v p x y = 0 ∧ bb_ v u x y = 0 := by
  have e1 : Ev_ (fun t => ∀ x ∈ A, sg_ (ev_ x (ad_ p t u)) = sg_ (ev_ x p)) := by
    refine Ev_all A (fun x t => sg_ (ev_ x (ad_ p t u)) = sg_ (ev_ x p)) ?_
    intro x hx
    rcases (show ev_ x p < 0 ∨ ev_ x p = 0 ∨ 0 < ev_ x p by grind) with h | h | h
    · refine Ev_mono (Ev_lin (a := - ev_ x p) (- dr_ x u) (by grind)) (fun t _ ht => ?_)
      rw [sg_neg h, ev_ad]; exact sg_neg (by grind)
    · refine Ev_true (fun t _ => ?_)
      rw [ev_ad, hS x hx h, Rat.mul_zero]; congr 1; grind
    · refine Ev_mono (Ev_lin (dr_ x u) h) (fun t _ ht => ?_)
      rw [sg_pos h, ev_ad]; exact sg_pos ht
  have e2 : Ev_ (fun t => ∀ x ∈ A, ∀ y ∈ A, nn_ v p x y + t * bb_ v u x y = 0 → nn_ v p x y = 0 ∧ bb_ v u x y = 0) := by
    refine Ev_all A _ (fun x _ => ?_)
    exact Ev_all A (fun y t => nn_ v p x y + t * bb_ v u x y = 0 → nn_ v p x y = 0 ∧ bb_ v u x y = 0) (fun y _ => Ev_avoid _ _)
  obtain ⟨t, _, h1, h2⟩ := Ev_get (Ev_and e1 e2)
  refine ⟨ad_ p t u, h1, fun x hx y hy h0 => h2 x hx y hy ?_⟩
  rw [← h0]
  simp only [nn_, bb_, ev_ad]
  grind
/-- the first walls that are met on the way along v, or back -/
theorem first_hit {A : List Wl_} (p v : V3_) (hS : ∀ x ∈ A, ev_ x p = 0 → dr_ x v = 0) (hw : ∃ w ∈ A, dr_ w v ≠ 0) :
    ∃ (c t : Rat), (c = 1 ∨ c = -1) ∧ 0 < t ∧ (∃ x ∈ A, dr_ x v ≠ 0 ∧ ev_ x (ad_ p (c * t) v) = 0) ∧
      (∀ x ∈ A, ev_ x (ad_ p (c * t) v) ≠ 0 → sg_ (ev_ x (ad_ p (c * t) v)) = sg_ (ev_ x p)) := by
  have main : ∀ c : Rat, (c = 1 ∨ c = -1) → (∃ x ∈ A, c * dr_ x v ≠ 0 ∧ 0 < - ev_ x p / (c * dr_ x v)) → ∃ t : Rat, 0 < t ∧ (∃ x ∈ A, dr_ x v ≠ 0 ∧ ev_ x (ad_ p (c * t) v) = 0) ∧
      (∀ x ∈ A, ev_ x (ad_ p (c * t) v) ≠ 0 → sg_ (ev_ x (ad_ p (c * t) v)) = sg_ (ev_ x p)) := by
    intro c hc hex
    obtain ⟨x0, hx0, ⟨hd0, ht0⟩, hmin⟩ := min_ex (fun x => - ev_ x p / (c * dr_ x v)) (fun x => c * dr_ x v ≠ 0 ∧ 0 < - ev_ x p / (c * dr_ x v)) A hex
    refine ⟨- ev_ x0 p / (c * dr_ x0 v), ht0, ⟨x0, hx0, ?_, ?_⟩, ?_⟩
    · intro h; apply hd0; rw [h, Rat.mul_zero]
    · rw [ev_ad]
      have := Rat.div_mul_cancel (a := - ev_ x0 p) hd0
      grind
    · intro x hx hne
      generalize ht : - ev_ x0 p / (c * dr_ x0 v) = t at *
      rw [ev_ad] at *
      by_cases hd : c * dr_ x v = 0
      · have : c * t * dr_ x v = 0 := by
          have : t * (c * dr_ x v) = 0 := by rw [hd, Rat.mul_zero]
          grind
        rw [this, Rat.add_zero]
      · have hc2 := Rat.div_mul_cancel (a := - ev_ x p) hd
        generalize hs : - ev_ x p / (c * dr_ x v) = s at *
        generalize hdd : c * dr_ x v = d at *
        -- ev x p = - s d, and after t it is (t - s) d
        have e1 : ev_ x p = - (s * d) := by grind
        have e2 : ev_ x p + c * t * dr_ x v = (t - s) * d := by
          have : c * t * dr_ x v = t * d := by rw [← hdd]; grind
          grind
        rw [e2] at hne ⊢
        rw [e1]
        rcases (show 0 < s ∨ s = 0 ∨ s < 0 by grind) with h | h | h
        · have hle : t ≤ s := by
            have q := hmin x hx
            rw [hdd, hs] at q
            exact q ⟨hd, h⟩
          have hlt : t < s := by
            rcases (show t < s ∨ t = s by grind) with q | q
            · exact q
            · exfalso; apply hne; rw [q]; grind
          have k1 : sg_ ((s - t) * (-d)) = sg_ (-d) := sg_scale (by grind)
          have k2 : sg_ (s * (-d)) = sg_ (-d) := sg_scale h
          rw [show (t - s) * d = (s - t) * (-d) by grind, show - (s * d) = s * (-d) by grind, k1, k2]
        · exfalso
          have h0 : ev_ x p = 0 := by rw [e1, h]; grind
          apply hd
          rw [← hdd, hS x hx h0, Rat.mul_zero]
        · have k1 : sg_ ((t - s) * d) = sg_ d := sg_scale (by grind)
          have k2 : sg_ ((-s) * d) = sg_ d := sg_scale (by grind)
          rw [show - (s * d) = (-s) * d by grind, k1, k2]
  obtain ⟨w, hwA, hwd⟩ := hw
  have hev : ev_ w p ≠ 0 := fun h => hwd (hS w hwA h)
  have hq : - ev_ w p / dr_ w v ≠ 0 := by
    intro h
    have := Rat.div_mul_cancel (a := - ev_ w p) hwd
    rw [h] at this
    grind
  rcases (show 0 < - ev_ w p / dr_ w v ∨ - ev_ w p / dr_ w v < 0 by grind) with h | h
  · obtain ⟨t, h1, h2, h3⟩ := main 1 (Or.inl rfl) ⟨w, hwA, by rw [Rat.one_mul]; exact hwd, by rw [Rat.one_mul]; exact h⟩
    exact ⟨1, t, Or.inl rfl, h1, h2, h3⟩
  · have hd1 : (-1 : Rat) * dr_ w v ≠ 0 := by intro h0; apply hwd; grind
    obtain ⟨t, h1, h2, h3⟩ := main (-1) (Or.inr rfl) ⟨w, hwA, hd1, by
      have e1 := Rat.div_mul_cancel (a := - ev_ w p) hwd
      have e2 := Rat.div_mul_cancel (a := - ev_ w p) hd1
      generalize - ev_ w p / dr_ w v = a at *
      generalize - ev_ w p / (-1 * dr_ w v) = b at *
      have : (a + b) * dr_ w v = 0 := by grind
      have := (Rat.mul_eq_zero.mp this).resolve_right hwd
      grind⟩
    exact ⟨-1, t, Or.inr rfl, h1, h2, h3⟩
/-- what the class's search keeps to: corners, and moves along lines that take one from the rank -/
def Cl_ (A : List Wl_) (X : Wl_ → Prop) (Rch : V3_ → Prop) : Prop :=
  (∀ p q, RE_ A p q → Rch p → Rch q) ∧
  (∀ x y z, X x → X y → X z → dt_ x y z ≠ 0 → Rch (cor_ x y z)) ∧
  (∀ g, Rch g → ∀ x y, X x → X y → cx_ x y ≠ o3_ → (∃ w ∈ A, dr_ w (cx_ x y) ≠ 0) → rk_ (fun z => On_ A g z ∧ dr_ z (cx_ x y) = 0) + 1 = rk_ (On_ A g) →
    ∀ (c : Rat), (c = 1 ∨ c = -1) → ∀ p, (∀ z ∈ A, ev_ z g ≠ 0 → sg_ (ev_ z p) = sg_ (ev_ z g)) → (∀ z ∈ A, ev_ z g = 0 → sg_ (ev_ z p) = sg_ (c * dr_ z (cx_ x y))) → Rch p)
/-- along a line off p until walls are met: if their rank is one more than p's, p is reached with them -/
theorem climb_step {A : List Wl_} {X : Wl_ → Prop} {Rch : V3_ → Prop} (hC : Cl_ A X Rch) (p : V3_) {x y : Wl_} (hx : X x) (hy : X y) (hS : ∀ z ∈ A, ev_ z p = 0 → dr_ z (cx_ x y) = 0) (hw : ∃ w ∈ A, dr_ w (cx_ x y) ≠ 0)
    (hup : ∀ g, (∀ z ∈ A, ev_ z p = 0 → ev_ z g = 0) → (∃ z ∈ A, dr_ z (cx_ x y) ≠ 0 ∧ ev_ z g = 0) → (∀ z ∈ A, ev_ z g = 0 → dr_ z (cx_ x y) = 0 → ev_ z p = 0) → (∀ z ∈ A, ∀ z' ∈ A, ev_ z g = 0 → ev_ z' g = 0 → nn_ (cx_ x y) p z z' = 0) → rk_ (On_ A g) = rk_ (On_ A p) + 1 ∧ Rch g) : Rch p := by
  obtain ⟨c, t, hc, ht, ⟨x0, hx0, hd0, he0⟩, hsame⟩ := first_hit p (cx_ x y) hS hw
  generalize hg : ad_ p (c * t) (cx_ x y) = g at *
  have hev : ∀ z, ev_ z g = ev_ z p + c * t * dr_ z (cx_ x y) := fun z => by rw [← hg, ev_ad]
  have hct : c * t ≠ 0 := by
    intro h0
    rcases hc with rfl | rfl
    · grind
    · grind
  have hback : ∀ z ∈ A, ev_ z g = 0 → dr_ z (cx_ x y) = 0 → ev_ z p = 0 := by
    intro z _ h1 h2
    have := hev z
    rw [h1, h2, Rat.mul_zero] at this
    grind
  have hon : ∀ z ∈ A, ev_ z p = 0 → ev_ z g = 0 := by
    intro z hz h
    rw [hev z, h, hS z hz h, Rat.mul_zero]; grind
  obtain ⟨hr, hR⟩ := hup g hon ⟨x0, hx0, hd0, he0⟩ hback (by
    intro z _ z' _ h1 h2
    have a1 := hev z
    have a2 := hev z'
    rw [h1] at a1
    rw [h2] at a2
    simp only [nn_]
    have b1 : ev_ z p = - (c * t * dr_ z (cx_ x y)) := by grind
    have b2 : ev_ z' p = - (c * t * dr_ z' (cx_ x y)) := by grind
    rw [b1, b2]; grind)
  have hne : cx_ x y ≠ o3_ := by
    intro h0
    obtain ⟨w, _, hw⟩ := hw
    apply hw
    rw [h0, dr_o]
  refine hC.2.2 g hR x y hx hy hne hw ?_ (-c) (by rcases hc with rfl | rfl; exact Or.inr rfl; exact Or.inl (by grind)) p ?_ ?_
  · rw [hr]
    congr 1
    refine rk_cg (fun z => ⟨fun ⟨⟨h1, h2⟩, h3⟩ => ⟨h1, hback z h1 h2 h3⟩, fun ⟨h1, h2⟩ => ⟨⟨h1, hon z h1 h2⟩, hS z h1 h2⟩⟩)
  · intro z hz h; exact (hsame z hz h).symm
  · intro z hz h
    have a1 := hev z
    rw [h] at a1
    have b1 : ev_ z p = t * (-c * dr_ z (cx_ x y)) := by grind
    rw [b1, sg_scale ht]
/-- walls that are across two ways that aren't parallel are parallel -/
theorem two_ways {x y : Wl_} {a b : V3_} (h1 : dr_ x a = 0) (h2 : dr_ x b = 0) (h3 : dr_ y a = 0) (h4 : dr_ y b = 0)
    (hab : ¬ (a.2.1 * b.2.2 - a.2.2 * b.2.1 = 0 ∧ a.2.2 * b.1 - a.1 * b.2.2 = 0 ∧ a.1 * b.2.1 - a.2.1 * b.1 = 0)) : cx_ x y = o3_ := by
  obtain ⟨x1, x2, x3, e⟩ := x
  obtain ⟨y1, y2, y3, f⟩ := y
  obtain ⟨a1, a2, a3⟩ := a
  obtain ⟨b1, b2, b3⟩ := b
  simp only [dr_, cx_, o3_, Prod.mk.injEq] at *
  generalize (x1 : Rat) = x1 at *
  generalize (x2 : Rat) = x2 at *
  generalize (x3 : Rat) = x3 at *
  generalize (y1 : Rat) = y1 at *
  generalize (y2 : Rat) = y2 at *
  generalize (y3 : Rat) = y3 at *
  by_cases c1 : a2 * b3 - a3 * b2 = 0
  · by_cases c2 : a3 * b1 - a1 * b3 = 0
    · have c3 : a1 * b2 - a2 * b1 ≠ 0 := fun h => hab ⟨c1, c2, h⟩
      have k1 : (x2 * y3 - x3 * y2) * (a1 * b2 - a2 * b1) = 0 := by grind
      have k2 : (x3 * y1 - x1 * y3) * (a1 * b2 - a2 * b1) = 0 := by grind
      have k3 : (x1 * y2 - x2 * y1) * (a1 * b2 - a2 * b1) = 0 := by grind
      exact ⟨(Rat.mul_eq_zero.mp k1).resolve_right c3, (Rat.mul_eq_zero.mp k2).resolve_right c3, (Rat.mul_eq_zero.mp k3).resolve_right c3⟩
    · have k1 : (x2 * y3 - x3 * y2) * (a3 * b1 - a1 * b3) = 0 := by grind
      have k2 : (x3 * y1 - x1 * y3) * (a3 * b1 - a1 * b3) = 0 := by grind
      have k3 : (x1 * y2 - x2 * y1) * (a3 * b1 - a1 * b3) = 0 := by grind
      exact ⟨(Rat.mul_eq_zero.mp k1).resolve_right c2, (Rat.mul_eq_zero.mp k2).resolve_right c2, (Rat.mul_eq_zero.mp k3).resolve_right c2⟩
  · have k1 : (x2 * y3 - x3 * y2) * (a2 * b3 - a3 * b2) = 0 := by grind
    have k2 : (x3 * y1 - x1 * y3) * (a2 * b3 - a3 * b2) = 0 := by grind
    have k3 : (x1 * y2 - x2 * y1) * (a2 * b3 - a3 * b2) = 0 := by grind
    exact ⟨(Rat.mul_eq_zero.mp k1).resolve_right c1, (Rat.mul_eq_zero.mp k2).resolve_right c1, (Rat.mul_eq_zero.mp k3).resolve_right c1⟩
/-- three walls across one way have no determinant -/
theorem one_way {x y z : Wl_} {a : V3_} (ha : a ≠ o3_) (h1 : dr_ x a = 0) (h2 : dr_ y a = 0) (h3 : dr_ z a = 0) : dt_ x y z = 0 := by
  refine Classical.byContradiction (fun hd => ha ?_)
  have hc : cx_ x y ≠ o3_ := fun h0 => hd (dt_0 h0 z)
  obtain ⟨t, ht⟩ := along_cx h1 h2 hc
  rw [ht, dr_mu] at h3
  rcases Rat.mul_eq_zero.mp h3 with h | h
  · rw [ht, h]; simp only [mu_, o3_, Rat.zero_mul]
  · exact absurd h hd
theorem climb_2 {A : List Wl_} {X : Wl_ → Prop} {Rch : V3_ → Prop} (hC : Cl_ A X Rch) (hAX : ∀ x ∈ A, X x) (p : V3_) (h2 : R2_ (On_ A p)) (h3 : ¬ R3_ (On_ A p)) (hw : ∃ w ∈ A, ∃ u, (∀ z ∈ A, ev_ z p = 0 → dr_ z u = 0) ∧ dr_ w u ≠ 0)
    (ih : ∀ g, rk_ (On_ A p) < rk_ (On_ A g) → Rch g) : Rch p := by
  obtain ⟨x, y, hx, hy, hc⟩ := h2
  have hS : ∀ z ∈ A, ev_ z p = 0 → dr_ z (cx_ x y) = 0 := fun z hz h => flat_all h3 hx hy ⟨hz, h⟩ hc (dr_cx1 x y) (dr_cx2 x y)
  have hw' : ∃ w ∈ A, dr_ w (cx_ x y) ≠ 0 := by
    obtain ⟨w, hwA, u, hu, hd⟩ := hw
    obtain ⟨t, ht⟩ := along_cx (hu x hx.1 hx.2) (hu y hy.1 hy.2) hc
    refine ⟨w, hwA, fun h0 => hd ?_⟩
    rw [ht, dr_mu, h0, Rat.mul_zero]
  refine climb_step hC p (hAX x hx.1) (hAX y hy.1) hS hw' ?_
  intro g hon hex _ _
  obtain ⟨z, hz, hd, he⟩ := hex
  have r3 : R3_ (On_ A g) := ⟨x, y, z, ⟨hx.1, hon x hx.1 hx.2⟩, ⟨hy.1, hon y hy.1 hy.2⟩, ⟨hz, he⟩, hd⟩
  have e1 : rk_ (On_ A g) = 3 := rk_3 r3
  have e2 : rk_ (On_ A p) = 2 := rk_2 ⟨x, y, hx, hy, hc⟩ h3
  exact ⟨by rw [e1, e2], ih g (by rw [e1, e2]; omega)⟩
theorem climb_1 {A : List Wl_} {X : Wl_ → Prop} {Rch : V3_ → Prop} (hC : Cl_ A X Rch) (hAX : ∀ x ∈ A, X x) (hX : R3_ X) (hn : ∀ x ∈ A, nv_ x ≠ o3_) (p : V3_) (h1 : ∃ x, On_ A p x) (h2 : ¬ R2_ (On_ A p)) (hw : ∃ w ∈ A, ∃ u, (∀ z ∈ A, ev_ z p = 0 → dr_ z u = 0) ∧ dr_ w u ≠ 0)
    (ih : ∀ g, rk_ (On_ A p) < rk_ (On_ A g) → Rch g) : Rch p := by
  obtain ⟨x, hx⟩ := h1
  obtain ⟨w, hwA, u0, hu0, hd0⟩ := hw
  have hcw : cx_ x w ≠ o3_ := by
    intro h0
    apply hd0
    -- w parallel to x
    have : ¬ R2_ (fun z => z = x ∨ z = w) := by
      rintro ⟨a, b, ha, hb, hab⟩
      apply hab
      rcases ha with rfl | rfl <;> rcases hb with rfl | rfl
      · simp only [cx_, o3_, Prod.mk.injEq]; grind
      · exact h0
      · simp only [cx_, o3_, Prod.mk.injEq] at h0 ⊢; grind
      · simp only [cx_, o3_, Prod.mk.injEq]; grind
    exact par_all this (Or.inl rfl) (Or.inr rfl) (hn x hx.1) (hu0 x hx.1 hx.2)
  obtain ⟨z, hz, hdz⟩ := third_in hX hcw
  have hS : ∀ (u : V3_), dr_ x u = 0 → ∀ y ∈ A, ev_ y p = 0 → dr_ y u = 0 := fun u hu y hy h => par_all h2 hx ⟨hy, h⟩ (hn x hx.1) hu
  obtain ⟨p1, hp1, hp2⟩ := aside (A := A) p (cx_ x z) (cx_ x w) (hS _ (dr_cx1 x w))
  have hop : ∀ y, On_ A p1 y ↔ On_ A p y := On_cg hp1
  have e0 : rk_ (On_ A p1) = rk_ (On_ A p) := rk_cg hop
  refine hC.1 p1 p hp1 ?_
  have hdw : dr_ w (cx_ x z) ≠ 0 := by
    intro h0; apply hdz
    have := dt_rot2 x w z
    rw [h0] at this; grind
  refine climb_step hC p1 (hAX x hx.1) hz (fun y hy h => hS _ (dr_cx1 x z) y hy ((hop y).mp ⟨hy, h⟩).2) ⟨w, hwA, hdw⟩ ?_
  intro g hon hex hback hnn
  obtain ⟨y, hy, hdy, hey⟩ := hex
  have hxg : On_ A g x := ⟨hx.1, hon x hx.1 ((hop x).mpr hx).2⟩
  have hxy : cx_ x y ≠ o3_ := by
    intro h0
    apply hdy
    have e := dt_rot2 x y z
    rw [e, dt_0 h0 z]; rfl
  have r2 : R2_ (On_ A g) := ⟨x, y, hxg, ⟨hy, hey⟩, hxy⟩
  -- all walls met are across one way
  have hway : ∀ y' ∈ A, ev_ y' g = 0 → dr_ y' (ad_ (mu_ (dr_ y (cx_ x z)) (cx_ x w)) (- dr_ y (cx_ x w)) (cx_ x z)) = 0 := by
    intro y' hy' he'
    have hb := (hp2 y' hy' y hy (hnn y' hy' y hy he' hey)).2
    rw [dr_ad, dr_mu]
    simp only [bb_] at hb
    grind
  have hne : ad_ (mu_ (dr_ y (cx_ x z)) (cx_ x w)) (- dr_ y (cx_ x w)) (cx_ x z) ≠ o3_ := by
    intro h0
    have k : dr_ z (ad_ (mu_ (dr_ y (cx_ x z)) (cx_ x w)) (- dr_ y (cx_ x w)) (cx_ x z)) = 0 := by rw [h0, dr_o]
    rw [dr_ad, dr_mu, dr_cx2, Rat.mul_zero, Rat.add_zero] at k
    rcases Rat.mul_eq_zero.mp k with h | h
    · exact hdy h
    · exact hdz h
  have r3 : ¬ R3_ (On_ A g) := by
    rintro ⟨a, b, c, ha, hb, hc, hd⟩
    exact hd (one_way hne (hway a ha.1 ha.2) (hway b hb.1 hb.2) (hway c hc.1 hc.2))
  have e1 : rk_ (On_ A g) = 2 := rk_2 r2 r3
  have e2 : rk_ (On_ A p) = 1 := rk_1 ⟨x, hx⟩ h2 (fun h => h2 (R3_R2 h))
  exact ⟨by rw [e1, e0, e2], ih g (by rw [e1, e2]; omega)⟩
theorem climb_0 {A : List Wl_} {X : Wl_ → Prop} {Rch : V3_ → Prop} (hC : Cl_ A X Rch) (hX : R3_ X) (hn : ∀ x ∈ A, nv_ x ≠ o3_) (p : V3_) (h1 : ¬ ∃ x, On_ A p x) (hw : ∃ w, w ∈ A)
    (ih : ∀ g, rk_ (On_ A p) < rk_ (On_ A g) → Rch g) : Rch p := by
  obtain ⟨w, hwA⟩ := hw
  obtain ⟨y, z, hy, hz, hd⟩ := swap_in hX (hn w hwA)
  have hS : ∀ (q u : V3_), RE_ A q p → ∀ y ∈ A, ev_ y q = 0 → dr_ y u = 0 := fun q u hq y hy h => absurd ⟨y, (On_cg hq y).mp ⟨hy, h⟩⟩ h1
  obtain ⟨p1, hp1, hq1⟩ := aside (A := A) p (cx_ y z) (cx_ w z) (hS p _ (RE_refl A p))
  obtain ⟨p2, hp2, hq2⟩ := aside (A := A) p1 (cx_ y z) (cx_ w y) (hS p1 _ hp1)
  have hpp : RE_ A p2 p := RE_trans hp2 hp1
  have hop : ∀ y, On_ A p2 y ↔ On_ A p y := On_cg hpp
  have e0 : rk_ (On_ A p2) = rk_ (On_ A p) := rk_cg hop
  refine hC.1 p2 p hpp ?_
  have hdw : dr_ w (cx_ y z) ≠ 0 := by rw [dt_rot]; exact hd
  refine climb_step hC p2 hy hz (hS p2 _ hpp) ⟨w, hwA, hdw⟩ ?_
  intro g hon hex hback hnn
  obtain ⟨x, hx, hdx, hex⟩ := hex
  have hway1 : ∀ y' ∈ A, ev_ y' g = 0 → dr_ y' (ad_ (mu_ (dr_ x (cx_ y z)) (cx_ w z)) (- dr_ x (cx_ w z)) (cx_ y z)) = 0 := by
    intro y' hy' he'
    have hb := (hq1 y' hy' x hx (hq2 y' hy' x hx (hnn y' hy' x hx he' hex)).1).2
    rw [dr_ad, dr_mu]
    simp only [bb_] at hb
    grind
  have hway2 : ∀ y' ∈ A, ev_ y' g = 0 → dr_ y' (ad_ (mu_ (dr_ x (cx_ y z)) (cx_ w y)) (- dr_ x (cx_ w y)) (cx_ y z)) = 0 := by
    intro y' hy' he'
    have hb := (hq2 y' hy' x hx (hnn y' hy' x hx he' hex)).2
    rw [dr_ad, dr_mu]
    simp only [bb_] at hb
    grind
  have r2 : ¬ R2_ (On_ A g) := by
    rintro ⟨a, b, ha, hb, hab⟩
    refine hab (two_ways (hway1 a ha.1 ha.2) (hway2 a ha.1 ha.2) (hway1 b hb.1 hb.2) (hway2 b hb.1 hb.2) ?_)
    intro hpar
    -- the two ways aren't parallel: z is along the first alone
    have k1 : dr_ z (ad_ (mu_ (dr_ x (cx_ y z)) (cx_ w z)) (- dr_ x (cx_ w z)) (cx_ y z)) = 0 := by rw [dr_ad, dr_mu, dr_cx2, dr_cx2]; grind
    have k2 : dr_ z (ad_ (mu_ (dr_ x (cx_ y z)) (cx_ w y)) (- dr_ x (cx_ w y)) (cx_ y z)) ≠ 0 := by
      rw [dr_ad, dr_mu, dr_cx2, Rat.mul_zero, Rat.add_zero]
      intro h0
      rcases Rat.mul_eq_zero.mp h0 with h | h
      · exact hdx h
      · exact hd h
    have k3 : dr_ y (ad_ (mu_ (dr_ x (cx_ y z)) (cx_ w z)) (- dr_ x (cx_ w z)) (cx_ y z)) ≠ 0 := by
      rw [dr_ad, dr_mu, dr_cx1, Rat.mul_zero, Rat.add_zero]
      intro h0
      rcases Rat.mul_eq_zero.mp h0 with h | h
      · exact hdx h
      · have := dt_rot2 w y z
        rw [h] at this
        apply hd; grind
    have k4 : dr_ y (ad_ (mu_ (dr_ x (cx_ y z)) (cx_ w y)) (- dr_ x (cx_ w y)) (cx_ y z)) = 0 := by rw [dr_ad, dr_mu, dr_cx2, dr_cx1]; grind
    generalize ad_ (mu_ (dr_ x (cx_ y z)) (cx_ w z)) (- dr_ x (cx_ w z)) (cx_ y z) = m1 at *
    generalize ad_ (mu_ (dr_ x (cx_ y z)) (cx_ w y)) (- dr_ x (cx_ w y)) (cx_ y z) = m2 at *
    have : dr_ y m1 * dr_ z m2 = 0 := by
      obtain ⟨q1, q2, q3⟩ := hpar
      have : dr_ y m1 * dr_ z m2 - dr_ z m1 * dr_ y m2 = 0 := by
        simp only [dr_]; grind
      rw [k1, k4] at this
      grind
    rcases Rat.mul_eq_zero.mp this with h | h
    · exact k3 h
    · exact k2 h
  have e1 : rk_ (On_ A g) = 1 := rk_1 ⟨x, hx, hex⟩ r2 (fun h => r2 (R3_R2 h))
  have e2 : rk_ (On_ A p) = 0 := rk_0 h1 (fun h => h1 (R2_ex h)) (fun h => h1 (R2_ex (R3_R2 h)))
  exact ⟨by rw [e1, e0, e2], ih g (by rw [e1, e2]; omega)⟩
/-- where nothing leads further, a corner tells the face -/
theorem climb_base {A : List Wl_} {X : Wl_ → Prop} {Rch : V3_ → Prop} (hC : Cl_ A X Rch) (hAX : ∀ x ∈ A, X x) (hX : R3_ X) (hn : ∀ x ∈ A, nv_ x ≠ o3_) (p : V3_) (hw : ¬ ∃ w ∈ A, ∃ u, (∀ z ∈ A, ev_ z p = 0 → dr_ z u = 0) ∧ dr_ w u ≠ 0) : Rch p := by
  have key : ∀ x y z, X x → X y → X z → dt_ x y z ≠ 0 → (∀ q, ev_ x q = 0 → ev_ y q = 0 → ev_ z q = 0 → ∀ s ∈ A, ev_ s p = 0 → dr_ s (sb_ q p) = 0) → Rch p := by
    intro x y z hx hy hz hd hq
    obtain ⟨c1, c2, c3⟩ := cor_on x y z hd
    refine hC.1 (cor_ x y z) p ?_ (hC.2.1 x y z hx hy hz hd)
    intro w hwA
    have : dr_ w (sb_ (cor_ x y z) p) = 0 := Classical.byContradiction (fun h => hw ⟨w, hwA, _, hq _ c1 c2 c3, h⟩)
    rw [dr_sb] at this
    congr 1; grind
  by_cases h3 : R3_ (On_ A p)
  · obtain ⟨x, y, z, hx, hy, hz, hd⟩ := h3
    refine key x y z (hAX x hx.1) (hAX y hy.1) (hAX z hz.1) hd ?_
    intro q q1 q2 q3 s _ _
    have hc : cx_ x y ≠ o3_ := fun h0 => hd (dt_0 h0 z)
    obtain ⟨t, ht⟩ := along_cx (u := sb_ q p) (by rw [dr_sb, q1, hx.2]; grind) (by rw [dr_sb, q2, hy.2]; grind) hc
    have hz0 : dr_ z (sb_ q p) = 0 := by rw [dr_sb, q3, hz.2]; grind
    rw [ht, dr_mu] at hz0
    rcases Rat.mul_eq_zero.mp hz0 with h | h
    · rw [ht, h, dr_mu, Rat.zero_mul]
    · exact absurd h hd
  · by_cases h2 : R2_ (On_ A p)
    · obtain ⟨x, y, hx, hy, hc⟩ := h2
      obtain ⟨z, hz, hd⟩ := third_in hX hc
      refine key x y z (hAX x hx.1) (hAX y hy.1) hz hd ?_
      intro q q1 q2 _ s hs he
      exact flat_all h3 hx hy ⟨hs, he⟩ hc (by rw [dr_sb, q1, hx.2]; grind) (by rw [dr_sb, q2, hy.2]; grind)
    · by_cases h1 : ∃ x, On_ A p x
      · obtain ⟨x, hx⟩ := h1
        obtain ⟨y, z, hy, hz, hd⟩ := swap_in hX (hn x hx.1)
        refine key x y z (hAX x hx.1) hy hz hd ?_
        intro q q1 _ _ s hs he
        exact par_all h2 hx ⟨hs, he⟩ (hn x hx.1) (by rw [dr_sb, q1, hx.2]; grind)
      · obtain ⟨x, y, z, hx, hy, hz, hd⟩ := hX
        refine key x y z hx hy hz hd ?_
        intro q _ _ _ s hs he
        exact absurd ⟨s, hs, he⟩ h1
/-- EVERY FACE IS REACHED -/
theorem climb_all {A : List Wl_} {X : Wl_ → Prop} {Rch : V3_ → Prop} (hC : Cl_ A X Rch) (hAX : ∀ x ∈ A, X x) (hX : R3_ X) (hn : ∀ x ∈ A, nv_ x ≠ o3_) : ∀ p, Rch p := by
  have main : ∀ (n : Nat) (p : V3_), 3 - rk_ (On_ A p) < n → Rch p := by
    intro n
    induction n with
    | zero => intro p h; omega
    | succ n ih =>
      intro p h
      have ih' : ∀ g, rk_ (On_ A p) < rk_ (On_ A g) → Rch g := by
        intro g hg
        have := rk_le3 (On_ A g)
        exact ih g (by omega)
      by_cases hw : ∃ w ∈ A, ∃ u, (∀ z ∈ A, ev_ z p = 0 → dr_ z u = 0) ∧ dr_ w u ≠ 0
      · by_cases h3 : R3_ (On_ A p)
        · exfalso
          obtain ⟨x, y, z, hx, hy, hz, hd⟩ := h3
          obtain ⟨w, _, u, hu, hwu⟩ := hw
          apply hwu
          have hc : cx_ x y ≠ o3_ := fun h0 => hd (dt_0 h0 z)
          obtain ⟨t, ht⟩ := along_cx (hu x hx.1 hx.2) (hu y hy.1 hy.2) hc
          have hz0 := hu z hz.1 hz.2
          rw [ht, dr_mu] at hz0
          rcases Rat.mul_eq_zero.mp hz0 with h | h
          · rw [ht, h, dr_mu, Rat.zero_mul]
          · exact absurd h hd
        · by_cases h2 : R2_ (On_ A p)
          · exact climb_2 hC hAX p h2 h3 hw ih'
          · by_cases h1 : ∃ x, On_ A p x
            · exact climb_1 hC hAX hX hn p h1 h2 hw ih'
            · obtain ⟨w, hwA, _⟩ := hw
              exact climb_0 hC hX hn p h1 ⟨w, hwA⟩ ih'
      · exact climb_base hC hAX hX hn p hw
  intro p
  exact main 4 p (by omega)
end
section
/-! Fourier and Motzkin: one number after the other is taken out -/
abbrev Rw_ : Type := Wl_ × Bool
def sat_ (r : Rw_) (p : V3_) : Prop := if r.2 = true then ev_ r.1 p = 0 else ev_ r.1 p < 0
def Sat_ (rows : List Rw_) : Prop := ∃ p, ∀ r ∈ rows, sat_ r p
def cf_ (i : Nat) (w : Wl_) : Int := if i = 0 then w.1 else if i = 1 then w.2.1 else w.2.2.1
/-- s times, and o times -/
def lc_ (a : Int) (s : Wl_) (b : Int) (o : Wl_) : Wl_ := (s.1 * a + o.1 * b, s.2.1 * a + o.2.1 * b, s.2.2.1 * a + o.2.2.1 * b, s.2.2.2 * a + o.2.2.2 * b)
theorem ev_lc (a : Int) (s : Wl_) (b : Int) (o : Wl_) (p : V3_) : ev_ (lc_ a s b o) p = a * ev_ s p + b * ev_ o p := by
  simp only [ev_, dr_, lc_, Rat.intCast_add, Rat.intCast_mul]; grind
theorem cf_lc (i : Nat) (a : Int) (s : Wl_) (b : Int) (o : Wl_) : cf_ i (lc_ a s b o) = cf_ i s * a + cf_ i o * b := by
  unfold cf_ lc_
  split
  · rfl
  · split <;> rfl
/-- the way of one number alone -/
def ax_ (i : Nat) : V3_ := if i = 0 then (1, 0, 0) else if i = 1 then (0, 1, 0) else (0, 0, 1)
theorem dr_ax (i : Nat) (w : Wl_) : dr_ w (ax_ i) = (cf_ i w : Rat) := by
  unfold ax_ cf_ dr_
  split
  · simp only []; grind
  · split <;> (simp only []; grind)
theorem sat_t {w : Wl_} {p : V3_} : sat_ (w, true) p ↔ ev_ w p = 0 := by simp [sat_]
theorem sat_f {w : Wl_} {p : V3_} : sat_ (w, false) p ↔ ev_ w p < 0 := by simp [sat_]
theorem rI_pos {a : Int} : 0 < (a : Rat) ↔ 0 < a := by
  have := Rat.intCast_lt_intCast (a := 0) (b := a)
  simpa using this
theorem rI_neg {a : Int} : (a : Rat) < 0 ↔ a < 0 := by
  have := Rat.intCast_lt_intCast (a := a) (b := 0)
  simpa using this
theorem rI_zero {a : Int} : (a : Rat) = 0 ↔ a = 0 := by
  constructor
  · intro h
    rcases Int.lt_trichotomy a 0 with q | q | q
    · have := rI_neg.mpr q; grind
    · exact q
    · have := rI_pos.mpr q; grind
  · intro h; subst h; rfl
/-- a row with an even one's number taken out: m times s (m above 0), and k times the pivot -/
theorem fm_piv {i : Nat} {rows rows' : List Rw_} {P : Wl_} (hP : (P, true) ∈ rows) (hc : cf_ i P ≠ 0)
    (h1 : ∀ r ∈ rows', ∃ s ∈ rows, ∃ a b : Int, 0 < a ∧ r = (lc_ a s.1 b P, s.2))
    (h2 : ∀ s ∈ rows, s = (P, true) ∨ ∃ a b : Int, 0 < a ∧ (lc_ a s.1 b P, s.2) ∈ rows' ∧ cf_ i (lc_ a s.1 b P) = 0) : Sat_ rows ↔ Sat_ rows' := by
  constructor
  · rintro ⟨p, hp⟩
    refine ⟨p, fun r hr => ?_⟩
    obtain ⟨s, hs, a, b, ha, rfl⟩ := h1 r hr
    have e1 := hp s hs
    have e2 := sat_t.mp (hp _ hP)
    have ha' : (0 : Rat) < a := rI_pos.mpr ha
    obtain ⟨s1, s2⟩ := s
    cases s2 with
    | true =>
      rw [sat_t] at e1 ⊢
      rw [ev_lc, e1, e2]; grind
    | false =>
      rw [sat_f] at e1 ⊢
      rw [ev_lc, e2]
      have := Rat.mul_pos ha' (show 0 < - ev_ s1 p by grind)
      grind
  · rintro ⟨p, hp⟩
    have hcr : (cf_ i P : Rat) ≠ 0 := fun h => hc (rI_zero.mp h)
    refine ⟨ad_ p (- ev_ P p / (cf_ i P : Rat)) (ax_ i), fun s hs => ?_⟩
    have hP0 : ev_ P (ad_ p (- ev_ P p / (cf_ i P : Rat)) (ax_ i)) = 0 := by
      rw [ev_ad, dr_ax, Rat.div_mul_cancel hcr]; grind
    rcases h2 s hs with rfl | ⟨a, b, ha, hr, h0⟩
    · exact sat_t.mpr hP0
    · have e1 := hp _ hr
      have ha' : (0 : Rat) < a := rI_pos.mpr ha
      have e3 : ev_ (lc_ a s.1 b P) p = a * ev_ s.1 (ad_ p (- ev_ P p / (cf_ i P : Rat)) (ax_ i)) := by
        have e4 := ev_lc a s.1 b P (ad_ p (- ev_ P p / (cf_ i P : Rat)) (ax_ i))
        rw [hP0, ev_ad, dr_ax, h0] at e4
        grind
      obtain ⟨s1, s2⟩ := s
      cases s2 with
      | true =>
        rw [sat_t] at e1 ⊢
        rw [e3] at e1
        rcases Rat.mul_eq_zero.mp e1 with h | h
        · grind
        · exact h
      | false =>
        rw [sat_f] at e1 ⊢
        rw [e3] at e1
        exact (Rat.mul_neg_iff_of_pos_left ha').mp e1
theorem between {α : Type} (L U : List α) (l u : α → Rat) (h : ∀ x ∈ L, ∀ y ∈ U, l x < u y) : ∃ t : Rat, (∀ x ∈ L, l x < t) ∧ ∀ y ∈ U, t < u y := by
  by_cases hU : ∃ y ∈ U, True
  · obtain ⟨y, hy, -, hmin⟩ := min_ex u (fun _ => True) U hU
    by_cases hL : ∃ x ∈ L, True
    · obtain ⟨x, hx, -, hmax⟩ := min_ex (fun x => - l x) (fun _ => True) L hL
      have := h x hx y hy
      refine ⟨(l x + u y) / 2, fun x' hx' => ?_, fun y' hy' => ?_⟩
      · have := hmax x' hx' trivial; grind
      · have := hmin y' hy' trivial; grind
    · refine ⟨u y - 1, fun x hx => absurd ⟨x, hx, trivial⟩ hL, fun y' hy' => ?_⟩
      have := hmin y' hy' trivial; grind
  · by_cases hL : ∃ x ∈ L, True
    · obtain ⟨x, hx, -, hmax⟩ := min_ex (fun x => - l x) (fun _ => True) L hL
      refine ⟨l x + 1, fun x' hx' => ?_, fun y hy => absurd ⟨y, hy, trivial⟩ hU⟩
      have := hmax x' hx' trivial; grind
    · exact ⟨0, fun x hx => absurd ⟨x, hx, trivial⟩ hL, fun y hy => absurd ⟨y, hy, trivial⟩ hU⟩
theorem fm_alg {es eo cs co us lo : Rat} (e : -co * es + cs * eo < 0) (d1 : us * cs = -es) (d2 : lo * co = -eo) (a1 : 0 < cs) (a2 : co < 0) : lo < us := by
  have k0 : (cs * (-co)) * (us - lo) = -(-co * es + cs * eo) := by grind
  have k : 0 < (cs * (-co)) * (us - lo) := by rw [k0]; grind
  have hpos := Rat.mul_pos a1 (show 0 < -co by grind)
  have := (Rat.mul_pos_iff_of_pos_left hpos).mp k
  grind
theorem fm_alg2 {es co lo t : Rat} (d1 : lo * co = -es) (l : lo < t) (a2 : co < 0) : es + t * co < 0 := by
  have := Rat.mul_pos (show 0 < t - lo by grind) (show 0 < -co by grind)
  grind
theorem fm_alg3 {es cs up t : Rat} (d1 : up * cs = -es) (l : t < up) (a2 : 0 < cs) : es + t * cs < 0 := by
  have := Rat.mul_pos (show 0 < up - t by grind) a2
  grind
theorem fm_alg4 {a es b eo : Rat} (h1 : 0 < a) (h2 : 0 < b) (h3 : es < 0) (h4 : eo < 0) : a * es + b * eo < 0 := by
  have b1 := Rat.mul_pos h1 (show 0 < - es by grind)
  have b2 := Rat.mul_pos h2 (show 0 < - eo by grind)
  grind
theorem fm_non {i : Nat} {rows rows' : List Rw_} (hno : ∀ s ∈ rows, s.2 = true → cf_ i s.1 = 0)
    (h1 : ∀ r ∈ rows', r ∈ rows ∨ ∃ s ∈ rows, ∃ o ∈ rows, 0 < cf_ i s.1 ∧ cf_ i o.1 < 0 ∧ r = (lc_ (- cf_ i o.1) s.1 (cf_ i s.1) o.1, false))
    (h2 : ∀ s ∈ rows, cf_ i s.1 = 0 → s ∈ rows')
    (h3 : ∀ s ∈ rows, ∀ o ∈ rows, 0 < cf_ i s.1 → cf_ i o.1 < 0 → (lc_ (- cf_ i o.1) s.1 (cf_ i s.1) o.1, false) ∈ rows') : Sat_ rows ↔ Sat_ rows' := by
  have strict : ∀ s ∈ rows, cf_ i s.1 ≠ 0 → s = (s.1, false) := by
    intro s hs hc
    obtain ⟨s1, s2⟩ := s
    cases s2 with
    | true => exact absurd (hno _ hs rfl) hc
    | false => rfl
  constructor
  · rintro ⟨p, hp⟩
    refine ⟨p, fun r hr => ?_⟩
    rcases h1 r hr with h | ⟨s, hs, o, ho, c1, c2, rfl⟩
    · exact hp r h
    · have es := strict s hs (by omega)
      have eo := strict o ho (by omega)
      have e1 := hp s hs
      have e2 := hp o ho
      rw [es, sat_f] at e1
      rw [eo, sat_f] at e2
      rw [sat_f, ev_lc]
      have a1 : (0 : Rat) < ((- cf_ i o.1 : Int) : Rat) := rI_pos.mpr (by omega)
      have a2 : (0 : Rat) < (cf_ i s.1 : Rat) := rI_pos.mpr c1
      exact fm_alg4 a1 a2 e1 e2
  · rintro ⟨p, hp⟩
    obtain ⟨t, ht1, ht2⟩ := between (rows.filter (fun o => decide (cf_ i o.1 < 0))) (rows.filter (fun s => decide (0 < cf_ i s.1))) (fun o => - ev_ o.1 p / (cf_ i o.1 : Rat)) (fun s => - ev_ s.1 p / (cf_ i s.1 : Rat)) (by
      intro o ho s hs
      rw [List.mem_filter] at ho hs
      have c2 : cf_ i o.1 < 0 := of_decide_eq_true ho.2
      have c1 : 0 < cf_ i s.1 := of_decide_eq_true hs.2
      have e := sat_f.mp (hp _ (h3 s hs.1 o ho.1 c1 c2))
      rw [ev_lc, Rat.intCast_neg] at e
      have a1 : (0 : Rat) < (cf_ i s.1 : Rat) := rI_pos.mpr c1
      have a2 : (cf_ i o.1 : Rat) < 0 := rI_neg.mpr c2
      have d1 := Rat.div_mul_cancel (a := - ev_ s.1 p) (b := (cf_ i s.1 : Rat)) (fun h => by rw [h] at a1; exact Rat.lt_irrefl a1)
      have d2 := Rat.div_mul_cancel (a := - ev_ o.1 p) (b := (cf_ i o.1 : Rat)) (fun h => by rw [h] at a2; exact Rat.lt_irrefl a2)
      exact fm_alg e d1 d2 a1 a2)
    refine ⟨ad_ p t (ax_ i), fun s hs => ?_⟩
    by_cases hc : cf_ i s.1 = 0
    · have e := hp s (h2 s hs hc)
      unfold sat_ at e ⊢
      rw [ev_ad, dr_ax, hc]
      have : ev_ s.1 p + t * ((0 : Int) : Rat) = ev_ s.1 p := by
        have : ((0 : Int) : Rat) = 0 := rfl
        rw [this, Rat.mul_zero, Rat.add_zero]
      rw [this]; exact e
    · rw [strict s hs hc, sat_f, ev_ad, dr_ax]
      have hcr : (cf_ i s.1 : Rat) ≠ 0 := fun h => hc (rI_zero.mp h)
      have d1 := Rat.div_mul_cancel (a := - ev_ s.1 p) (b := (cf_ i s.1 : Rat)) hcr
      rcases Int.lt_or_gt_of_ne hc with q | q
      · have l := ht1 s (List.mem_filter.mpr ⟨hs, decide_eq_true q⟩)
        have a2 : (cf_ i s.1 : Rat) < 0 := rI_neg.mpr q
        exact fm_alg2 d1 l a2
      · have l := ht2 s (List.mem_filter.mpr ⟨hs, decide_eq_true q⟩)
        have a2 : (0 : Rat) < (cf_ i s.1 : Rat) := rI_pos.mpr q
        exact fm_alg3 d1 l a2
/-- rows without numbers: they hold everywhere or nowhere -/
theorem sat_flat {rows : List Rw_} (h : ∀ r ∈ rows, cf_ 0 r.1 = 0 ∧ cf_ 1 r.1 = 0 ∧ cf_ 2 r.1 = 0) : Sat_ rows ↔ ∀ r ∈ rows, if r.2 = true then r.1.2.2.2 = 0 else 0 < r.1.2.2.2 := by
  have key : ∀ r ∈ rows, ∀ p, sat_ r p ↔ (if r.2 = true then r.1.2.2.2 = 0 else 0 < r.1.2.2.2) := by
    intro r hr p
    obtain ⟨h0, h1, h2⟩ := h r hr
    have e : ev_ r.1 p = - (r.1.2.2.2 : Rat) := by
      simp only [cf_] at h0 h1 h2
      simp only [ev_, dr_]
      simp at h0 h1 h2
      rw [h0, h1, h2]
      have : ((0 : Int) : Rat) = 0 := rfl
      rw [this]; grind
    unfold sat_
    rw [e]
    by_cases hb : r.2 = true
    · rw [if_pos hb, if_pos hb]
      constructor
      · intro q; exact rI_zero.mp (by grind)
      · intro q; rw [q]; rfl
    · rw [if_neg hb, if_neg hb]
      constructor
      · intro q; exact rI_pos.mp (by grind)
      · intro q; have := rI_pos.mpr q; grind
  exact ⟨fun ⟨p, hp⟩ r hr => (key r hr p).mp (hp r hr), fun hr => ⟨o3_, fun r h => (key r h o3_).mpr (hr r h)⟩⟩
end
section
/-! the rank, and whether walls have a place in common, out of rows in steps -/
theorem Id_sol : ∀ B : List Wl_, Id_ B → ∃ p, oB_ B p := by
  intro B
  induction B with
  | nil => intro _; exact ⟨o3_, fun x hx => by cases hx⟩
  | cons w B ih =>
    intro ⟨h1, u, h2, h3⟩
    obtain ⟨p, hp⟩ := ih h1
    refine ⟨ad_ p (- ev_ w p / dr_ w u) u, oB_cons.mpr ⟨?_, oB_ad hp h2⟩⟩
    rw [ev_ad, Rat.div_mul_cancel h3]
    exact Rat.add_neg_cancel _
/-- two ways across one wall, not parallel -/
theorem ways_2 (w : Wl_) : ∃ a b : V3_, dr_ w a = 0 ∧ dr_ w b = 0 ∧ ¬ (a.2.1 * b.2.2 - a.2.2 * b.2.1 = 0 ∧ a.2.2 * b.1 - a.1 * b.2.2 = 0 ∧ a.1 * b.2.1 - a.2.1 * b.1 = 0) := by
  obtain ⟨x1, x2, x3, e⟩ := w
  simp only [dr_]
  generalize (x1 : Rat) = x1
  generalize (x2 : Rat) = x2
  generalize (x3 : Rat) = x3
  by_cases h1 : x1 = 0
  · by_cases h2 : x2 = 0
    · exact ⟨(1, 0, 0), (0, 1, 0), by simp only []; grind, by simp only []; grind, by simp only []; grind⟩
    · exact ⟨(1, 0, 0), (0, -x3, x2), by simp only []; grind, by simp only []; grind, by simp only []; grind⟩
  · exact ⟨(-x2, x1, 0), (-x3, 0, x1), by simp only []; grind, by simp only []; grind, by
      simp only []
      intro h
      have : x1 * x1 = 0 := by grind
      rcases Rat.mul_eq_zero.mp this with h | h <;> exact h1 h⟩
theorem nv_dr {w : Wl_} (h : ∃ u, dr_ w u ≠ 0) : nv_ w ≠ o3_ := by
  intro h0
  obtain ⟨u, hu⟩ := h
  apply hu
  simp only [nv_, o3_, Prod.mk.injEq] at h0
  simp only [dr_, h0.1, h0.2.1, h0.2.2]
  grind
theorem cx_self (x : Wl_) : cx_ x x = o3_ := by simp only [cx_, o3_, Prod.mk.injEq]; grind
theorem cx_swap {x y : Wl_} (h : cx_ x y = o3_) : cx_ y x = o3_ := by simp only [cx_, o3_, Prod.mk.injEq] at *; grind
theorem par_2 {x y : Wl_} (h : cx_ x y = o3_) (hn : nv_ x ≠ o3_) {u : V3_} (hu : dr_ x u = 0) : dr_ y u = 0 := by
  have : ¬ R2_ (fun z => z = x ∨ z = y) := by
    rintro ⟨a, b, ha, hb, hab⟩
    apply hab
    rcases ha with rfl | rfl <;> rcases hb with rfl | rfl
    · exact cx_self _
    · exact h
    · exact cx_swap h
    · exact cx_self _
  exact par_all this (Or.inl rfl) (Or.inr rfl) hn hu
/-- rows in steps tell the rank -/
theorem rk_top {T top : List Wl_} (hI : Id_ top) (hN : ∀ u, pB_ T u ↔ pB_ top u) (hn : ∀ x ∈ T, nv_ x ≠ o3_) : rk_ (fun x => x ∈ T) = top.length := by
  have hl := Id_le top hI
  match top, hI, hN, hl with
  | [], _, hN, _ =>
    have hT : ¬ ∃ x, x ∈ T := by
      rintro ⟨x, hx⟩
      apply hn x hx
      have h1 := (hN (1, 0, 0)).mpr (fun y hy => by cases hy) x hx
      have h2 := (hN (0, 1, 0)).mpr (fun y hy => by cases hy) x hx
      have h3 := (hN (0, 0, 1)).mpr (fun y hy => by cases hy) x hx
      simp only [dr_] at h1 h2 h3
      simp only [nv_, o3_, Prod.mk.injEq]
      refine ⟨by grind, by grind, by grind⟩
    exact rk_0 hT (fun h => hT (R2_ex h)) (fun h => hT (R2_ex (R3_R2 h)))
  | [P], hI, hN, _ =>
    have hT : ∃ x, x ∈ T := by
      refine Classical.byContradiction (fun hno => ?_)
      obtain ⟨-, u, -, hu⟩ := hI
      exact hu ((hN u).mp (fun y hy => absurd ⟨y, hy⟩ hno) P (by simp))
    have h2 : ¬ R2_ (fun x => x ∈ T) := by
      rintro ⟨x, y, hx, hy, hxy⟩
      obtain ⟨a, b, ha, hb, hab⟩ := ways_2 P
      have ka := (hN a).mpr (fun z hz => by rw [List.mem_singleton] at hz; subst hz; exact ha)
      have kb := (hN b).mpr (fun z hz => by rw [List.mem_singleton] at hz; subst hz; exact hb)
      exact hxy (two_ways (ka x hx) (kb x hx) (ka y hy) (kb y hy) hab)
    exact rk_1 hT h2 (fun h => h2 (R3_R2 h))
  | [P, P'], hI, hN, _ =>
    obtain ⟨⟨-, u', -, hu'⟩, u, hu, hud⟩ := hI
    have hn' : nv_ P' ≠ o3_ := nv_dr ⟨u', hu'⟩
    have hc : cx_ P' P ≠ o3_ := fun h0 => hud (par_2 h0 hn' (hu P' (by simp)))
    have hin : pB_ T (cx_ P' P) := (hN _).mpr (fun z hz => by
      rcases List.mem_cons.mp hz with rfl | hz
      · exact dr_cx2 _ _
      · rw [List.mem_singleton] at hz; subst hz; exact dr_cx1 _ _)
    have h3 : ¬ R3_ (fun x => x ∈ T) := by
      rintro ⟨x, y, z, hx, hy, hz, hd⟩
      exact hd (one_way hc (hin x hx) (hin y hy) (hin z hz))
    have h2 : R2_ (fun x => x ∈ T) := by
      refine Classical.byContradiction (fun h2 => ?_)
      by_cases hT : ∃ x, x ∈ T
      · obtain ⟨x, hx⟩ := hT
        obtain ⟨a, b, ha, hb, hab⟩ := ways_2 x
        have ka := (hN a).mp (fun y hy => par_all (X := fun x => x ∈ T) h2 hx hy (hn x hx) ha)
        have kb := (hN b).mp (fun y hy => par_all (X := fun x => x ∈ T) h2 hx hy (hn x hx) hb)
        exact hc (two_ways (ka P' (by simp)) (kb P' (by simp)) (ka P (by simp)) (kb P (by simp)) hab)
      · exact hu' ((hN u').mp (fun y hy => absurd ⟨y, hy⟩ hT) P' (by simp))
    exact rk_2 h2 h3
  | [P, P', P''], hI, hN, _ =>
    have hz := Id_3 hI
    refine rk_3 (Classical.byContradiction (fun h3 => ?_))
    have none : ∀ u, pB_ T u → u = o3_ := fun u hu => by
      have := (hN u).mp hu
      exact hz u (this _ (by simp)) (this _ (by simp)) (this _ (by simp))
    by_cases h2 : R2_ (fun x => x ∈ T)
    · obtain ⟨x, y, hx, hy, hxy⟩ := h2
      exact hxy (none _ (fun z hz => flat_all (X := fun x => x ∈ T) h3 hx hy hz hxy (dr_cx1 x y) (dr_cx2 x y)))
    · by_cases hT : ∃ x, x ∈ T
      · obtain ⟨x, hx⟩ := hT
        obtain ⟨u, hu0, hu1, -⟩ := perp_2 (nv_ x) (nv_ x)
        exact hu0 (none u (fun y hy => par_all (X := fun x => x ∈ T) h2 hx hy (hn x hx) hu1))
      · have := none (1, 0, 0) (fun y hy => absurd ⟨y, hy⟩ hT)
        simp [o3_] at this
  | _ :: _ :: _ :: _ :: _, _, _, hl => simp at hl
/-! the way of the rows: the steps' rows stand ahead, what is left behind has 0 in all places that are done -/
/-- the state after some places: tops in their order with their places, the rest -/
def Gs_ (T : List Wl_) (i : Nat) (top : List (Wl_ × Nat)) (rest : List Wl_) : Prop :=
  (∀ r ∈ rest, ∀ j, j < i → cf_ j r = 0) ∧
  (∀ q ∈ top, q.2 < i ∧ q.2 < 3 ∧ cf_ q.2 q.1 ≠ 0) ∧
  top.Pairwise (fun a b => cf_ a.2 b.1 = 0) ∧
  (∀ u, pB_ T u ↔ pB_ (top.map Prod.fst) u ∧ pB_ rest u) ∧
  (∀ p, oB_ T p ↔ oB_ (top.map Prod.fst) p ∧ oB_ rest p)
theorem Gs_id : ∀ top : List (Wl_ × Nat), (∀ q ∈ top, cf_ q.2 q.1 ≠ 0) → top.Pairwise (fun a b => cf_ a.2 b.1 = 0) → Id_ (top.map Prod.fst) := by
  intro top
  induction top with
  | nil => intro _ _; trivial
  | cons q top ih =>
    intro h1 h2
    rw [List.pairwise_cons] at h2
    refine ⟨ih (fun x hx => h1 x (List.mem_cons_of_mem _ hx)) h2.2, ax_ q.2, ?_, ?_⟩
    · intro w hw
      obtain ⟨x, hx, rfl⟩ := List.mem_map.mp hw
      rw [dr_ax, h2.1 x hx]; rfl
    · rw [dr_ax]
      exact fun h => h1 q List.mem_cons_self (rI_zero.mp h)
theorem dr_cf {w : Wl_} (h0 : cf_ 0 w = 0) (h1 : cf_ 1 w = 0) (h2 : cf_ 2 w = 0) (u : V3_) : dr_ w u = 0 := by
  simp only [cf_] at h0 h1 h2
  simp at h0 h1 h2
  simp only [dr_, h0, h1, h2]
  have : ((0 : Int) : Rat) = 0 := rfl
  rw [this]; grind
/-- three places done: the rank is how many tops there are -/
theorem Gs_rank {T : List Wl_} {top : List (Wl_ × Nat)} {rest : List Wl_} (h : Gs_ T 3 top rest) (hn : ∀ x ∈ T, nv_ x ≠ o3_) : rk_ (fun x => x ∈ T) = top.length := by
  obtain ⟨h1, h2, h3, h4, h5⟩ := h
  have e := rk_top (T := T) (top := top.map Prod.fst) (Gs_id top (fun q hq => (h2 q hq).2.2) h3) (fun u => ⟨fun q => ((h4 u).mp q).1, fun q => (h4 u).mpr ⟨q, fun r hr => dr_cf (h1 r hr 0 (by omega)) (h1 r hr 1 (by omega)) (h1 r hr 2 (by omega)) u⟩⟩) hn
  rw [e, List.length_map]
/-- and there is a place in common, if nothing but 0 is left -/
theorem Gs_meet {T : List Wl_} {top : List (Wl_ × Nat)} {rest : List Wl_} (h : Gs_ T 3 top rest) : (∃ p, oB_ T p) ↔ ∀ r ∈ rest, r.2.2.2 = 0 := by
  obtain ⟨h1, h2, h3, h4, h5⟩ := h
  have key : ∀ r ∈ rest, ∀ p, ev_ r p = - (r.2.2.2 : Rat) := by
    intro r hr p
    rw [ev_, dr_cf (h1 r hr 0 (by omega)) (h1 r hr 1 (by omega)) (h1 r hr 2 (by omega)) p]
    grind
  constructor
  · rintro ⟨p, hp⟩ r hr
    have := ((h5 p).mp hp).2 r hr
    rw [key r hr p] at this
    exact rI_zero.mp (by grind)
  · intro hz
    obtain ⟨p, hp⟩ := Id_sol _ (Gs_id top (fun q hq => (h2 q hq).2.2) h3)
    refine ⟨p, (h5 p).mpr ⟨hp, fun r hr => ?_⟩⟩
    rw [key r hr p, hz r hr]; rfl
theorem Gs_0 (T : List Wl_) : Gs_ T 0 [] T := ⟨fun r _ j hj => absurd hj (Nat.not_lt_zero j), fun q hq => absurd hq List.not_mem_nil, List.Pairwise.nil, fun u => ⟨fun h => ⟨fun x hx => absurd hx List.not_mem_nil, h⟩, fun h => h.2⟩, fun u => ⟨fun h => ⟨fun x hx => absurd hx List.not_mem_nil, h⟩, fun h => h.2⟩⟩
theorem Gs_skip {T : List Wl_} {i : Nat} {top : List (Wl_ × Nat)} {rest : List Wl_} (h : Gs_ T i top rest) (h0 : ∀ r ∈ rest, cf_ i r = 0) : Gs_ T (i + 1) top rest := by
  obtain ⟨h1, h2, h3, h4, h5⟩ := h
  refine ⟨fun r hr j hj => ?_, fun q hq => ⟨by have := (h2 q hq).1; omega, (h2 q hq).2⟩, h3, h4, h5⟩
  rcases (show j < i ∨ j = i by omega) with q | rfl
  · exact h1 r hr j q
  · exact h0 r hr
theorem dr_lc (a : Int) (s : Wl_) (b : Int) (o : Wl_) (p : V3_) : dr_ (lc_ a s b o) p = a * dr_ s p + b * dr_ o p := by
  simp only [dr_, lc_, Rat.intCast_add, Rat.intCast_mul]; grind
theorem lc_z {a x y b : Rat} (ha : a ≠ 0) (hy : y = 0) : a * x + b * y = 0 ↔ x = 0 := by
  subst hy
  constructor
  · intro h
    have : a * x = 0 := by grind
    exact (Rat.mul_eq_zero.mp this).resolve_left ha
  · intro h; subst h; grind
/-- one more step: P comes to the tops, the rest is made 0 in this place -/
theorem Gs_step {T : List Wl_} {i : Nat} (hi : i < 3) {top : List (Wl_ × Nat)} {rest rest' : List Wl_} {P : Wl_} (h : Gs_ T i top rest) (hP : P ∈ rest) (hc : cf_ i P ≠ 0)
    (hr1 : ∀ r' ∈ rest', ∃ r ∈ rest, r' = lc_ (cf_ i P) r (- cf_ i r) P) (hr2 : ∀ r ∈ rest, r = P ∨ lc_ (cf_ i P) r (- cf_ i r) P ∈ rest') : Gs_ T (i + 1) (top ++ [(P, i)]) rest' := by
  obtain ⟨h1, h2, h3, h4, h5⟩ := h
  have hcr : (cf_ i P : Rat) ≠ 0 := fun q => hc (rI_zero.mp q)
  refine ⟨?_, ?_, ?_, ?_, ?_⟩
  · intro r' hr' j hj
    obtain ⟨r, hr, rfl⟩ := hr1 r' hr'
    rw [cf_lc]
    rcases (show j < i ∨ j = i by omega) with q | rfl
    · rw [h1 r hr j q, h1 P hP j q]; simp
    · rw [Int.mul_neg, Int.mul_comm]; omega
  · intro q hq
    rcases List.mem_append.mp hq with hq | hq
    · have := h2 q hq
      exact ⟨by omega, this.2⟩
    · rw [List.mem_singleton] at hq; subst hq; exact ⟨by simp, hi, hc⟩
  · rw [List.pairwise_append]
    refine ⟨h3, List.pairwise_singleton _ _, ?_⟩
    intro a ha b hb
    rw [List.mem_singleton] at hb; subst hb
    exact h1 P hP a.2 (h2 a ha).1
  · intro u
    rw [h4 u, List.map_append]
    constructor
    · rintro ⟨q1, q2⟩
      refine ⟨fun x hx => ?_, fun r' hr' => ?_⟩
      · rcases List.mem_append.mp hx with hx | hx
        · exact q1 x hx
        · simp at hx; rw [hx]; exact q2 P hP
      · obtain ⟨r, hr, rfl⟩ := hr1 r' hr'
        rw [dr_lc]; exact (lc_z hcr (q2 P hP)).mpr (q2 r hr)
    · rintro ⟨q1, q2⟩
      have hP0 : dr_ P u = 0 := q1 P (List.mem_append_right _ (by simp))
      refine ⟨fun x hx => q1 x (List.mem_append_left _ hx), fun r hr => ?_⟩
      rcases hr2 r hr with rfl | hr'
      · exact hP0
      · have := q2 _ hr'
        rw [dr_lc] at this
        exact (lc_z hcr hP0).mp this
  · intro u
    rw [h5 u, List.map_append]
    constructor
    · rintro ⟨q1, q2⟩
      refine ⟨fun x hx => ?_, fun r' hr' => ?_⟩
      · rcases List.mem_append.mp hx with hx | hx
        · exact q1 x hx
        · simp at hx; rw [hx]; exact q2 P hP
      · obtain ⟨r, hr, rfl⟩ := hr1 r' hr'
        rw [ev_lc]; exact (lc_z hcr (q2 P hP)).mpr (q2 r hr)
    · rintro ⟨q1, q2⟩
      have hP0 : ev_ P u = 0 := q1 P (List.mem_append_right _ (by simp))
      refine ⟨fun x hx => q1 x (List.mem_append_left _ hx), fun r hr => ?_⟩
      rcases hr2 r hr with rfl | hr'
      · exact hP0
      · have := q2 _ hr'
        rw [ev_lc] at this
        exact (lc_z hcr hP0).mp this
end
section
/-! a room that goes on for ever does so along a line in which two walls cross -/
def vl_ (b : Bool) (r : Rat) : Rat := if b = true then r else - r
theorem r1_vl {b : Bool} {r : Rat} : r1_ b r ↔ 0 ≤ vl_ b r := by
  cases b
  · simp [r1_, vl_]; grind
  · simp [r1_, vl_]
theorem vl_add (b : Bool) (r t q : Rat) : vl_ b (r + t * q) = vl_ b r + t * vl_ b q := by
  cases b
  · simp [vl_]; grind
  · simp [vl_]
theorem vl_mul (b : Bool) (t q : Rat) : vl_ b (t * q) = t * vl_ b q := by
  cases b
  · simp [vl_]; grind
  · simp [vl_]
theorem vl_z {b : Bool} {r : Rat} : vl_ b r = 0 ↔ r = 0 := by
  cases b
  · simp [vl_]; grind
  · simp [vl_]
theorem sq_z {a b c : Rat} (h : a * a + b * b + c * c = 0) : a = 0 ∧ b = 0 ∧ c = 0 := by
  have k : ∀ x : Rat, 0 ≤ x * x := fun x => by
    rcases Rat.le_total (a := 0) (b := x) with q | q
    · exact Rat.mul_nonneg q q
    · have := Rat.mul_nonneg (show 0 ≤ -x by grind) (show 0 ≤ -x by grind)
      grind
  have ka := k a
  have kb := k b
  have kc := k c
  have za : a * a = 0 := by grind
  have zb : b * b = 0 := by grind
  have zc : c * c = 0 := by grind
  refine ⟨?_, ?_, ?_⟩
  · rcases Rat.mul_eq_zero.mp za with q | q <;> exact q
  · rcases Rat.mul_eq_zero.mp zb with q | q <;> exact q
  · rcases Rat.mul_eq_zero.mp zc with q | q <;> exact q
theorem perp_off {u z : V3_} (hu : u ≠ o3_) (h : u.1 * z.1 + u.2.1 * z.2.1 + u.2.2 * z.2.2 = 0) (t : Rat) : ad_ u t z ≠ o3_ := by
  intro h0
  apply hu
  obtain ⟨u1, u2, u3⟩ := u
  obtain ⟨z1, z2, z3⟩ := z
  simp only [ad_, o3_, Prod.mk.injEq] at *
  obtain ⟨h1, h2, h3⟩ := h0
  exact sq_z (by grind)
theorem ray_step {L : List (Wl_ × Bool)} {u z : V3_} (hr : rB_ L u) (hT : ∀ x ∈ L, dr_ x.1 u = 0 → dr_ x.1 z = 0) (hne : ∀ t, ad_ u t z ≠ o3_) (hex : ∃ x ∈ L, dr_ x.1 z ≠ 0) :
    ∃ u', u' ≠ o3_ ∧ rB_ L u' ∧ (∀ x ∈ L, dr_ x.1 u = 0 → dr_ x.1 u' = 0) ∧ ∃ x ∈ L, dr_ x.1 u' = 0 ∧ dr_ x.1 z ≠ 0 := by
  have main : ∀ z : V3_, (∀ x ∈ L, dr_ x.1 u = 0 → dr_ x.1 z = 0) → (∀ t, ad_ u t z ≠ o3_) → (∃ x ∈ L, vl_ x.2 (dr_ x.1 z) < 0) → ∃ u', u' ≠ o3_ ∧ rB_ L u' ∧ (∀ x ∈ L, dr_ x.1 u = 0 → dr_ x.1 u' = 0) ∧ ∃ x ∈ L, dr_ x.1 u' = 0 ∧ dr_ x.1 z ≠ 0 := by
    intro z hT hne hex
    obtain ⟨x, hx, hx0, hmin⟩ := min_ex (fun x : Wl_ × Bool => vl_ x.2 (dr_ x.1 u) / (- vl_ x.2 (dr_ x.1 z))) (fun x => vl_ x.2 (dr_ x.1 z) < 0) L hex
    have hxn : - vl_ x.2 (dr_ x.1 z) ≠ 0 := fun h => by
      have : vl_ x.2 (dr_ x.1 z) = 0 := by grind
      rw [this] at hx0; exact Rat.lt_irrefl hx0
    have hxc := Rat.div_mul_cancel (a := vl_ x.2 (dr_ x.1 u)) hxn
    generalize ht : vl_ x.2 (dr_ x.1 u) / (- vl_ x.2 (dr_ x.1 z)) = t at *
    have ht0 : 0 ≤ t := by
      have h1 := r1_vl.mp (hr x hx)
      rcases Rat.le_total (a := 0) (b := t) with q | q
      · exact q
      · have := Rat.mul_nonneg (show 0 ≤ -t by grind) (show 0 ≤ - vl_ x.2 (dr_ x.1 z) by grind)
        have h2 : t * (- vl_ x.2 (dr_ x.1 z)) = 0 := by grind
        rcases Rat.mul_eq_zero.mp h2 with q | q
        · rw [q]; exact Rat.le_refl
        · exact absurd q hxn
    refine ⟨ad_ u t z, hne t, ?_, ?_, x, hx, ?_, ?_⟩
    · intro y hy
      rw [r1_vl, dr_ad, vl_add]
      have h1 := r1_vl.mp (hr y hy)
      rcases (show 0 ≤ vl_ y.2 (dr_ y.1 z) ∨ vl_ y.2 (dr_ y.1 z) < 0 by grind) with q | q
      · have := Rat.mul_nonneg ht0 q
        grind
      · have hm := hmin y hy q
        have hyn : - vl_ y.2 (dr_ y.1 z) ≠ 0 := fun h => by
          have : vl_ y.2 (dr_ y.1 z) = 0 := by grind
          rw [this] at q; exact Rat.lt_irrefl q
        have hyc := Rat.div_mul_cancel (a := vl_ y.2 (dr_ y.1 u)) hyn
        generalize vl_ y.2 (dr_ y.1 u) / (- vl_ y.2 (dr_ y.1 z)) = s at *
        have := Rat.mul_nonneg (show 0 ≤ s - t by grind) (show 0 ≤ - vl_ y.2 (dr_ y.1 z) by grind)
        grind
    · intro y hy h0
      rw [dr_ad, h0, hT y hy h0, Rat.mul_zero]; exact Rat.add_zero _
    · have : vl_ x.2 (dr_ x.1 (ad_ u t z)) = 0 := by rw [dr_ad, vl_add]; grind
      exact vl_z.mp this
    · intro h0
      apply hxn
      rw [h0]
      have : vl_ x.2 0 = 0 := vl_z.mpr rfl
      rw [this]; rfl
  obtain ⟨x, hx, hd⟩ := hex
  have hv : vl_ x.2 (dr_ x.1 z) ≠ 0 := fun h => hd (vl_z.mp h)
  rcases (show vl_ x.2 (dr_ x.1 z) < 0 ∨ 0 < vl_ x.2 (dr_ x.1 z) by grind) with q | q
  · exact main z hT hne ⟨x, hx, q⟩
  · obtain ⟨u', h1, h2, h3, y, hy, h4, h5⟩ := main (mu_ (-1) z) (fun y hy h0 => by rw [dr_mu, hT y hy h0, Rat.mul_zero]) (fun t => by
      have := hne (-t)
      intro h0
      apply this
      rw [← h0]
      simp only [ad_, mu_, Prod.mk.injEq]
      refine ⟨?_, ?_, ?_⟩ <;> grind) ⟨x, hx, by rw [dr_mu, vl_mul]; grind⟩
    refine ⟨u', h1, h2, h3, y, hy, h4, fun h0 => h5 ?_⟩
    rw [dr_mu, h0, Rat.mul_zero]
theorem rB_scale {L : List (Wl_ × Bool)} {u : V3_} {t : Rat} (ht : 0 < t) (h : rB_ L (mu_ t u)) : rB_ L u := by
  intro x hx
  have := r1_vl.mp (h x hx)
  rw [dr_mu, vl_mul] at this
  rw [r1_vl]
  rcases (show 0 ≤ vl_ x.2 (dr_ x.1 u) ∨ vl_ x.2 (dr_ x.1 u) < 0 by grind) with q | q
  · exact q
  · have := Rat.mul_pos ht (show 0 < - vl_ x.2 (dr_ x.1 u) by grind)
    grind
theorem ray_2 {L : List (Wl_ × Bool)} {u : V3_} (hu : u ≠ o3_) (hr : rB_ L u) {x y : Wl_} (hx : dr_ x u = 0) (hy : dr_ y u = 0) (hc : cx_ x y ≠ o3_) : rB_ L (cx_ x y) ∨ rB_ L (mu_ (-1) (cx_ x y)) := by
  obtain ⟨t, ht⟩ := along_cx hx hy hc
  rcases (show 0 < t ∨ t = 0 ∨ t < 0 by grind) with q | q | q
  · rw [ht] at hr; exact Or.inl (rB_scale q hr)
  · exfalso; apply hu; rw [ht, q]; simp only [mu_, o3_, Rat.zero_mul]
  · refine Or.inr (rB_scale (t := -t) (by grind) ?_)
    have : mu_ (-t) (mu_ (-1) (cx_ x y)) = u := by
      rw [ht]; simp only [mu_, Prod.mk.injEq]; refine ⟨?_, ?_, ?_⟩ <;> grind
    rw [this]; exact hr
theorem ray_1 {L : List (Wl_ × Bool)} (hn : ∀ x ∈ L, nv_ x.1 ≠ o3_) (hE : ∀ u, (∀ x ∈ L, dr_ x.1 u = 0) → u = o3_) {u : V3_} (hu : u ≠ o3_) (hr : rB_ L u) {x : Wl_ × Bool} (hx : x ∈ L) (hx0 : dr_ x.1 u = 0) :
    ∃ x ∈ L, ∃ y ∈ L, cx_ x.1 y.1 ≠ o3_ ∧ (rB_ L (cx_ x.1 y.1) ∨ rB_ L (mu_ (-1) (cx_ x.1 y.1))) := by
  by_cases h2 : R2_ (fun w => ∃ b, (w, b) ∈ L ∧ dr_ w u = 0)
  · obtain ⟨a, b, ⟨ba, ha, ha0⟩, ⟨bb, hb, hb0⟩, hc⟩ := h2
    exact ⟨(a, ba), ha, (b, bb), hb, hc, ray_2 hu hr ha0 hb0 hc⟩
  · -- across the normal and across u
    have hz : ∃ z : V3_, z ≠ o3_ ∧ dr_ x.1 z = 0 ∧ u.1 * z.1 + u.2.1 * z.2.1 + u.2.2 * z.2.2 = 0 := by
      obtain ⟨z, h1, h3, h4⟩ := perp_2 (nv_ x.1) u
      exact ⟨z, h1, h3, h4⟩
    obtain ⟨z, hz0, hzx, hzu⟩ := hz
    have hT : ∀ y ∈ L, dr_ y.1 u = 0 → dr_ y.1 z = 0 := fun y hy h0 => par_all (X := fun w => ∃ b, (w, b) ∈ L ∧ dr_ w u = 0) h2 ⟨x.2, hx, hx0⟩ ⟨y.2, hy, h0⟩ (hn x hx) hzx
    have hex : ∃ y ∈ L, dr_ y.1 z ≠ 0 := Classical.byContradiction (fun hno => hz0 (hE z (fun y hy => Classical.byContradiction (fun h => hno ⟨y, hy, h⟩))))
    obtain ⟨u', h1, h3, h4, y, hy, h5, h6⟩ := ray_step hr hT (perp_off hu hzu) hex
    have hc : cx_ x.1 y.1 ≠ o3_ := fun h0 => h6 (par_2 h0 (hn x hx) hzx)
    exact ⟨x, hx, y, hy, hc, ray_2 h1 h3 (h4 x hx hx0) h5 hc⟩
/-- A LINE OF TWO WALLS LEADS ON -/
theorem ray_all {L : List (Wl_ × Bool)} (hn : ∀ x ∈ L, nv_ x.1 ≠ o3_) (hE : ∀ u, (∀ x ∈ L, dr_ x.1 u = 0) → u = o3_) (h : ∃ u, u ≠ o3_ ∧ rB_ L u) :
    ∃ x ∈ L, ∃ y ∈ L, cx_ x.1 y.1 ≠ o3_ ∧ (rB_ L (cx_ x.1 y.1) ∨ rB_ L (mu_ (-1) (cx_ x.1 y.1))) := by
  obtain ⟨u, hu, hr⟩ := h
  by_cases hx : ∃ x ∈ L, dr_ x.1 u = 0
  · obtain ⟨x, hx, hx0⟩ := hx
    exact ray_1 hn hE hu hr hx hx0
  · obtain ⟨z, hz0, hzu, -⟩ := perp_2 u u
    have hT : ∀ y ∈ L, dr_ y.1 u = 0 → dr_ y.1 z = 0 := fun y hy h0 => absurd ⟨y, hy, h0⟩ hx
    have hex : ∃ y ∈ L, dr_ y.1 z ≠ 0 := Classical.byContradiction (fun hno => hz0 (hE z (fun y hy => Classical.byContradiction (fun h => hno ⟨y, hy, h⟩))))
    obtain ⟨u', h1, h3, h4, y, hy, h5, h6⟩ := ray_step hr hT (perp_off hu hzu) hex
    exact ray_1 hn hE h1 h3 hy h5
end
section
/-! the functions of the methods, by program (gen.py, split.py) -/
def fJ6_bitCount_0f7a4 (p1 : Int32) : Option Int32 :=
  nm_ (p1 - ((p1.toUInt32 >>> ((1 : Int32).toUInt32 &&& Int32.toUInt32 31)).toInt32 &&& (1431655765 : Int32))) (fun (n1 : Int32) => nm_ ((n1 &&& (858993459 : Int32)) + ((n1.toUInt32 >>> ((2 : Int32).toUInt32 &&& Int32.toUInt32 31)).toInt32 &&& (858993459 : Int32))) (fun (n2 : Int32) => nm_ ((n2 + (n2.toUInt32 >>> ((4 : Int32).toUInt32 &&& Int32.toUInt32 31)).toInt32) &&& (252645135 : Int32)) (fun (n3 : Int32) => nm_ ((n3 + (n3.toUInt32 >>> ((8 : Int32).toUInt32 &&& Int32.toUInt32 31)).toInt32) + ((n3 + (n3.toUInt32 >>> ((8 : Int32).toUInt32 &&& Int32.toUInt32 31)).toInt32).toUInt32 >>> ((16 : Int32).toUInt32 &&& Int32.toUInt32 31)).toInt32) (fun (n4 : Int32) => some (n4 &&& (63 : Int32))))))
def fJ9_floorMod_7cf53 (p1 : Int32) (p2 : Int32) : Option Int32 :=
  ck_ (¬ p2 = 0) ((if 0 ≤ (p1 ^^^ p2) then some (p1 - p1 / p2 * p2) else (if (p1 - p1 / p2 * p2) = 0 then some (p1 - p1 / p2 * p2) else some ((p1 - p1 / p2 * p2) + p2))))
def fX5_isTooFar (p1 : Int32) : Option Int32 :=
  (if (1000000 : Int32) < p1 then some (1 : Int32) else (if (-1000000 : Int32) ≤ p1 then some (0 : Int32) else some (1 : Int32)))
def fX5_isPrime_L15 (p1 : Int32) (v3 : Int32) : Option (Int32 ⊕ (Int32 ⊕ Int32)) :=
  (if p1 < (v3 * v3) then some (.inr (.inl v3)) else ck_ (¬ v3 = 0) ((if (p1 - p1 / v3 * v3) = 0 then some (.inr (.inr (0 : Int32))) else some (.inl (v3 + (1 : Int32))))))
def fX5_isPrime (p1 : Int32) : Option Int32 :=
  (if p1 < (2 : Int32) then some (0 : Int32) else (if p1 ≤ (31 : Int32) then (lp_ (fun (st : Int32) => fX5_isPrime_L15 p1 st) fu_ (2 : Int32)).bind fun (u4 : (Int32 ⊕ Int32)) => Sum.elim (fun (x8 : Int32) => some (1 : Int32)) (fun y => some y) u4 else some (0 : Int32)))
def fX5_maskOf_L7 (p2 : Int32) (v1 : Int32) (v2 : Int32) (v3 : Int32) : Option ((Int32 × Int32 × Int32) ⊕ (Int32 × Int32 × Int32)) :=
  (if (8 : Int32) ≤ v1 then some (.inr (v1, v2, v3)) else (if (v2 - v2 / (3 : Int32) * (3 : Int32)) = p2 then some (.inl ((v1 + (1 : Int32)), (v2 / (3 : Int32)), (v3 ||| ((1 : Int32) <<< (v1 &&& 31))))) else some (.inl ((v1 + (1 : Int32)), (v2 / (3 : Int32)), v3))))
def fX5_maskOf (p1 : Int32) (p2 : Int32) : Option Int32 :=
  (lp_ (fun (st : (Int32 × Int32 × Int32)) => fX5_maskOf_L7 p2 st.1 st.2.1 st.2.2) fu_ ((0 : Int32), p1, (0 : Int32))).bind fun (u4 : (Int32 × Int32 × Int32)) => some u4.2.2
def fX5_parting (p1 : Int32) (p2 : Int32) : Option Int32 :=
  (fX5_maskOf p1 (2 : Int32)).bind fun (u1 : Int32) => (fX5_maskOf p2 (2 : Int32)).bind fun (u3 : Int32) => some (u1 ^^^ u3)
def fX5_onMask (p1 : Int32) : Option Int32 :=
  some (p1 &&& (255 : Int32))
def fX5_aboveMask (p1 : Int32) : Option Int32 :=
  some ((p1 >>> ((8 : Int32) &&& 31)) &&& (255 : Int32))
def fX5_across (p1 : Int32) (p2 : Int32) : Option Int32 :=
  (if p2 < 0 then some (-1 : Int32) else (if p2 < (8 : Int32) then ck_ (in_R p2 8) (ck_ (in_R p2 8) (ck_ (¬ (pw_ p2.toNatClampNeg) = 0) ((if ((p1 / (pw_ p2.toNatClampNeg)) - (p1 / (pw_ p2.toNatClampNeg)) / (3 : Int32) * (3 : Int32)) = 0 then some (p1 + ((2 : Int32) * (pw_ p2.toNatClampNeg))) else some (p1 - ((2 : Int32) * (pw_ p2.toNatClampNeg))))))) else some (-1 : Int32)))
def fX3_isWithin (p1 : Int32) (p2 : Int32) : Option Int32 :=
  (if p1 < (-p2) then some (0 : Int32) else (if p2 < p1 then some (0 : Int32) else some (1 : Int32)))
def fX4_inverse_L2 (p2 : Int32) (p1 : Int32) (v1 : Int32) : Option (Int32 ⊕ (Int32 ⊕ Int32)) :=
  (if p2 ≤ v1 then some (.inr (.inl v1)) else ck_ (¬ p2 = 0) ((if ((p1 * v1) - (p1 * v1) / p2 * p2) = (1 : Int32) then some (.inr (.inr v1)) else some (.inl (v1 + (1 : Int32))))))
def fX4_inverse (p1 : Int32) (p2 : Int32) : Option Int32 :=
  (lp_ (fun (st : Int32) => fX4_inverse_L2 p2 p1 st) fu_ (1 : Int32)).bind fun (u2 : (Int32 ⊕ Int32)) => Sum.elim (fun (x6 : Int32) => some (0 : Int32)) (fun y => some y) u2
def fX6_in (p1 : Int32) (p2 : Int32) (p3 : Int32) : Option Int32 :=
  (if p1 < p2 then some (0 : Int32) else (if p3 < p1 then some (0 : Int32) else some (1 : Int32)))
def fX6_power_L4 (p1 : Int32) (v1 : Int32) (v2 : Int32) : Option ((Int32 × Int32) ⊕ (Int32 × Int32)) :=
  (if p1 ≤ v1 then some (.inr (v1, v2)) else some (.inl ((v1 + (1 : Int32)), (v2 * (3 : Int32)))))
def fX6_power (p1 : Int32) : Option Int32 :=
  (lp_ (fun (st : (Int32 × Int32)) => fX6_power_L4 p1 st.1 st.2) fu_ ((0 : Int32), (1 : Int32))).bind fun (u3 : (Int32 × Int32)) => some u3.2
def fX6_sign (p1 : Int32) (p2 : Int32) : Option Int32 :=
  (fX6_power p2).bind fun (u1 : Int32) => ck_ (¬ u1 = 0) (some ((p1 / u1) - (p1 / u1) / (3 : Int32) * (3 : Int32)))
def fX6_odd_L4 (p1 : Int32) (v1 : Int32) (v2 : Int32) : Option ((Int32 × Int32) ⊕ (Int32 × Int32)) :=
  (if (8 : Int32) ≤ v1 then some (.inr (v1, v2)) else some (.inl ((v1 + (1 : Int32)), (v2 + ((p1 >>> (v1 &&& 31)) &&& (1 : Int32))))))
def fX6_odd (p1 : Int32) : Option Int32 :=
  (lp_ (fun (st : (Int32 × Int32)) => fX6_odd_L4 p1 st.1 st.2) fu_ ((0 : Int32), (0 : Int32))).bind fun (u3 : (Int32 × Int32)) => (if (u3.2 - u3.2 / (2 : Int32) * (2 : Int32)) = 0 then some (1 : Int32) else some (-1 : Int32))
def fX6_across (p1 : Int32) (p2 : Int32) : Option Int32 :=
  (fX6_power p2).bind fun (u1 : Int32) => (fX6_sign p1 p2).bind fun (u3 : Int32) => some (p1 + (u1 * ((2 : Int32) - ((2 : Int32) * u3))))
def fX6_bits_L4 (p1 : Int32) (v1 : Int32) (v2 : Int32) : Option ((Int32 × Int32) ⊕ (Int32 × Int32)) :=
  (if (8 : Int32) ≤ v1 then some (.inr (v1, v2)) else some (.inl ((v1 + (1 : Int32)), (v2 + ((p1 >>> (v1 &&& 31)) &&& (1 : Int32))))))
def fX6_bits (p1 : Int32) : Option Int32 :=
  (lp_ (fun (st : (Int32 × Int32)) => fX6_bits_L4 p1 st.1 st.2) fu_ ((0 : Int32), (0 : Int32))).bind fun (u3 : (Int32 × Int32)) => some u3.2
def fX6_size (p1 : Int64) : Option Int64 :=
  (if 0 ≤ (lg_cmp p1 (0 : Int64)) then some p1 else some (-p1))
def fX3_holds (vsz : Int32) (p1 : Int32) : Option Int32 :=
  (if p1 < 0 then some (0 : Int32) else (if vsz ≤ p1 then some (0 : Int32) else some (1 : Int32)))
def fX3_isPlane (vnum : Int32) (p1 : Int32) (p2 : Int32) (p3 : Int32) (p4 : Int32) : Option Int32 :=
  (fX3_isWithin p1 (9 : Int32)).bind fun (u1 : Int32) => (if u1 = 0 then some (0 : Int32) else (fX3_isWithin p2 (9 : Int32)).bind fun (u4 : Int32) => (if u4 = 0 then some (0 : Int32) else (fX3_isWithin p3 (9 : Int32)).bind fun (u7 : Int32) => (if u7 = 0 then some (0 : Int32) else (fX3_isWithin p4 (99 : Int32)).bind fun (u10 : Int32) => (if u10 = 0 then some (0 : Int32) else (if (2 : Int32) ≤ vnum then (if (3 : Int32) ≤ vnum then (if p1 = 0 then (if p2 = 0 then (if p3 = 0 then some (0 : Int32) else some (1 : Int32)) else some (1 : Int32)) else some (1 : Int32)) else (if p3 = 0 then (if p1 = 0 then (if p2 = 0 then (if p3 = 0 then some (0 : Int32) else some (1 : Int32)) else some (1 : Int32)) else some (1 : Int32)) else some (0 : Int32))) else (if p2 = 0 then (if (3 : Int32) ≤ vnum then (if p1 = 0 then (if p2 = 0 then (if p3 = 0 then some (0 : Int32) else some (1 : Int32)) else some (1 : Int32)) else some (1 : Int32)) else (if p3 = 0 then (if p1 = 0 then (if p2 = 0 then (if p3 = 0 then some (0 : Int32) else some (1 : Int32)) else some (1 : Int32)) else some (1 : Int32)) else some (0 : Int32))) else some (0 : Int32)))))))
def fX3_isThere_L3 (vsz : Int32) (va : (Nat → Int32)) (p2 : Int32) (vb : (Nat → Int32)) (p1 : Int32) (p3 : Int32) (vc : (Nat → Int32)) (p4 : Int32) (ve : (Nat → Int32)) (v1 : Int32) : Option (Int32 ⊕ (Int32 ⊕ Int32)) :=
  (if vsz ≤ v1 then some (.inr (.inl v1)) else ck_ (in_R v1 11) (ck_ (in_R v1 11) ((if ((va v1.toNatClampNeg) * p2) = ((vb v1.toNatClampNeg) * p1) then ck_ (in_R v1 11) (ck_ (in_R v1 11) ((if ((va v1.toNatClampNeg) * p3) = ((vc v1.toNatClampNeg) * p1) then ck_ (in_R v1 11) (ck_ (in_R v1 11) ((if ((vb v1.toNatClampNeg) * p3) = ((vc v1.toNatClampNeg) * p2) then ck_ (in_R v1 11) (ck_ (in_R v1 11) ((if ((va v1.toNatClampNeg) * p4) = ((ve v1.toNatClampNeg) * p1) then ck_ (in_R v1 11) (ck_ (in_R v1 11) ((if ((vb v1.toNatClampNeg) * p4) = ((ve v1.toNatClampNeg) * p2) then ck_ (in_R v1 11) (ck_ (in_R v1 11) ((if ((vc v1.toNatClampNeg) * p4) = ((ve v1.toNatClampNeg) * p3) then some (.inr (.inr (1 : Int32))) else some (.inl (v1 + (1 : Int32)))))) else some (.inl (v1 + (1 : Int32)))))) else some (.inl (v1 + (1 : Int32)))))) else some (.inl (v1 + (1 : Int32)))))) else some (.inl (v1 + (1 : Int32)))))) else some (.inl (v1 + (1 : Int32)))))))
def fX3_isThere (vsz : Int32) (va : (Nat → Int32)) (vb : (Nat → Int32)) (vc : (Nat → Int32)) (ve : (Nat → Int32)) (p1 : Int32) (p2 : Int32) (p3 : Int32) (p4 : Int32) : Option Int32 :=
  (lp_ (fun (st : Int32) => fX3_isThere_L3 vsz va p2 vb p1 p3 vc p4 ve st) fu_ (0 : Int32)).bind fun (u2 : (Int32 ⊕ Int32)) => Sum.elim (fun (x6 : Int32) => some (0 : Int32)) (fun y => some y) u2
def fX3_append (vsz : Int32) (va : (Nat → Int32)) (vb : (Nat → Int32)) (vc : (Nat → Int32)) (ve : (Nat → Int32)) (p1 : Int32) (p2 : Int32) (p3 : Int32) (p4 : Int32) : Option (Int32 × (Nat → Int32) × (Nat → Int32) × (Nat → Int32) × (Nat → Int32)) :=
  (if vsz < (8 : Int32) then ck_ (in_R vsz 11) (ck_ (in_R vsz 11) (ck_ (in_R vsz 11) (ck_ (in_R vsz 11) (some ((vsz + (1 : Int32)), (upd va vsz.toNatClampNeg p1), (upd vb vsz.toNatClampNeg p2), (upd vc vsz.toNatClampNeg p3), (upd ve vsz.toNatClampNeg p4)))))) else some (vsz, va, vb, vc, ve))
def fX3_drop_L11 (vsz : Int32) (v4 : Int32) (v5 : (Nat → Int32)) (v6 : (Nat → Int32)) (v7 : (Nat → Int32)) (v8 : (Nat → Int32)) : Option ((Int32 × (Nat → Int32) × (Nat → Int32) × (Nat → Int32) × (Nat → Int32)) ⊕ (Int32 × (Nat → Int32) × (Nat → Int32) × (Nat → Int32) × (Nat → Int32))) :=
  (if vsz ≤ (v4 + (1 : Int32)) then some (.inr (v4, v5, v6, v7, v8)) else ck_ (in_R (v4 + (1 : Int32)) 11) (ck_ (in_R v4 11) (ck_ (in_R (v4 + (1 : Int32)) 11) (ck_ (in_R v4 11) (ck_ (in_R (v4 + (1 : Int32)) 11) (ck_ (in_R v4 11) (ck_ (in_R (v4 + (1 : Int32)) 11) (ck_ (in_R v4 11) (some (.inl ((v4 + (1 : Int32)), (upd v5 v4.toNatClampNeg (v5 (v4 + (1 : Int32)).toNatClampNeg)), (upd v6 v4.toNatClampNeg (v6 (v4 + (1 : Int32)).toNatClampNeg)), (upd v7 v4.toNatClampNeg (v7 (v4 + (1 : Int32)).toNatClampNeg)), (upd v8 v4.toNatClampNeg (v8 (v4 + (1 : Int32)).toNatClampNeg)))))))))))))
def fX3_drop (vsz : Int32) (va : (Nat → Int32)) (vb : (Nat → Int32)) (vc : (Nat → Int32)) (ve : (Nat → Int32)) (p1 : Int32) : Option (Int32 × (Nat → Int32) × (Nat → Int32) × (Nat → Int32) × (Nat → Int32)) :=
  (fX3_holds vsz p1).bind fun (u1 : Int32) => (if u1 = 0 then some (vsz, va, vb, vc, ve) else (lp_ (fun (st : (Int32 × (Nat → Int32) × (Nat → Int32) × (Nat → Int32) × (Nat → Int32))) => fX3_drop_L11 vsz st.1 st.2.1 st.2.2.1 st.2.2.2.1 st.2.2.2.2) fu_ (p1, va, vb, vc, ve)).bind fun (u9 : (Int32 × (Nat → Int32) × (Nat → Int32) × (Nat → Int32) × (Nat → Int32))) => some ((vsz - (1 : Int32)), u9.2.1, u9.2.2.1, u9.2.2.2.1, u9.2.2.2.2))
def fX3_indexOf (vsz : Int32) (p1 : Int32) : Option Int32 :=
  (if vsz ≤ p1 then some (if (10 : Int32) < (((8 : Int32) + p1) - vsz) then (10 : Int32) else (((8 : Int32) + p1) - vsz)) else some p1)
def fX3_signs_L6 (vsz : Int32) (va : (Nat → Int32)) (p1 : Int32) (vb : (Nat → Int32)) (p2 : Int32) (vc : (Nat → Int32)) (p3 : Int32) (ve : (Nat → Int32)) (p4 : Int32) (v1 : Int32) (v2 : Int32) : Option ((Int32 × Int32) ⊕ (Int32 × Int32)) :=
  (if vsz ≤ v1 then some (.inr (v1, v2)) else ck_ (in_R v1 11) (ck_ (in_R v1 11) (ck_ (in_R v1 11) (ck_ (in_R v1 11) (nm_ (((((va v1.toNatClampNeg) * p1) + ((vb v1.toNatClampNeg) * p2)) + ((vc v1.toNatClampNeg) * p3)) - ((ve v1.toNatClampNeg) * p4)) (fun (n15 : Int32) => (if n15 = 0 then some (.inl ((v1 + (1 : Int32)), (v2 ||| ((1 : Int32) <<< (v1 &&& 31))))) else (if n15 ≤ 0 then some (.inl ((v1 + (1 : Int32)), v2)) else some (.inl ((v1 + (1 : Int32)), (v2 ||| ((1 : Int32) <<< ((v1 + (8 : Int32)) &&& 31)))))))))))))
def fX3_signs (vsz : Int32) (va : (Nat → Int32)) (vb : (Nat → Int32)) (vc : (Nat → Int32)) (ve : (Nat → Int32)) (p1 : Int32) (p2 : Int32) (p3 : Int32) (p4 : Int32) : Option Int32 :=
  (lp_ (fun (st : (Int32 × Int32)) => fX3_signs_L6 vsz va p1 vb p2 vc p3 ve p4 st.1 st.2) fu_ ((0 : Int32), (0 : Int32))).bind fun (u3 : (Int32 × Int32)) => some u3.2
def fX3_rowOf (vth : (Nat → Int32)) (p1 : Int32) : Option Int32 :=
  (fX5_onMask p1).bind fun (u1 : Int32) => ck_ (in_R u1 256) ((fX5_aboveMask p1).bind fun (u4 : Int32) => ck_ (in_R u4 256) (some ((vth u1.toNatClampNeg) + ((2 : Int32) * (vth u4.toNatClampNeg)))))
def fX0_set (p1 : Int32) (p2 : Int32) (p3 : Int32) : Option (Int32 × Int32 × Int32) :=
  some (p1, p2, p3)
def fX0_crossWith (va : (Nat → Int32)) (vb : (Nat → Int32)) (vc : (Nat → Int32)) (k0x : Int32) (k0y : Int32) (k0z : Int32) (p1 : Int32) : Option (Int32 × Int32 × Int32) :=
  ck_ (in_R p1 11) (ck_ (in_R p1 11) (ck_ (in_R p1 11) ((fX0_set ((k0y * (vc p1.toNatClampNeg)) - (k0z * (vb p1.toNatClampNeg))) ((k0z * (va p1.toNatClampNeg)) - (k0x * (vc p1.toNatClampNeg))) ((k0x * (vb p1.toNatClampNeg)) - (k0y * (va p1.toNatClampNeg)))).bind fun (u4 : (Int32 × Int32 × Int32)) => some (u4.1, u4.2.1, u4.2.2))))
def fX0_alongBoth (va : (Nat → Int32)) (vb : (Nat → Int32)) (vc : (Nat → Int32)) (p1 : Int32) (p2 : Int32) : Option (Int32 × Int32 × Int32) :=
  ck_ (in_R p1 11) (ck_ (in_R p1 11) (ck_ (in_R p1 11) ((fX0_set (va p1.toNatClampNeg) (vb p1.toNatClampNeg) (vc p1.toNatClampNeg)).bind fun (u4 : (Int32 × Int32 × Int32)) => (fX0_crossWith va vb vc u4.1 u4.2.1 u4.2.2 p2).bind fun (u6 : (Int32 × Int32 × Int32)) => some (u6.1, u6.2.1, u6.2.2))))
def fX0_climb (va : (Nat → Int32)) (vb : (Nat → Int32)) (vc : (Nat → Int32)) (k0x : Int32) (k0y : Int32) (k0z : Int32) (p1 : Int32) : Option Int32 :=
  ck_ (in_R p1 11) (ck_ (in_R p1 11) (ck_ (in_R p1 11) (some ((((va p1.toNatClampNeg) * k0x) + ((vb p1.toNatClampNeg) * k0y)) + ((vc p1.toNatClampNeg) * k0z)))))
def fX0_isNothing (k0x : Int32) (k0y : Int32) (k0z : Int32) : Option Int32 :=
  (if k0x = 0 then (if k0y = 0 then (if k0z = 0 then some (1 : Int32) else some (0 : Int32)) else some (0 : Int32)) else some (0 : Int32))
def fX2_rankOfAll (vsz : Int32) (vrk : (Nat → Int32)) : Option Int32 :=
  ck_ (in_R (((1 : Int32) <<< (vsz &&& 31)) - (1 : Int32)) 256) (some (vrk (((1 : Int32) <<< (vsz &&& 31)) - (1 : Int32)).toNatClampNeg))
def fX2_forgetCommon_L2  (v1 : Int32) (v2 : (Nat → Int32)) : Option ((Int32 × (Nat → Int32)) ⊕ (Int32 × (Nat → Int32))) :=
  (if (256 : Int32) ≤ v1 then some (.inr (v1, v2)) else ck_ (in_R v1 256) (some (.inl ((v1 + (1 : Int32)), (upd v2 v1.toNatClampNeg (vp_nar .boolean (0 : Int32)))))))
def fX2_forgetCommon (vcm : (Nat → Int32)) : Option (Nat → Int32) :=
  (lp_ (fun (st : (Int32 × (Nat → Int32))) => fX2_forgetCommon_L2  st.1 st.2) fu_ ((0 : Int32), vcm)).bind fun (u3 : (Int32 × (Nat → Int32))) => some u3.2
def fX2_rankWith (va : (Nat → Int32)) (vb : (Nat → Int32)) (vc : (Nat → Int32)) (vrk : (Nat → Int32)) (vkx : (Nat → Int32)) (vky : (Nat → Int32)) (vkz : (Nat → Int32)) (p1 : Int32) (p2 : Int32) : Option ((Nat → Int32) × (Nat → Int32) × (Nat → Int32) × (Nat → Int32) × Int32 × Int32 × Int32) :=
  ck_ (in_R p1 256) (ck_ (in_R p1 256) (ck_ (in_R p1 256) (ck_ (in_R p1 256) ((fX0_set (vkx p1.toNatClampNeg) (vky p1.toNatClampNeg) (vkz p1.toNatClampNeg)).bind fun (u5 : (Int32 × Int32 × Int32)) => ((if (vrk p1.toNatClampNeg) = 0 then ck_ (in_R p2 11) (ck_ (in_R p2 11) (ck_ (in_R p2 11) ((fX0_set (va p2.toNatClampNeg) (vb p2.toNatClampNeg) (vc p2.toNatClampNeg)).bind fun (u33 : (Int32 × Int32 × Int32)) => some ((1 : Int32), u33.1, u33.2.1, u33.2.2)))) else (if (vrk p1.toNatClampNeg) = (1 : Int32) then (fX0_crossWith va vb vc u5.1 u5.2.1 u5.2.2 p2).bind fun (u20 : (Int32 × Int32 × Int32)) => (fX0_isNothing u20.1 u20.2.1 u20.2.2).bind fun (u22 : Int32) => (if u22 = 0 then some ((2 : Int32), u20.1, u20.2.1, u20.2.2) else ck_ (in_R p1 256) (ck_ (in_R p1 256) (ck_ (in_R p1 256) ((fX0_set (vkx p1.toNatClampNeg) (vky p1.toNatClampNeg) (vkz p1.toNatClampNeg)).bind fun (u28 : (Int32 × Int32 × Int32)) => some ((vrk p1.toNatClampNeg), u28.1, u28.2.1, u28.2.2))))) else (if (vrk p1.toNatClampNeg) = (2 : Int32) then (fX0_climb va vb vc u5.1 u5.2.1 u5.2.2 p2).bind fun (u17 : Int32) => (if u17 = 0 then some ((vrk p1.toNatClampNeg), u5.1, u5.2.1, u5.2.2) else some ((3 : Int32), u5.1, u5.2.1, u5.2.2)) else some ((vrk p1.toNatClampNeg), u5.1, u5.2.1, u5.2.2))))).bind fun (u7 : (Int32 × Int32 × Int32 × Int32)) => ck_ (in_R (p1 ||| ((1 : Int32) <<< (p2 &&& 31))) 256) (ck_ (in_R (p1 ||| ((1 : Int32) <<< (p2 &&& 31))) 256) (ck_ (in_R (p1 ||| ((1 : Int32) <<< (p2 &&& 31))) 256) (ck_ (in_R (p1 ||| ((1 : Int32) <<< (p2 &&& 31))) 256) (some ((upd vrk (p1 ||| ((1 : Int32) <<< (p2 &&& 31))).toNatClampNeg u7.1), (upd vkx (p1 ||| ((1 : Int32) <<< (p2 &&& 31))).toNatClampNeg u7.2.1), (upd vky (p1 ||| ((1 : Int32) <<< (p2 &&& 31))).toNatClampNeg u7.2.2.1), (upd vkz (p1 ||| ((1 : Int32) <<< (p2 &&& 31))).toNatClampNeg u7.2.2.2), u7.2.1, u7.2.2.1, u7.2.2.2)))))))))
def fX2_rankAnew_L15 (v1 : Int32) (va : (Nat → Int32)) (vb : (Nat → Int32)) (vc : (Nat → Int32)) (v17 : Int32) (v18 : (Nat → Int32)) (v19 : (Nat → Int32)) (v20 : (Nat → Int32)) (v21 : (Nat → Int32)) (v22 : Int32) (v23 : Int32) (v24 : Int32) : Option ((Int32 × (Nat → Int32) × (Nat → Int32) × (Nat → Int32) × (Nat → Int32) × Int32 × Int32 × Int32) ⊕ (Int32 × (Nat → Int32) × (Nat → Int32) × (Nat → Int32) × (Nat → Int32) × Int32 × Int32 × Int32)) :=
  (if ((1 : Int32) <<< (v1 &&& 31)) ≤ v17 then some (.inr (v17, v18, v19, v20, v21, v22, v23, v24)) else (fX2_rankWith va vb vc v18 v19 v20 v21 v17 v1).bind fun (u33 : ((Nat → Int32) × (Nat → Int32) × (Nat → Int32) × (Nat → Int32) × Int32 × Int32 × Int32)) => some (.inl ((v17 + (1 : Int32)), u33.1, u33.2.1, u33.2.2.1, u33.2.2.2.1, u33.2.2.2.2.1, u33.2.2.2.2.2.1, u33.2.2.2.2.2.2)))
def fX2_rankAnew_L2 (vsz : Int32) (va : (Nat → Int32)) (vb : (Nat → Int32)) (vc : (Nat → Int32)) (v1 : Int32) (v2 : (Nat → Int32)) (v3 : (Nat → Int32)) (v4 : (Nat → Int32)) (v5 : (Nat → Int32)) (v6 : Int32) (v7 : Int32) (v8 : Int32) : Option ((Int32 × (Nat → Int32) × (Nat → Int32) × (Nat → Int32) × (Nat → Int32) × Int32 × Int32 × Int32) ⊕ (Int32 × (Nat → Int32) × (Nat → Int32) × (Nat → Int32) × (Nat → Int32) × Int32 × Int32 × Int32)) :=
  (if vsz ≤ v1 then some (.inr (v1, v2, v3, v4, v5, v6, v7, v8)) else (lp_ (fun (st : (Int32 × (Nat → Int32) × (Nat → Int32) × (Nat → Int32) × (Nat → Int32) × Int32 × Int32 × Int32)) => fX2_rankAnew_L15 v1 va vb vc st.1 st.2.1 st.2.2.1 st.2.2.2.1 st.2.2.2.2.1 st.2.2.2.2.2.1 st.2.2.2.2.2.2.1 st.2.2.2.2.2.2.2) fu_ ((0 : Int32), v2, v3, v4, v5, v6, v7, v8)).bind fun (u25 : (Int32 × (Nat → Int32) × (Nat → Int32) × (Nat → Int32) × (Nat → Int32) × Int32 × Int32 × Int32)) => some (.inl ((v1 + (1 : Int32)), u25.2.1, u25.2.2.1, u25.2.2.2.1, u25.2.2.2.2.1, u25.2.2.2.2.2.1, u25.2.2.2.2.2.2.1, u25.2.2.2.2.2.2.2)))
def fX2_rankAnew (vsz : Int32) (va : (Nat → Int32)) (vb : (Nat → Int32)) (vc : (Nat → Int32)) (vrk : (Nat → Int32)) (vkx : (Nat → Int32)) (vky : (Nat → Int32)) (vkz : (Nat → Int32)) (k0x : Int32) (k0y : Int32) (k0z : Int32) : Option ((Nat → Int32) × (Nat → Int32) × (Nat → Int32) × (Nat → Int32) × Int32 × Int32 × Int32) :=
  (lp_ (fun (st : (Int32 × (Nat → Int32) × (Nat → Int32) × (Nat → Int32) × (Nat → Int32) × Int32 × Int32 × Int32)) => fX2_rankAnew_L2 vsz va vb vc st.1 st.2.1 st.2.2.1 st.2.2.2.1 st.2.2.2.2.1 st.2.2.2.2.2.1 st.2.2.2.2.2.2.1 st.2.2.2.2.2.2.2) fu_ ((0 : Int32), vrk, vkx, vky, vkz, k0x, k0y, k0z)).bind fun (u9 : (Int32 × (Nat → Int32) × (Nat → Int32) × (Nat → Int32) × (Nat → Int32) × Int32 × Int32 × Int32)) => some (u9.2.1, u9.2.2.1, u9.2.2.2.1, u9.2.2.2.2.1, u9.2.2.2.2.2.1, u9.2.2.2.2.2.2.1, u9.2.2.2.2.2.2.2)
def fX2_shareDown_L18 (vsz : Int32) (v1 : Int32) (v11 : Int32) (v12 : (Nat → Int32)) : Option ((Int32 × (Nat → Int32)) ⊕ (Int32 × (Nat → Int32))) :=
  (if vsz ≤ v11 then some (.inr (v11, v12)) else ck_ (in_R v1 256) ((if (v12 v1.toNatClampNeg) = 0 then some (.inr (v11, v12)) else ck_ (in_R (v1 &&& (((1 : Int32) <<< (v11 &&& 31)) ^^^ (-1 : Int32))) 256) (some (.inl ((v11 + (1 : Int32)), (upd v12 (v1 &&& (((1 : Int32) <<< (v11 &&& 31)) ^^^ (-1 : Int32))).toNatClampNeg (vp_nar .boolean (1 : Int32)))))))))
def fX2_shareDown_L12 (vsz : Int32) (v1 : Int32) (v2 : (Nat → Int32)) : Option ((Int32 × (Nat → Int32)) ⊕ (Int32 × (Nat → Int32))) :=
  (if v1 ≤ 0 then some (.inr (v1, v2)) else (lp_ (fun (st : (Int32 × (Nat → Int32))) => fX2_shareDown_L18 vsz v1 st.1 st.2) fu_ ((0 : Int32), v2)).bind fun (u13 : (Int32 × (Nat → Int32))) => some (.inl ((v1 + (-1 : Int32)), u13.2)))
def fX2_shareDown (vsz : Int32) (vcm : (Nat → Int32)) : Option (Nat → Int32) :=
  (lp_ (fun (st : (Int32 × (Nat → Int32))) => fX2_shareDown_L12 vsz st.1 st.2) fu_ ((((1 : Int32) <<< (vsz &&& 31)) - (1 : Int32)), vcm)).bind fun (u3 : (Int32 × (Nat → Int32))) => some u3.2
def fX2_factor_L5 (vsz : Int32) (vcm : (Nat → Int32)) (p2 : Int32) (vnum : Int32) (vrk : (Nat → Int32)) (p1 : Int32) (v1 : Int32) (v2 : Int32) : Option ((Int32 × Int32) ⊕ (Int32 × Int32)) :=
  (if ((1 : Int32) <<< (vsz &&& 31)) ≤ v1 then some (.inr (v1, v2)) else ck_ (in_R v1 256) ((if (vcm v1.toNatClampNeg) = 0 then some (.inl ((v1 + (1 : Int32)), v2)) else (if (v1 &&& p2) = 0 then ck_ (in_R v1 256) ((if (vnum - (vrk v1.toNatClampNeg)) = p1 then (fJ6_bitCount_0f7a4 v1).bind fun (u16 : Int32) => (if (u16 &&& (1 : Int32)) = 0 then some (.inl ((v1 + (1 : Int32)), (v2 + (1 : Int32)))) else some (.inl ((v1 + (1 : Int32)), (v2 + (-1 : Int32))))) else some (.inl ((v1 + (1 : Int32)), v2)))) else some (.inl ((v1 + (1 : Int32)), v2))))))
def fX2_factor (vnum : Int32) (vsz : Int32) (vrk : (Nat → Int32)) (vcm : (Nat → Int32)) (p1 : Int32) (p2 : Int32) : Option Int32 :=
  (lp_ (fun (st : (Int32 × Int32)) => fX2_factor_L5 vsz vcm p2 vnum vrk p1 st.1 st.2) fu_ ((0 : Int32), (0 : Int32))).bind fun (u3 : (Int32 × Int32)) => some u3.2
def fJ7_fill_53178_L5 (p1 : Int32) (v1 : Int32) (v2 : (Nat → Int32)) : Option ((Int32 × (Nat → Int32)) ⊕ (Int32 × (Nat → Int32))) :=
  (if (206 : Int32) ≤ v1 then some (.inr (v1, v2)) else ck_ (in_R v1 206) (some (.inl ((v1 + (1 : Int32)), (upd v2 v1.toNatClampNeg p1)))))
def fJ7_fill_53178 (vmk : (Nat → Int32)) (p1 : Int32) : Option (Nat → Int32) :=
  (lp_ (fun (st : (Int32 × (Nat → Int32))) => fJ7_fill_53178_L5 p1 st.1 st.2) fu_ ((0 : Int32), vmk)).bind fun (u3 : (Int32 × (Nat → Int32))) => some u3.2
def fX1_isMarked (vmk : (Nat → Int32)) (p1 : Int32) : Option Int32 :=
  ck_ (in_R (p1 >>> ((5 : Int32) &&& 31)) 206) ((if (((vmk (p1 >>> ((5 : Int32) &&& 31)).toNatClampNeg).toUInt32 >>> ((p1 &&& (31 : Int32)).toUInt32 &&& Int32.toUInt32 31)).toInt32 &&& (1 : Int32)) = (1 : Int32) then some (1 : Int32) else some (0 : Int32)))
def fX1_reach (vfo : Int32) (vth : (Nat → Int32)) (vcm : (Nat → Int32)) (vmk : (Nat → Int32)) (vre : (Nat → Int32)) (p1 : Int32) : Option (Int32 × (Nat → Int32) × (Nat → Int32) × (Nat → Int32)) :=
  (fX3_rowOf vth p1).bind fun (u1 : Int32) => (fX1_isMarked vmk u1).bind fun (u3 : Int32) => (if u3 = 0 then (if vfo < (577 : Int32) then ck_ (in_R (u1 >>> ((5 : Int32) &&& 31)) 206) (ck_ (in_R (u1 >>> ((5 : Int32) &&& 31)) 206) (ck_ (in_R vfo 577) ((fX5_onMask p1).bind fun (u10 : Int32) => ck_ (in_R u10 256) (some ((vfo + (1 : Int32)), (upd vcm u10.toNatClampNeg (vp_nar .boolean (1 : Int32))), (upd vmk (u1 >>> ((5 : Int32) &&& 31)).toNatClampNeg ((vmk (u1 >>> ((5 : Int32) &&& 31)).toNatClampNeg) ||| ((1 : Int32) <<< ((u1 &&& (31 : Int32)) &&& 31)))), (upd vre vfo.toNatClampNeg p1)))))) else some (vfo, vcm, vmk, vre)) else some (vfo, vcm, vmk, vre))
def fX1_noteLine (vsz : Int32) (vli : Int32) (va : (Nat → Int32)) (vb : (Nat → Int32)) (vc : (Nat → Int32)) (ve : (Nat → Int32)) (vla : (Nat → Int32)) (vlb : (Nat → Int32)) (k1x : Int32) (k1y : Int32) (k1z : Int32) : Option (Int32 × (Nat → Int32) × (Nat → Int32)) :=
  (fX3_signs vsz va vb vc ve k1x k1y k1z (0 : Int32)).bind fun (u1 : Int32) => (fX5_onMask u1).bind fun (u3 : Int32) => (fX5_aboveMask u1).bind fun (u5 : Int32) => (if u3 = (((1 : Int32) <<< (vsz &&& 31)) - (1 : Int32)) then some (vli, vla, vlb) else (if vli < (55 : Int32) then ck_ (in_R vli 55) (ck_ (in_R vli 55) (some ((vli + (1 : Int32)), (upd vla vli.toNatClampNeg u5), (upd vlb vli.toNatClampNeg (((((1 : Int32) <<< (vsz &&& 31)) - (1 : Int32)) &&& (u3 ^^^ (-1 : Int32))) &&& (u5 ^^^ (-1 : Int32))))))) else some (vli, vla, vlb)))
def fX1_noteCorner (vsz : Int32) (vfo : Int32) (va : (Nat → Int32)) (vb : (Nat → Int32)) (vc : (Nat → Int32)) (ve : (Nat → Int32)) (vth : (Nat → Int32)) (vcm : (Nat → Int32)) (vmk : (Nat → Int32)) (vre : (Nat → Int32)) (k1x : Int32) (k1y : Int32) (k1z : Int32) (k2x : Int32) (k2y : Int32) (k2z : Int32) (k3x : Int32) (k3y : Int32) (k3z : Int32) (p1 : Int32) (p2 : Int32) (p3 : Int32) : Option (Int32 × (Nat → Int32) × (Nat → Int32) × (Nat → Int32) × Int32 × Int32 × Int32 × Int32 × Int32 × Int32) :=
  (fX0_climb va vb vc k1x k1y k1z p3).bind fun (u1 : Int32) => (if u1 = 0 then some (vfo, vcm, vmk, vre, k2x, k2y, k2z, k3x, k3y, k3z) else (fX0_alongBoth va vb vc p2 p3).bind fun (u4 : (Int32 × Int32 × Int32)) => (fX0_alongBoth va vb vc p3 p1).bind fun (u6 : (Int32 × Int32 × Int32)) => ((if 0 ≤ u1 then some (1 : Int32) else some (-1 : Int32))).bind fun (u8 : Int32) => ck_ (in_R p1 11) (ck_ (in_R p2 11) (ck_ (in_R p3 11) (nm_ ((((u8 * (ve p1.toNatClampNeg)) * u4.1) + ((u8 * (ve p2.toNatClampNeg)) * u6.1)) + ((u8 * (ve p3.toNatClampNeg)) * k1x)) (fun (n14 : Int32) => nm_ ((((u8 * (ve p1.toNatClampNeg)) * u4.2.1) + ((u8 * (ve p2.toNatClampNeg)) * u6.2.1)) + ((u8 * (ve p3.toNatClampNeg)) * k1y)) (fun (n15 : Int32) => nm_ ((((u8 * (ve p1.toNatClampNeg)) * u4.2.2) + ((u8 * (ve p2.toNatClampNeg)) * u6.2.2)) + ((u8 * (ve p3.toNatClampNeg)) * k1z)) (fun (n16 : Int32) => (fX3_signs vsz va vb vc ve n14 n15 n16 (u8 * u1)).bind fun (u17 : Int32) => (fX1_reach vfo vth vcm vmk vre u17).bind fun (u19 : (Int32 × (Nat → Int32) × (Nat → Int32) × (Nat → Int32))) => some (u19.1, u19.2.1, u19.2.2.1, u19.2.2.2, u4.1, u4.2.1, u4.2.2, u6.1, u6.2.1, u6.2.2))))))))
def fX1_crossPlanes_L96 (u3 : Int32) (vsz : Int32) (v6 : Int32) (v31 : Int32) (va : (Nat → Int32)) (vb : (Nat → Int32)) (vc : (Nat → Int32)) (ve : (Nat → Int32)) (vth : (Nat → Int32)) (u60 : (Int32 × Int32 × Int32)) (v67 : Int32) (v68 : Int32) (v69 : (Nat → Int32)) (v70 : (Nat → Int32)) (v71 : (Nat → Int32)) (v72 : Int32) (v73 : Int32) (v74 : Int32) (v75 : Int32) (v76 : Int32) (v77 : Int32) : Option ((Int32 × Int32 × (Nat → Int32) × (Nat → Int32) × (Nat → Int32) × Int32 × Int32 × Int32 × Int32 × Int32 × Int32) ⊕ (Int32 × Int32 × (Nat → Int32) × (Nat → Int32) × (Nat → Int32) × Int32 × Int32 × Int32 × Int32 × Int32 × Int32)) :=
  (if u3 ≤ v67 then some (.inr (v67, v68, v69, v70, v71, v72, v73, v74, v75, v76, v77)) else (fX3_indexOf vsz v6).bind fun (u86 : Int32) => (fX3_indexOf vsz v31).bind fun (u88 : Int32) => (fX3_indexOf vsz v67).bind fun (u90 : Int32) => (fX1_noteCorner vsz v68 va vb vc ve vth v69 v70 v71 u60.1 u60.2.1 u60.2.2 v72 v73 v74 v75 v76 v77 u86 u88 u90).bind fun (u92 : (Int32 × (Nat → Int32) × (Nat → Int32) × (Nat → Int32) × Int32 × Int32 × Int32 × Int32 × Int32 × Int32)) => some (.inl ((v67 + (1 : Int32)), u92.1, u92.2.1, u92.2.2.1, u92.2.2.2.1, u92.2.2.2.2.1, u92.2.2.2.2.2.1, u92.2.2.2.2.2.2.1, u92.2.2.2.2.2.2.2.1, u92.2.2.2.2.2.2.2.2.1, u92.2.2.2.2.2.2.2.2.2)))
def fX1_crossPlanes_L42 (u3 : Int32) (vsz : Int32) (v6 : Int32) (va : (Nat → Int32)) (vb : (Nat → Int32)) (vc : (Nat → Int32)) (ve : (Nat → Int32)) (vth : (Nat → Int32)) (v31 : Int32) (v32 : Int32) (v33 : Int32) (v34 : (Nat → Int32)) (v35 : (Nat → Int32)) (v36 : (Nat → Int32)) (v37 : (Nat → Int32)) (v38 : (Nat → Int32)) (v39 : Int32) (v40 : Int32) (v41 : Int32) (v42 : Int32) (v43 : Int32) (v44 : Int32) (v45 : Int32) (v46 : Int32) (v47 : Int32) : Option ((Int32 × Int32 × Int32 × (Nat → Int32) × (Nat → Int32) × (Nat → Int32) × (Nat → Int32) × (Nat → Int32) × Int32 × Int32 × Int32 × Int32 × Int32 × Int32 × Int32 × Int32 × Int32) ⊕ (Int32 × Int32 × Int32 × (Nat → Int32) × (Nat → Int32) × (Nat → Int32) × (Nat → Int32) × (Nat → Int32) × Int32 × Int32 × Int32 × Int32 × Int32 × Int32 × Int32 × Int32 × Int32)) :=
  (if u3 ≤ v31 then some (.inr (v31, v32, v33, v34, v35, v36, v37, v38, v39, v40, v41, v42, v43, v44, v45, v46, v47)) else (fX3_indexOf vsz v6).bind fun (u56 : Int32) => (fX3_indexOf vsz v31).bind fun (u58 : Int32) => (fX0_alongBoth va vb vc u56 u58).bind fun (u60 : (Int32 × Int32 × Int32)) => (fX0_isNothing u60.1 u60.2.1 u60.2.2).bind fun (u62 : Int32) => (if u62 = 0 then (fX1_noteLine vsz v33 va vb vc ve v37 v38 u60.1 u60.2.1 u60.2.2).bind fun (u65 : (Int32 × (Nat → Int32) × (Nat → Int32))) => (lp_ (fun (st : (Int32 × Int32 × (Nat → Int32) × (Nat → Int32) × (Nat → Int32) × Int32 × Int32 × Int32 × Int32 × Int32 × Int32)) => fX1_crossPlanes_L96 u3 vsz v6 v31 va vb vc ve vth u60 st.1 st.2.1 st.2.2.1 st.2.2.2.1 st.2.2.2.2.1 st.2.2.2.2.2.1 st.2.2.2.2.2.2.1 st.2.2.2.2.2.2.2.1 st.2.2.2.2.2.2.2.2.1 st.2.2.2.2.2.2.2.2.2.1 st.2.2.2.2.2.2.2.2.2.2) fu_ ((v31 + (1 : Int32)), v32, v34, v35, v36, v42, v43, v44, v45, v46, v47)).bind fun (u78 : (Int32 × Int32 × (Nat → Int32) × (Nat → Int32) × (Nat → Int32) × Int32 × Int32 × Int32 × Int32 × Int32 × Int32)) => some (.inl ((v31 + (1 : Int32)), u78.2.1, u65.1, u78.2.2.1, u78.2.2.2.1, u78.2.2.2.2.1, u65.2.1, u65.2.2, u60.1, u60.2.1, u60.2.2, u78.2.2.2.2.2.1, u78.2.2.2.2.2.2.1, u78.2.2.2.2.2.2.2.1, u78.2.2.2.2.2.2.2.2.1, u78.2.2.2.2.2.2.2.2.2.1, u78.2.2.2.2.2.2.2.2.2.2)) else some (.inl ((v31 + (1 : Int32)), v32, v33, v34, v35, v36, v37, v38, u60.1, u60.2.1, u60.2.2, v42, v43, v44, v45, v46, v47))))
def fX1_crossPlanes_L33 (u3 : Int32) (vsz : Int32) (va : (Nat → Int32)) (vb : (Nat → Int32)) (vc : (Nat → Int32)) (ve : (Nat → Int32)) (vth : (Nat → Int32)) (v6 : Int32) (v7 : Int32) (v8 : Int32) (v9 : (Nat → Int32)) (v10 : (Nat → Int32)) (v11 : (Nat → Int32)) (v12 : (Nat → Int32)) (v13 : (Nat → Int32)) (v14 : Int32) (v15 : Int32) (v16 : Int32) (v17 : Int32) (v18 : Int32) (v19 : Int32) (v20 : Int32) (v21 : Int32) (v22 : Int32) : Option ((Int32 × Int32 × Int32 × (Nat → Int32) × (Nat → Int32) × (Nat → Int32) × (Nat → Int32) × (Nat → Int32) × Int32 × Int32 × Int32 × Int32 × Int32 × Int32 × Int32 × Int32 × Int32) ⊕ (Int32 × Int32 × Int32 × (Nat → Int32) × (Nat → Int32) × (Nat → Int32) × (Nat → Int32) × (Nat → Int32) × Int32 × Int32 × Int32 × Int32 × Int32 × Int32 × Int32 × Int32 × Int32)) :=
  (if u3 ≤ v6 then some (.inr (v6, v7, v8, v9, v10, v11, v12, v13, v14, v15, v16, v17, v18, v19, v20, v21, v22)) else (lp_ (fun (st : (Int32 × Int32 × Int32 × (Nat → Int32) × (Nat → Int32) × (Nat → Int32) × (Nat → Int32) × (Nat → Int32) × Int32 × Int32 × Int32 × Int32 × Int32 × Int32 × Int32 × Int32 × Int32)) => fX1_crossPlanes_L42 u3 vsz v6 va vb vc ve vth st.1 st.2.1 st.2.2.1 st.2.2.2.1 st.2.2.2.2.1 st.2.2.2.2.2.1 st.2.2.2.2.2.2.1 st.2.2.2.2.2.2.2.1 st.2.2.2.2.2.2.2.2.1 st.2.2.2.2.2.2.2.2.2.1 st.2.2.2.2.2.2.2.2.2.2.1 st.2.2.2.2.2.2.2.2.2.2.2.1 st.2.2.2.2.2.2.2.2.2.2.2.2.1 st.2.2.2.2.2.2.2.2.2.2.2.2.2.1 st.2.2.2.2.2.2.2.2.2.2.2.2.2.2.1 st.2.2.2.2.2.2.2.2.2.2.2.2.2.2.2.1 st.2.2.2.2.2.2.2.2.2.2.2.2.2.2.2.2) fu_ ((v6 + (1 : Int32)), v7, v8, v9, v10, v11, v12, v13, v14, v15, v16, v17, v18, v19, v20, v21, v22)).bind fun (u48 : (Int32 × Int32 × Int32 × (Nat → Int32) × (Nat → Int32) × (Nat → Int32) × (Nat → Int32) × (Nat → Int32) × Int32 × Int32 × Int32 × Int32 × Int32 × Int32 × Int32 × Int32 × Int32)) => some (.inl ((v6 + (1 : Int32)), u48.2.1, u48.2.2.1, u48.2.2.2.1, u48.2.2.2.2.1, u48.2.2.2.2.2.1, u48.2.2.2.2.2.2.1, u48.2.2.2.2.2.2.2.1, u48.2.2.2.2.2.2.2.2.1, u48.2.2.2.2.2.2.2.2.2.1, u48.2.2.2.2.2.2.2.2.2.2.1, u48.2.2.2.2.2.2.2.2.2.2.2.1, u48.2.2.2.2.2.2.2.2.2.2.2.2.1, u48.2.2.2.2.2.2.2.2.2.2.2.2.2.1, u48.2.2.2.2.2.2.2.2.2.2.2.2.2.2.1, u48.2.2.2.2.2.2.2.2.2.2.2.2.2.2.2.1, u48.2.2.2.2.2.2.2.2.2.2.2.2.2.2.2.2)))
def fX1_crossPlanes (vsz : Int32) (vfo : Int32) (vli : Int32) (va : (Nat → Int32)) (vb : (Nat → Int32)) (vc : (Nat → Int32)) (ve : (Nat → Int32)) (vth : (Nat → Int32)) (vrk : (Nat → Int32)) (vcm : (Nat → Int32)) (vmk : (Nat → Int32)) (vre : (Nat → Int32)) (vla : (Nat → Int32)) (vlb : (Nat → Int32)) (k1x : Int32) (k1y : Int32) (k1z : Int32) (k2x : Int32) (k2y : Int32) (k2z : Int32) (k3x : Int32) (k3y : Int32) (k3z : Int32) : Option (Int32 × Int32 × (Nat → Int32) × (Nat → Int32) × (Nat → Int32) × (Nat → Int32) × (Nat → Int32) × Int32 × Int32 × Int32 × Int32 × Int32 × Int32 × Int32 × Int32 × Int32) :=
  (fX2_rankOfAll vsz vrk).bind fun (u1 : Int32) => ((if u1 = (3 : Int32) then some vsz else some (vsz + (3 : Int32)))).bind fun (u3 : Int32) => (lp_ (fun (st : (Int32 × Int32 × Int32 × (Nat → Int32) × (Nat → Int32) × (Nat → Int32) × (Nat → Int32) × (Nat → Int32) × Int32 × Int32 × Int32 × Int32 × Int32 × Int32 × Int32 × Int32 × Int32)) => fX1_crossPlanes_L33 u3 vsz va vb vc ve vth st.1 st.2.1 st.2.2.1 st.2.2.2.1 st.2.2.2.2.1 st.2.2.2.2.2.1 st.2.2.2.2.2.2.1 st.2.2.2.2.2.2.2.1 st.2.2.2.2.2.2.2.2.1 st.2.2.2.2.2.2.2.2.2.1 st.2.2.2.2.2.2.2.2.2.2.1 st.2.2.2.2.2.2.2.2.2.2.2.1 st.2.2.2.2.2.2.2.2.2.2.2.2.1 st.2.2.2.2.2.2.2.2.2.2.2.2.2.1 st.2.2.2.2.2.2.2.2.2.2.2.2.2.2.1 st.2.2.2.2.2.2.2.2.2.2.2.2.2.2.2.1 st.2.2.2.2.2.2.2.2.2.2.2.2.2.2.2.2) fu_ ((0 : Int32), vfo, vli, vcm, vmk, vre, vla, vlb, k1x, k1y, k1z, k2x, k2y, k2z, k3x, k3y, k3z)).bind fun (u23 : (Int32 × Int32 × Int32 × (Nat → Int32) × (Nat → Int32) × (Nat → Int32) × (Nat → Int32) × (Nat → Int32) × Int32 × Int32 × Int32 × Int32 × Int32 × Int32 × Int32 × Int32 × Int32)) => some (u23.2.1, u23.2.2.1, u23.2.2.2.1, u23.2.2.2.2.1, u23.2.2.2.2.2.1, u23.2.2.2.2.2.2.1, u23.2.2.2.2.2.2.2.1, u23.2.2.2.2.2.2.2.2.1, u23.2.2.2.2.2.2.2.2.2.1, u23.2.2.2.2.2.2.2.2.2.2.1, u23.2.2.2.2.2.2.2.2.2.2.2.1, u23.2.2.2.2.2.2.2.2.2.2.2.2.1, u23.2.2.2.2.2.2.2.2.2.2.2.2.2.1, u23.2.2.2.2.2.2.2.2.2.2.2.2.2.2.1, u23.2.2.2.2.2.2.2.2.2.2.2.2.2.2.2.1, u23.2.2.2.2.2.2.2.2.2.2.2.2.2.2.2.2)
def fX1_moveFrom_L18 (vli : Int32) (u1 : Int32) (vla : (Nat → Int32)) (vlb : (Nat → Int32)) (vrk : (Nat → Int32)) (vth : (Nat → Int32)) (u3 : Int32) (v6 : Int32) (v7 : Int32) (v8 : (Nat → Int32)) (v9 : (Nat → Int32)) (v10 : (Nat → Int32)) : Option ((Int32 × Int32 × (Nat → Int32) × (Nat → Int32) × (Nat → Int32)) ⊕ ((Int32 × Int32 × (Nat → Int32) × (Nat → Int32) × (Nat → Int32)) ⊕ (Int32 × (Nat → Int32) × (Nat → Int32) × (Nat → Int32)))) :=
  (if vli ≤ v6 then some (.inr (.inl (v6, v7, v8, v9, v10))) else ck_ (in_R v6 55) (ck_ (in_R v6 55) (ck_ (in_R (u1 &&& (((vla v6.toNatClampNeg) ||| (vlb v6.toNatClampNeg)) ^^^ (-1 : Int32))) 256) (ck_ (in_R u1 256) ((if (vrk (u1 &&& (((vla v6.toNatClampNeg) ||| (vlb v6.toNatClampNeg)) ^^^ (-1 : Int32))).toNatClampNeg) = ((vrk u1.toNatClampNeg) - (1 : Int32)) then ck_ (in_R v6 55) ((fX1_reach v7 vth v8 v9 v10 (((u3 ||| (u1 &&& (vla v6.toNatClampNeg))) <<< ((8 : Int32) &&& 31)) ||| (u1 &&& (((vla v6.toNatClampNeg) ||| (vlb v6.toNatClampNeg)) ^^^ (-1 : Int32))))).bind fun (u27 : (Int32 × (Nat → Int32) × (Nat → Int32) × (Nat → Int32))) => ck_ (in_R v6 55) ((fX1_reach u27.1 vth u27.2.1 u27.2.2.1 u27.2.2.2 (((u3 ||| (u1 &&& (vlb v6.toNatClampNeg))) <<< ((8 : Int32) &&& 31)) ||| (u1 &&& (((vla v6.toNatClampNeg) ||| (vlb v6.toNatClampNeg)) ^^^ (-1 : Int32))))).bind fun (u30 : (Int32 × (Nat → Int32) × (Nat → Int32) × (Nat → Int32))) => (if (u1 &&& (((vla v6.toNatClampNeg) ||| (vlb v6.toNatClampNeg)) ^^^ (-1 : Int32))) = 0 then some (.inr (.inr (u30.1, u30.2.1, u30.2.2.1, u30.2.2.2))) else some (.inl ((v6 + (1 : Int32)), u30.1, u30.2.1, u30.2.2.1, u30.2.2.2))))) else some (.inl ((v6 + (1 : Int32)), v7, v8, v9, v10))))))))
def fX1_moveFrom (vfo : Int32) (vli : Int32) (vth : (Nat → Int32)) (vrk : (Nat → Int32)) (vcm : (Nat → Int32)) (vmk : (Nat → Int32)) (vre : (Nat → Int32)) (vla : (Nat → Int32)) (vlb : (Nat → Int32)) (p1 : Int32) : Option (Int32 × (Nat → Int32) × (Nat → Int32) × (Nat → Int32)) :=
  (fX5_onMask p1).bind fun (u1 : Int32) => (fX5_aboveMask p1).bind fun (u3 : Int32) => (if u1 = 0 then some (vfo, vcm, vmk, vre) else (lp_ (fun (st : (Int32 × Int32 × (Nat → Int32) × (Nat → Int32) × (Nat → Int32))) => fX1_moveFrom_L18 vli u1 vla vlb vrk vth u3 st.1 st.2.1 st.2.2.1 st.2.2.2.1 st.2.2.2.2) fu_ ((0 : Int32), vfo, vcm, vmk, vre)).bind fun (u11 : ((Int32 × Int32 × (Nat → Int32) × (Nat → Int32) × (Nat → Int32)) ⊕ (Int32 × (Nat → Int32) × (Nat → Int32) × (Nat → Int32)))) => Sum.elim (fun (x15 : (Int32 × Int32 × (Nat → Int32) × (Nat → Int32) × (Nat → Int32))) => some (x15.2.1, x15.2.2.1, x15.2.2.2.1, x15.2.2.2.2)) (fun y => some y) u11)
def fX1_sortRows_L4 (vfo : Int32) (vmk : (Nat → Int32)) (vnum : Int32) (vrk : (Nat → Int32)) (v1 : Int32) (v2 : Int32) (v3 : (Nat → Int32)) (v4 : (Nat → Int32)) : Option ((Int32 × Int32 × (Nat → Int32) × (Nat → Int32)) ⊕ (Int32 × Int32 × (Nat → Int32) × (Nat → Int32))) :=
  (if (6561 : Int32) ≤ v1 then some (.inr (v1, v2, v3, v4)) else (if vfo ≤ v2 then some (.inr (v1, v2, v3, v4)) else (fX1_isMarked vmk v1).bind fun (u14 : Int32) => (if u14 = 0 then some (.inl ((v1 + (1 : Int32)), v2, v3, v4)) else ck_ (in_R v2 577) ((fX5_maskOf v1 (1 : Int32)).bind fun (u18 : Int32) => ck_ (in_R u18 256) (ck_ (in_R v2 577) (some (.inl ((v1 + (1 : Int32)), (v2 + (1 : Int32)), (upd v3 v2.toNatClampNeg v1), (upd v4 v2.toNatClampNeg (vnum - (vrk u18.toNatClampNeg)))))))))))
def fX1_sortRows (vnum : Int32) (vfo : Int32) (vrk : (Nat → Int32)) (vmk : (Nat → Int32)) (vro : (Nat → Int32)) (vwi : (Nat → Int32)) : Option ((Nat → Int32) × (Nat → Int32)) :=
  (lp_ (fun (st : (Int32 × Int32 × (Nat → Int32) × (Nat → Int32))) => fX1_sortRows_L4 vfo vmk vnum vrk st.1 st.2.1 st.2.2.1 st.2.2.2) fu_ ((0 : Int32), (0 : Int32), vro, vwi)).bind fun (u5 : (Int32 × Int32 × (Nat → Int32) × (Nat → Int32))) => some (u5.2.2.1, u5.2.2.2)
def fX1_cutAnew_L38 (u7 : (Int32 × Int32 × (Nat → Int32) × (Nat → Int32) × (Nat → Int32) × (Nat → Int32) × (Nat → Int32) × Int32 × Int32 × Int32 × Int32 × Int32 × Int32 × Int32 × Int32 × Int32)) (vth : (Nat → Int32)) (u5 : ((Nat → Int32) × (Nat → Int32) × (Nat → Int32) × (Nat → Int32) × Int32 × Int32 × Int32)) (v9 : Int32) (v10 : Int32) (v11 : (Nat → Int32)) (v12 : (Nat → Int32)) (v13 : (Nat → Int32)) : Option ((Int32 × Int32 × (Nat → Int32) × (Nat → Int32) × (Nat → Int32)) ⊕ (Int32 × Int32 × (Nat → Int32) × (Nat → Int32) × (Nat → Int32))) :=
  (if (577 : Int32) ≤ v9 then some (.inr (v9, v10, v11, v12, v13)) else (if v10 ≤ v9 then some (.inr (v9, v10, v11, v12, v13)) else ck_ (in_R v9 577) ((fX1_moveFrom v10 u7.2.1 vth u5.1 v11 v12 v13 u7.2.2.2.2.2.1 u7.2.2.2.2.2.2.1 (v13 v9.toNatClampNeg)).bind fun (u28 : (Int32 × (Nat → Int32) × (Nat → Int32) × (Nat → Int32))) => some (.inl ((v9 + (1 : Int32)), u28.1, u28.2.1, u28.2.2.1, u28.2.2.2)))))
def fX1_cutAnew (vnum : Int32) (vsz : Int32) (va : (Nat → Int32)) (vb : (Nat → Int32)) (vc : (Nat → Int32)) (ve : (Nat → Int32)) (vth : (Nat → Int32)) (vrk : (Nat → Int32)) (vcm : (Nat → Int32)) (vkx : (Nat → Int32)) (vky : (Nat → Int32)) (vkz : (Nat → Int32)) (vmk : (Nat → Int32)) (vre : (Nat → Int32)) (vro : (Nat → Int32)) (vwi : (Nat → Int32)) (vla : (Nat → Int32)) (vlb : (Nat → Int32)) (k0x : Int32) (k0y : Int32) (k0z : Int32) (k1x : Int32) (k1y : Int32) (k1z : Int32) (k2x : Int32) (k2y : Int32) (k2z : Int32) (k3x : Int32) (k3y : Int32) (k3z : Int32) : Option (Int32 × Int32 × (Nat → Int32) × (Nat → Int32) × (Nat → Int32) × (Nat → Int32) × (Nat → Int32) × (Nat → Int32) × (Nat → Int32) × (Nat → Int32) × (Nat → Int32) × (Nat → Int32) × (Nat → Int32) × Int32 × Int32 × Int32 × Int32 × Int32 × Int32 × Int32 × Int32 × Int32 × Int32 × Int32 × Int32) :=
  (fJ7_fill_53178 vmk (0 : Int32)).bind fun (u1 : (Nat → Int32)) => (fX2_forgetCommon vcm).bind fun (u3 : (Nat → Int32)) => (fX2_rankAnew vsz va vb vc vrk vkx vky vkz k0x k0y k0z).bind fun (u5 : ((Nat → Int32) × (Nat → Int32) × (Nat → Int32) × (Nat → Int32) × Int32 × Int32 × Int32)) => (fX1_crossPlanes vsz (0 : Int32) (0 : Int32) va vb vc ve vth u5.1 u3 u1 vre vla vlb k1x k1y k1z k2x k2y k2z k3x k3y k3z).bind fun (u7 : (Int32 × Int32 × (Nat → Int32) × (Nat → Int32) × (Nat → Int32) × (Nat → Int32) × (Nat → Int32) × Int32 × Int32 × Int32 × Int32 × Int32 × Int32 × Int32 × Int32 × Int32)) => (lp_ (fun (st : (Int32 × Int32 × (Nat → Int32) × (Nat → Int32) × (Nat → Int32))) => fX1_cutAnew_L38 u7 vth u5 st.1 st.2.1 st.2.2.1 st.2.2.2.1 st.2.2.2.2) fu_ ((0 : Int32), u7.1, u7.2.2.1, u7.2.2.2.1, u7.2.2.2.2.1)).bind fun (u14 : (Int32 × Int32 × (Nat → Int32) × (Nat → Int32) × (Nat → Int32))) => (fX1_sortRows vnum u14.2.1 u5.1 u14.2.2.2.1 vro vwi).bind fun (u18 : ((Nat → Int32) × (Nat → Int32))) => (fX2_shareDown vsz u14.2.2.1).bind fun (u20 : (Nat → Int32)) => some (u14.2.1, u7.2.1, u5.1, u20, u5.2.1, u5.2.2.1, u5.2.2.2.1, u14.2.2.2.1, u14.2.2.2.2, u18.1, u18.2, u7.2.2.2.2.2.1, u7.2.2.2.2.2.2.1, u5.2.2.2.2.1, u5.2.2.2.2.2.1, u5.2.2.2.2.2.2, u7.2.2.2.2.2.2.2.1, u7.2.2.2.2.2.2.2.2.1, u7.2.2.2.2.2.2.2.2.2.1, u7.2.2.2.2.2.2.2.2.2.2.1, u7.2.2.2.2.2.2.2.2.2.2.2.1, u7.2.2.2.2.2.2.2.2.2.2.2.2.1, u7.2.2.2.2.2.2.2.2.2.2.2.2.2.1, u7.2.2.2.2.2.2.2.2.2.2.2.2.2.2.1, u7.2.2.2.2.2.2.2.2.2.2.2.2.2.2.2)
def fX1_hasFace (vmk : (Nat → Int32)) (p1 : Int32) : Option Int32 :=
  (if p1 < 0 then some (0 : Int32) else (if (6561 : Int32) ≤ p1 then some (0 : Int32) else (fX1_isMarked vmk p1).bind fun (u3 : Int32) => (if u3 = 0 then some (0 : Int32) else some (1 : Int32))))
def fX1_hasRoom (vmk : (Nat → Int32)) (p1 : Int32) : Option Int32 :=
  (fX1_hasFace vmk p1).bind fun (u1 : Int32) => (if u1 = 0 then some (0 : Int32) else (fX5_maskOf p1 (1 : Int32)).bind fun (u4 : Int32) => (if u4 = 0 then some (1 : Int32) else some (0 : Int32)))
def fX1_countOfWidth_L4 (vfo : Int32) (vwi : (Nat → Int32)) (p1 : Int32) (v1 : Int32) (v2 : Int32) : Option ((Int32 × Int32) ⊕ (Int32 × Int32)) :=
  (if vfo ≤ v1 then some (.inr (v1, v2)) else ck_ (in_R v1 577) ((if (vwi v1.toNatClampNeg) = p1 then some (.inl ((v1 + (1 : Int32)), (v2 + (1 : Int32)))) else some (.inl ((v1 + (1 : Int32)), v2)))))
def fX1_countOfWidth (vfo : Int32) (vwi : (Nat → Int32)) (p1 : Int32) : Option Int32 :=
  (lp_ (fun (st : (Int32 × Int32)) => fX1_countOfWidth_L4 vfo vwi p1 st.1 st.2) fu_ ((0 : Int32), (0 : Int32))).bind fun (u3 : (Int32 × Int32)) => some u3.2
def fX1_rowOfWidth_L5 (vfo : Int32) (vwi : (Nat → Int32)) (p1 : Int32) (p2 : Int32) (vro : (Nat → Int32)) (v1 : Int32) (v2 : Int32) : Option ((Int32 × Int32) ⊕ ((Int32 × Int32) ⊕ Int32)) :=
  (if vfo ≤ v1 then some (.inr (.inl (v1, v2))) else ck_ (in_R v1 577) ((if (vwi v1.toNatClampNeg) = p1 then (if v2 = p2 then ck_ (in_R v1 577) (some (.inr (.inr (vro v1.toNatClampNeg)))) else some (.inl ((v1 + (1 : Int32)), (v2 + (1 : Int32))))) else some (.inl ((v1 + (1 : Int32)), v2)))))
def fX1_rowOfWidth (vfo : Int32) (vro : (Nat → Int32)) (vwi : (Nat → Int32)) (p1 : Int32) (p2 : Int32) : Option Int32 :=
  (lp_ (fun (st : (Int32 × Int32)) => fX1_rowOfWidth_L5 vfo vwi p1 p2 vro st.1 st.2) fu_ ((0 : Int32), (0 : Int32))).bind fun (u3 : ((Int32 × Int32) ⊕ Int32)) => Sum.elim (fun (x7 : (Int32 × Int32)) => some (-1 : Int32)) (fun y => some y) u3
def fX1_wallsOf_L4 (vsz : Int32) (p1 : Int32) (vmk : (Nat → Int32)) (v1 : Int32) (v2 : Int32) : Option ((Int32 × Int32) ⊕ (Int32 × Int32)) :=
  (if vsz ≤ v1 then some (.inr (v1, v2)) else (fX5_across p1 v1).bind fun (u11 : Int32) => (fX1_hasRoom vmk u11).bind fun (u13 : Int32) => (if u13 = 0 then some (.inl ((v1 + (1 : Int32)), v2)) else some (.inl ((v1 + (1 : Int32)), (v2 ||| ((1 : Int32) <<< (v1 &&& 31)))))))
def fX1_wallsOf (vsz : Int32) (vmk : (Nat → Int32)) (p1 : Int32) : Option Int32 :=
  (lp_ (fun (st : (Int32 × Int32)) => fX1_wallsOf_L4 vsz p1 vmk st.1 st.2) fu_ ((0 : Int32), (0 : Int32))).bind fun (u3 : (Int32 × Int32)) => some u3.2
def fX1_isOpen_L2 (vli : Int32) (vla : (Nat → Int32)) (p1 : Int32) (vlb : (Nat → Int32)) (v1 : Int32) : Option (Int32 ⊕ (Int32 ⊕ Int32)) :=
  (if vli ≤ v1 then some (.inr (.inl v1)) else ck_ (in_R v1 55) ((if ((vla v1.toNatClampNeg) &&& (p1 ^^^ (-1 : Int32))) = 0 then ck_ (in_R v1 55) (((if ((vlb v1.toNatClampNeg) &&& p1) = 0 then some (1 : Int32) else some (0 : Int32))).bind fun (u26 : Int32) => ck_ (in_R v1 55) ((if ((vlb v1.toNatClampNeg) &&& (p1 ^^^ (-1 : Int32))) = 0 then ck_ (in_R v1 55) (((if ((vla v1.toNatClampNeg) &&& p1) = 0 then some (1 : Int32) else some (0 : Int32))).bind fun (u34 : Int32) => (if u26 = 0 then (if u34 = 0 then some (.inl (v1 + (1 : Int32))) else some (.inr (.inr (1 : Int32)))) else some (.inr (.inr (1 : Int32))))) else (if u26 = 0 then (if (0 : Int32) = 0 then some (.inl (v1 + (1 : Int32))) else some (.inr (.inr (1 : Int32)))) else some (.inr (.inr (1 : Int32))))))) else ck_ (in_R v1 55) ((if ((vlb v1.toNatClampNeg) &&& (p1 ^^^ (-1 : Int32))) = 0 then ck_ (in_R v1 55) (((if ((vla v1.toNatClampNeg) &&& p1) = 0 then some (1 : Int32) else some (0 : Int32))).bind fun (u19 : Int32) => (if (0 : Int32) = 0 then (if u19 = 0 then some (.inl (v1 + (1 : Int32))) else some (.inr (.inr (1 : Int32)))) else some (.inr (.inr (1 : Int32))))) else (if (0 : Int32) = 0 then (if (0 : Int32) = 0 then some (.inl (v1 + (1 : Int32))) else some (.inr (.inr (1 : Int32)))) else some (.inr (.inr (1 : Int32)))))))))
def fX1_isOpen (vli : Int32) (vla : (Nat → Int32)) (vlb : (Nat → Int32)) (p1 : Int32) : Option Int32 :=
  (lp_ (fun (st : Int32) => fX1_isOpen_L2 vli vla p1 vlb st) fu_ (0 : Int32)).bind fun (u2 : (Int32 ⊕ Int32)) => Sum.elim (fun (x6 : Int32) => some (0 : Int32)) (fun y => some y) u2
def fX4_hits_L6 (vsz : Int32) (ve : (Nat → Int32)) (vb : (Nat → Int32)) (p1 : Int32) (vc : (Nat → Int32)) (p2 : Int32) (p3 : Int32) (vtu : (Nat → Int32)) (v1 : Int32) (v2 : Int32) : Option ((Int32 × Int32) ⊕ ((Int32 × Int32) ⊕ Int32)) :=
  (if vsz ≤ v1 then some (.inr (.inl (v1, v2))) else ck_ (in_R v1 11) (ck_ (in_R v1 11) (ck_ (in_R v1 11) ((fJ9_floorMod_7cf53 (((ve v1.toNatClampNeg) - ((vb v1.toNatClampNeg) * p1)) - ((vc v1.toNatClampNeg) * p2)) p3).bind fun (u16 : Int32) => ck_ (in_R v1 8) ((if (vtu v1.toNatClampNeg) = 0 then (if u16 = 0 then some (.inr (.inr (((1 : Int32) <<< (p3 &&& 31)) - (1 : Int32)))) else some (.inl ((v1 + (1 : Int32)), v2))) else ck_ (in_R v1 8) (ck_ (¬ p3 = 0) (nm_ (v2 ||| ((1 : Int32) <<< (((u16 * (vtu v1.toNatClampNeg)) - (u16 * (vtu v1.toNatClampNeg)) / p3 * p3) &&& 31))) (fun (n23 : Int32) => some (.inl ((v1 + (1 : Int32)), n23)))))))))))
def fX4_hits (vsz : Int32) (vb : (Nat → Int32)) (vc : (Nat → Int32)) (ve : (Nat → Int32)) (vtu : (Nat → Int32)) (p1 : Int32) (p2 : Int32) (p3 : Int32) : Option Int32 :=
  (lp_ (fun (st : (Int32 × Int32)) => fX4_hits_L6 vsz ve vb p1 vc p2 p3 vtu st.1 st.2) fu_ ((0 : Int32), (0 : Int32))).bind fun (u3 : ((Int32 × Int32) ⊕ Int32)) => Sum.elim (fun (x7 : (Int32 × Int32)) => some x7.2) (fun y => some y) u3
def fX4_countMissed_L91 (u10 : Int32) (vsz : Int32) (vb : (Nat → Int32)) (vc : (Nat → Int32)) (ve : (Nat → Int32)) (u3 : (Int32 × (Nat → Int32))) (v13 : Int32) (p1 : Int32) (v23 : Int32) (v24 : Int32) : Option ((Int32 × Int32) ⊕ (Int32 × Int32)) :=
  (if u10 ≤ v23 then some (.inr (v23, v24)) else (fX4_hits vsz vb vc ve u3.2 v13 v23 p1).bind fun (u33 : Int32) => (fJ6_bitCount_0f7a4 u33).bind fun (u35 : Int32) => some (.inl ((v23 + (1 : Int32)), (v24 + (p1 - u35)))))
def fX4_countMissed_L82 (u7 : Int32) (u10 : Int32) (vsz : Int32) (vb : (Nat → Int32)) (vc : (Nat → Int32)) (ve : (Nat → Int32)) (u3 : (Int32 × (Nat → Int32))) (p1 : Int32) (v13 : Int32) (v14 : Int32) : Option ((Int32 × Int32) ⊕ (Int32 × Int32)) :=
  (if u7 ≤ v13 then some (.inr (v13, v14)) else (lp_ (fun (st : (Int32 × Int32)) => fX4_countMissed_L91 u10 vsz vb vc ve u3 v13 p1 st.1 st.2) fu_ ((0 : Int32), v14)).bind fun (u25 : (Int32 × Int32)) => some (.inl ((v13 + (1 : Int32)), u25.2)))
def fX4_countMissed_L2 (vsz : Int32) (va : (Nat → Int32)) (p1 : Int32) (v1 : Int32) (v2 : (Nat → Int32)) : Option ((Int32 × (Nat → Int32)) ⊕ (Int32 × (Nat → Int32))) :=
  (if vsz ≤ v1 then some (.inr (v1, v2)) else ck_ (in_R v1 11) ((fJ9_floorMod_7cf53 (va v1.toNatClampNeg) p1).bind fun (u44 : Int32) => (fX4_inverse u44 p1).bind fun (u46 : Int32) => ck_ (in_R v1 8) (some (.inl ((v1 + (1 : Int32)), (upd v2 v1.toNatClampNeg u46))))))
def fX4_countMissed (vnum : Int32) (vsz : Int32) (va : (Nat → Int32)) (vb : (Nat → Int32)) (vc : (Nat → Int32)) (ve : (Nat → Int32)) (vtu : (Nat → Int32)) (p1 : Int32) : Option (Int32 × (Nat → Int32)) :=
  (lp_ (fun (st : (Int32 × (Nat → Int32))) => fX4_countMissed_L2 vsz va p1 st.1 st.2) fu_ ((0 : Int32), vtu)).bind fun (u3 : (Int32 × (Nat → Int32))) => ((if vnum < (2 : Int32) then some (1 : Int32) else some p1)).bind fun (u7 : Int32) => ((if vnum < (3 : Int32) then some (1 : Int32) else some p1)).bind fun (u10 : Int32) => (lp_ (fun (st : (Int32 × Int32)) => fX4_countMissed_L82 u7 u10 vsz vb vc ve u3 p1 st.1 st.2) fu_ ((0 : Int32), (0 : Int32))).bind fun (u15 : (Int32 × Int32)) => some (u15.2, u3.2)
def fX5_freshCut (vnum : Int32) (vsz : Int32) (vfr : Int32) (vfo : Int32) (vli : Int32) (va : (Nat → Int32)) (vb : (Nat → Int32)) (vc : (Nat → Int32)) (ve : (Nat → Int32)) (vth : (Nat → Int32)) (vrk : (Nat → Int32)) (vcm : (Nat → Int32)) (vkx : (Nat → Int32)) (vky : (Nat → Int32)) (vkz : (Nat → Int32)) (vmk : (Nat → Int32)) (vre : (Nat → Int32)) (vro : (Nat → Int32)) (vwi : (Nat → Int32)) (vla : (Nat → Int32)) (vlb : (Nat → Int32)) (k0x : Int32) (k0y : Int32) (k0z : Int32) (k1x : Int32) (k1y : Int32) (k1z : Int32) (k2x : Int32) (k2y : Int32) (k2z : Int32) (k3x : Int32) (k3y : Int32) (k3z : Int32) : Option (Int32 × Int32 × Int32 × (Nat → Int32) × (Nat → Int32) × (Nat → Int32) × (Nat → Int32) × (Nat → Int32) × (Nat → Int32) × (Nat → Int32) × (Nat → Int32) × (Nat → Int32) × (Nat → Int32) × (Nat → Int32) × Int32 × Int32 × Int32 × Int32 × Int32 × Int32 × Int32 × Int32 × Int32 × Int32 × Int32 × Int32) :=
  (if vfr = 0 then (fX1_cutAnew vnum vsz va vb vc ve vth vrk vcm vkx vky vkz vmk vre vro vwi vla vlb k0x k0y k0z k1x k1y k1z k2x k2y k2z k3x k3y k3z).bind fun (u2 : (Int32 × Int32 × (Nat → Int32) × (Nat → Int32) × (Nat → Int32) × (Nat → Int32) × (Nat → Int32) × (Nat → Int32) × (Nat → Int32) × (Nat → Int32) × (Nat → Int32) × (Nat → Int32) × (Nat → Int32) × Int32 × Int32 × Int32 × Int32 × Int32 × Int32 × Int32 × Int32 × Int32 × Int32 × Int32 × Int32)) => some ((1 : Int32), u2.1, u2.2.1, u2.2.2.1, u2.2.2.2.1, u2.2.2.2.2.1, u2.2.2.2.2.2.1, u2.2.2.2.2.2.2.1, u2.2.2.2.2.2.2.2.1, u2.2.2.2.2.2.2.2.2.1, u2.2.2.2.2.2.2.2.2.2.1, u2.2.2.2.2.2.2.2.2.2.2.1, u2.2.2.2.2.2.2.2.2.2.2.2.1, u2.2.2.2.2.2.2.2.2.2.2.2.2.1, u2.2.2.2.2.2.2.2.2.2.2.2.2.2.1, u2.2.2.2.2.2.2.2.2.2.2.2.2.2.2.1, u2.2.2.2.2.2.2.2.2.2.2.2.2.2.2.2.1, u2.2.2.2.2.2.2.2.2.2.2.2.2.2.2.2.2.1, u2.2.2.2.2.2.2.2.2.2.2.2.2.2.2.2.2.2.1, u2.2.2.2.2.2.2.2.2.2.2.2.2.2.2.2.2.2.2.1, u2.2.2.2.2.2.2.2.2.2.2.2.2.2.2.2.2.2.2.2.1, u2.2.2.2.2.2.2.2.2.2.2.2.2.2.2.2.2.2.2.2.2.1, u2.2.2.2.2.2.2.2.2.2.2.2.2.2.2.2.2.2.2.2.2.2.1, u2.2.2.2.2.2.2.2.2.2.2.2.2.2.2.2.2.2.2.2.2.2.2.1, u2.2.2.2.2.2.2.2.2.2.2.2.2.2.2.2.2.2.2.2.2.2.2.2.1, u2.2.2.2.2.2.2.2.2.2.2.2.2.2.2.2.2.2.2.2.2.2.2.2.2) else some (vfr, vfo, vli, vrk, vcm, vkx, vky, vkz, vmk, vre, vro, vwi, vla, vlb, k0x, k0y, k0z, k1x, k1y, k1z, k2x, k2y, k2z, k3x, k3y, k3z))
def fX5_wall (vnum : Int32) (vsz : Int32) (vfr : Int32) (va : (Nat → Int32)) (vb : (Nat → Int32)) (vc : (Nat → Int32)) (ve : (Nat → Int32)) (p1 : Int32) (p2 : Int32) (p3 : Int32) (p4 : Int32) : Option (Int32 × Int32 × Int32 × (Nat → Int32) × (Nat → Int32) × (Nat → Int32) × (Nat → Int32)) :=
  (if (8 : Int32) ≤ vsz then some ((-1 : Int32), vsz, vfr, va, vb, vc, ve) else (fX3_isPlane vnum p1 p2 p3 p4).bind fun (u2 : Int32) => (if u2 = 0 then some ((-1 : Int32), vsz, vfr, va, vb, vc, ve) else (fX3_isThere vsz va vb vc ve p1 p2 p3 p4).bind fun (u5 : Int32) => (if u5 = 0 then (fX3_append vsz va vb vc ve p1 p2 p3 p4).bind fun (u8 : (Int32 × (Nat → Int32) × (Nat → Int32) × (Nat → Int32) × (Nat → Int32))) => some ((u8.1 - (1 : Int32)), u8.1, (0 : Int32), u8.2.1, u8.2.2.1, u8.2.2.2.1, u8.2.2.2.2) else some ((-1 : Int32), vsz, vfr, va, vb, vc, ve))))
def fX5_take (vsz : Int32) (vfr : Int32) (va : (Nat → Int32)) (vb : (Nat → Int32)) (vc : (Nat → Int32)) (ve : (Nat → Int32)) (p1 : Int32) : Option (Int32 × Int32 × Int32 × (Nat → Int32) × (Nat → Int32) × (Nat → Int32) × (Nat → Int32)) :=
  (fX3_holds vsz p1).bind fun (u1 : Int32) => (if u1 = 0 then some ((0 : Int32), vsz, vfr, va, vb, vc, ve) else (fX3_drop vsz va vb vc ve p1).bind fun (u4 : (Int32 × (Nat → Int32) × (Nat → Int32) × (Nat → Int32) × (Nat → Int32))) => some ((1 : Int32), u4.1, (0 : Int32), u4.2.1, u4.2.2.1, u4.2.2.2.1, u4.2.2.2.2))
def fX5_told (vsz : Int32) (va : (Nat → Int32)) (vb : (Nat → Int32)) (vc : (Nat → Int32)) (ve : (Nat → Int32)) (p1 : Int32) (p2 : Int32) : Option Int32 :=
  (fX3_holds vsz p1).bind fun (u1 : Int32) => (if u1 = 0 then some (-1 : Int32) else (if p2 = (0 : Int32) then ck_ (in_R p1 11) (some (va p1.toNatClampNeg)) else (if p2 = (1 : Int32) then ck_ (in_R p1 11) (some (vb p1.toNatClampNeg)) else (if p2 = (2 : Int32) then ck_ (in_R p1 11) (some (vc p1.toNatClampNeg)) else (if p2 = (3 : Int32) then ck_ (in_R p1 11) (some (ve p1.toNatClampNeg)) else some (-1 : Int32))))))
def fX5_row (vnum : Int32) (vsz : Int32) (va : (Nat → Int32)) (vb : (Nat → Int32)) (vc : (Nat → Int32)) (ve : (Nat → Int32)) (vth : (Nat → Int32)) (p1 : Int32) (p2 : Int32) (p3 : Int32) : Option Int32 :=
  ((if vnum < (2 : Int32) then some (0 : Int32) else some p2)).bind fun (u1 : Int32) => ((if vnum < (3 : Int32) then some (0 : Int32) else some p3)).bind fun (u4 : Int32) => (fX5_isTooFar p1).bind fun (u7 : Int32) => (if u7 = 0 then (fX5_isTooFar u1).bind fun (u10 : Int32) => (if u10 = 0 then (fX5_isTooFar u4).bind fun (u13 : Int32) => (if u13 = 0 then (fX3_signs vsz va vb vc ve p1 u1 u4 (1 : Int32)).bind fun (u16 : Int32) => (fX3_rowOf vth u16).bind fun (u18 : Int32) => some u18 else some (-1 : Int32)) else some (-1 : Int32)) else some (-1 : Int32))
def fX5_faces (vnum : Int32) (vsz : Int32) (vfr : Int32) (vfo : Int32) (vli : Int32) (va : (Nat → Int32)) (vb : (Nat → Int32)) (vc : (Nat → Int32)) (ve : (Nat → Int32)) (vth : (Nat → Int32)) (vrk : (Nat → Int32)) (vcm : (Nat → Int32)) (vkx : (Nat → Int32)) (vky : (Nat → Int32)) (vkz : (Nat → Int32)) (vmk : (Nat → Int32)) (vre : (Nat → Int32)) (vro : (Nat → Int32)) (vwi : (Nat → Int32)) (vla : (Nat → Int32)) (vlb : (Nat → Int32)) (k0x : Int32) (k0y : Int32) (k0z : Int32) (k1x : Int32) (k1y : Int32) (k1z : Int32) (k2x : Int32) (k2y : Int32) (k2z : Int32) (k3x : Int32) (k3y : Int32) (k3z : Int32) (p1 : Int32) : Option (Int32 × Int32 × Int32 × Int32 × (Nat → Int32) × (Nat → Int32) × (Nat → Int32) × (Nat → Int32) × (Nat → Int32) × (Nat → Int32) × (Nat → Int32) × (Nat → Int32) × (Nat → Int32) × (Nat → Int32) × (Nat → Int32) × Int32 × Int32 × Int32 × Int32 × Int32 × Int32 × Int32 × Int32 × Int32 × Int32 × Int32 × Int32) :=
  (if p1 < 0 then some ((-1 : Int32), vfr, vfo, vli, vrk, vcm, vkx, vky, vkz, vmk, vre, vro, vwi, vla, vlb, k0x, k0y, k0z, k1x, k1y, k1z, k2x, k2y, k2z, k3x, k3y, k3z) else (if p1 ≤ vnum then (fX5_freshCut vnum vsz vfr vfo vli va vb vc ve vth vrk vcm vkx vky vkz vmk vre vro vwi vla vlb k0x k0y k0z k1x k1y k1z k2x k2y k2z k3x k3y k3z).bind fun (u3 : (Int32 × Int32 × Int32 × (Nat → Int32) × (Nat → Int32) × (Nat → Int32) × (Nat → Int32) × (Nat → Int32) × (Nat → Int32) × (Nat → Int32) × (Nat → Int32) × (Nat → Int32) × (Nat → Int32) × (Nat → Int32) × Int32 × Int32 × Int32 × Int32 × Int32 × Int32 × Int32 × Int32 × Int32 × Int32 × Int32 × Int32)) => (fX1_countOfWidth u3.2.1 u3.2.2.2.2.2.2.2.2.2.2.2.1 p1).bind fun (u5 : Int32) => some (u5, u3.1, u3.2.1, u3.2.2.1, u3.2.2.2.1, u3.2.2.2.2.1, u3.2.2.2.2.2.1, u3.2.2.2.2.2.2.1, u3.2.2.2.2.2.2.2.1, u3.2.2.2.2.2.2.2.2.1, u3.2.2.2.2.2.2.2.2.2.1, u3.2.2.2.2.2.2.2.2.2.2.1, u3.2.2.2.2.2.2.2.2.2.2.2.1, u3.2.2.2.2.2.2.2.2.2.2.2.2.1, u3.2.2.2.2.2.2.2.2.2.2.2.2.2.1, u3.2.2.2.2.2.2.2.2.2.2.2.2.2.2.1, u3.2.2.2.2.2.2.2.2.2.2.2.2.2.2.2.1, u3.2.2.2.2.2.2.2.2.2.2.2.2.2.2.2.2.1, u3.2.2.2.2.2.2.2.2.2.2.2.2.2.2.2.2.2.1, u3.2.2.2.2.2.2.2.2.2.2.2.2.2.2.2.2.2.2.1, u3.2.2.2.2.2.2.2.2.2.2.2.2.2.2.2.2.2.2.2.1, u3.2.2.2.2.2.2.2.2.2.2.2.2.2.2.2.2.2.2.2.2.1, u3.2.2.2.2.2.2.2.2.2.2.2.2.2.2.2.2.2.2.2.2.2.1, u3.2.2.2.2.2.2.2.2.2.2.2.2.2.2.2.2.2.2.2.2.2.2.1, u3.2.2.2.2.2.2.2.2.2.2.2.2.2.2.2.2.2.2.2.2.2.2.2.1, u3.2.2.2.2.2.2.2.2.2.2.2.2.2.2.2.2.2.2.2.2.2.2.2.2.1, u3.2.2.2.2.2.2.2.2.2.2.2.2.2.2.2.2.2.2.2.2.2.2.2.2.2) else some ((-1 : Int32), vfr, vfo, vli, vrk, vcm, vkx, vky, vkz, vmk, vre, vro, vwi, vla, vlb, k0x, k0y, k0z, k1x, k1y, k1z, k2x, k2y, k2z, k3x, k3y, k3z)))
def fX5_face (vnum : Int32) (vsz : Int32) (vfr : Int32) (vfo : Int32) (vli : Int32) (va : (Nat → Int32)) (vb : (Nat → Int32)) (vc : (Nat → Int32)) (ve : (Nat → Int32)) (vth : (Nat → Int32)) (vrk : (Nat → Int32)) (vcm : (Nat → Int32)) (vkx : (Nat → Int32)) (vky : (Nat → Int32)) (vkz : (Nat → Int32)) (vmk : (Nat → Int32)) (vre : (Nat → Int32)) (vro : (Nat → Int32)) (vwi : (Nat → Int32)) (vla : (Nat → Int32)) (vlb : (Nat → Int32)) (k0x : Int32) (k0y : Int32) (k0z : Int32) (k1x : Int32) (k1y : Int32) (k1z : Int32) (k2x : Int32) (k2y : Int32) (k2z : Int32) (k3x : Int32) (k3y : Int32) (k3z : Int32) (p1 : Int32) (p2 : Int32) : Option (Int32 × Int32 × Int32 × Int32 × (Nat → Int32) × (Nat → Int32) × (Nat → Int32) × (Nat → Int32) × (Nat → Int32) × (Nat → Int32) × (Nat → Int32) × (Nat → Int32) × (Nat → Int32) × (Nat → Int32) × (Nat → Int32) × Int32 × Int32 × Int32 × Int32 × Int32 × Int32 × Int32 × Int32 × Int32 × Int32 × Int32 × Int32) :=
  (fX5_freshCut vnum vsz vfr vfo vli va vb vc ve vth vrk vcm vkx vky vkz vmk vre vro vwi vla vlb k0x k0y k0z k1x k1y k1z k2x k2y k2z k3x k3y k3z).bind fun (u1 : (Int32 × Int32 × Int32 × (Nat → Int32) × (Nat → Int32) × (Nat → Int32) × (Nat → Int32) × (Nat → Int32) × (Nat → Int32) × (Nat → Int32) × (Nat → Int32) × (Nat → Int32) × (Nat → Int32) × (Nat → Int32) × Int32 × Int32 × Int32 × Int32 × Int32 × Int32 × Int32 × Int32 × Int32 × Int32 × Int32 × Int32)) => (fX1_rowOfWidth u1.2.1 u1.2.2.2.2.2.2.2.2.2.2.1 u1.2.2.2.2.2.2.2.2.2.2.2.1 p1 p2).bind fun (u3 : Int32) => some (u3, u1.1, u1.2.1, u1.2.2.1, u1.2.2.2.1, u1.2.2.2.2.1, u1.2.2.2.2.2.1, u1.2.2.2.2.2.2.1, u1.2.2.2.2.2.2.2.1, u1.2.2.2.2.2.2.2.2.1, u1.2.2.2.2.2.2.2.2.2.1, u1.2.2.2.2.2.2.2.2.2.2.1, u1.2.2.2.2.2.2.2.2.2.2.2.1, u1.2.2.2.2.2.2.2.2.2.2.2.2.1, u1.2.2.2.2.2.2.2.2.2.2.2.2.2.1, u1.2.2.2.2.2.2.2.2.2.2.2.2.2.2.1, u1.2.2.2.2.2.2.2.2.2.2.2.2.2.2.2.1, u1.2.2.2.2.2.2.2.2.2.2.2.2.2.2.2.2.1, u1.2.2.2.2.2.2.2.2.2.2.2.2.2.2.2.2.2.1, u1.2.2.2.2.2.2.2.2.2.2.2.2.2.2.2.2.2.2.1, u1.2.2.2.2.2.2.2.2.2.2.2.2.2.2.2.2.2.2.2.1, u1.2.2.2.2.2.2.2.2.2.2.2.2.2.2.2.2.2.2.2.2.1, u1.2.2.2.2.2.2.2.2.2.2.2.2.2.2.2.2.2.2.2.2.2.1, u1.2.2.2.2.2.2.2.2.2.2.2.2.2.2.2.2.2.2.2.2.2.2.1, u1.2.2.2.2.2.2.2.2.2.2.2.2.2.2.2.2.2.2.2.2.2.2.2.1, u1.2.2.2.2.2.2.2.2.2.2.2.2.2.2.2.2.2.2.2.2.2.2.2.2.1, u1.2.2.2.2.2.2.2.2.2.2.2.2.2.2.2.2.2.2.2.2.2.2.2.2.2)
def fX5_width (vnum : Int32) (vsz : Int32) (vfr : Int32) (vfo : Int32) (vli : Int32) (va : (Nat → Int32)) (vb : (Nat → Int32)) (vc : (Nat → Int32)) (ve : (Nat → Int32)) (vth : (Nat → Int32)) (vrk : (Nat → Int32)) (vcm : (Nat → Int32)) (vkx : (Nat → Int32)) (vky : (Nat → Int32)) (vkz : (Nat → Int32)) (vmk : (Nat → Int32)) (vre : (Nat → Int32)) (vro : (Nat → Int32)) (vwi : (Nat → Int32)) (vla : (Nat → Int32)) (vlb : (Nat → Int32)) (k0x : Int32) (k0y : Int32) (k0z : Int32) (k1x : Int32) (k1y : Int32) (k1z : Int32) (k2x : Int32) (k2y : Int32) (k2z : Int32) (k3x : Int32) (k3y : Int32) (k3z : Int32) (p1 : Int32) : Option (Int32 × Int32 × Int32 × Int32 × (Nat → Int32) × (Nat → Int32) × (Nat → Int32) × (Nat → Int32) × (Nat → Int32) × (Nat → Int32) × (Nat → Int32) × (Nat → Int32) × (Nat → Int32) × (Nat → Int32) × (Nat → Int32) × Int32 × Int32 × Int32 × Int32 × Int32 × Int32 × Int32 × Int32 × Int32 × Int32 × Int32 × Int32) :=
  (fX5_freshCut vnum vsz vfr vfo vli va vb vc ve vth vrk vcm vkx vky vkz vmk vre vro vwi vla vlb k0x k0y k0z k1x k1y k1z k2x k2y k2z k3x k3y k3z).bind fun (u1 : (Int32 × Int32 × Int32 × (Nat → Int32) × (Nat → Int32) × (Nat → Int32) × (Nat → Int32) × (Nat → Int32) × (Nat → Int32) × (Nat → Int32) × (Nat → Int32) × (Nat → Int32) × (Nat → Int32) × (Nat → Int32) × Int32 × Int32 × Int32 × Int32 × Int32 × Int32 × Int32 × Int32 × Int32 × Int32 × Int32 × Int32)) => (fX1_hasFace u1.2.2.2.2.2.2.2.2.1 p1).bind fun (u3 : Int32) => (if u3 = 0 then some ((-1 : Int32), u1.1, u1.2.1, u1.2.2.1, u1.2.2.2.1, u1.2.2.2.2.1, u1.2.2.2.2.2.1, u1.2.2.2.2.2.2.1, u1.2.2.2.2.2.2.2.1, u1.2.2.2.2.2.2.2.2.1, u1.2.2.2.2.2.2.2.2.2.1, u1.2.2.2.2.2.2.2.2.2.2.1, u1.2.2.2.2.2.2.2.2.2.2.2.1, u1.2.2.2.2.2.2.2.2.2.2.2.2.1, u1.2.2.2.2.2.2.2.2.2.2.2.2.2.1, u1.2.2.2.2.2.2.2.2.2.2.2.2.2.2.1, u1.2.2.2.2.2.2.2.2.2.2.2.2.2.2.2.1, u1.2.2.2.2.2.2.2.2.2.2.2.2.2.2.2.2.1, u1.2.2.2.2.2.2.2.2.2.2.2.2.2.2.2.2.2.1, u1.2.2.2.2.2.2.2.2.2.2.2.2.2.2.2.2.2.2.1, u1.2.2.2.2.2.2.2.2.2.2.2.2.2.2.2.2.2.2.2.1, u1.2.2.2.2.2.2.2.2.2.2.2.2.2.2.2.2.2.2.2.2.1, u1.2.2.2.2.2.2.2.2.2.2.2.2.2.2.2.2.2.2.2.2.2.1, u1.2.2.2.2.2.2.2.2.2.2.2.2.2.2.2.2.2.2.2.2.2.2.1, u1.2.2.2.2.2.2.2.2.2.2.2.2.2.2.2.2.2.2.2.2.2.2.2.1, u1.2.2.2.2.2.2.2.2.2.2.2.2.2.2.2.2.2.2.2.2.2.2.2.2.1, u1.2.2.2.2.2.2.2.2.2.2.2.2.2.2.2.2.2.2.2.2.2.2.2.2.2) else (fX5_maskOf p1 (1 : Int32)).bind fun (u6 : Int32) => ck_ (in_R u6 256) (some ((vnum - (u1.2.2.2.1 u6.toNatClampNeg)), u1.1, u1.2.1, u1.2.2.1, u1.2.2.2.1, u1.2.2.2.2.1, u1.2.2.2.2.2.1, u1.2.2.2.2.2.2.1, u1.2.2.2.2.2.2.2.1, u1.2.2.2.2.2.2.2.2.1, u1.2.2.2.2.2.2.2.2.2.1, u1.2.2.2.2.2.2.2.2.2.2.1, u1.2.2.2.2.2.2.2.2.2.2.2.1, u1.2.2.2.2.2.2.2.2.2.2.2.2.1, u1.2.2.2.2.2.2.2.2.2.2.2.2.2.1, u1.2.2.2.2.2.2.2.2.2.2.2.2.2.2.1, u1.2.2.2.2.2.2.2.2.2.2.2.2.2.2.2.1, u1.2.2.2.2.2.2.2.2.2.2.2.2.2.2.2.2.1, u1.2.2.2.2.2.2.2.2.2.2.2.2.2.2.2.2.2.1, u1.2.2.2.2.2.2.2.2.2.2.2.2.2.2.2.2.2.2.1, u1.2.2.2.2.2.2.2.2.2.2.2.2.2.2.2.2.2.2.2.1, u1.2.2.2.2.2.2.2.2.2.2.2.2.2.2.2.2.2.2.2.2.1, u1.2.2.2.2.2.2.2.2.2.2.2.2.2.2.2.2.2.2.2.2.2.1, u1.2.2.2.2.2.2.2.2.2.2.2.2.2.2.2.2.2.2.2.2.2.2.1, u1.2.2.2.2.2.2.2.2.2.2.2.2.2.2.2.2.2.2.2.2.2.2.2.1, u1.2.2.2.2.2.2.2.2.2.2.2.2.2.2.2.2.2.2.2.2.2.2.2.2.1, u1.2.2.2.2.2.2.2.2.2.2.2.2.2.2.2.2.2.2.2.2.2.2.2.2.2)))
def fX5_bounded (vnum : Int32) (vsz : Int32) (vfr : Int32) (vfo : Int32) (vli : Int32) (va : (Nat → Int32)) (vb : (Nat → Int32)) (vc : (Nat → Int32)) (ve : (Nat → Int32)) (vth : (Nat → Int32)) (vrk : (Nat → Int32)) (vcm : (Nat → Int32)) (vkx : (Nat → Int32)) (vky : (Nat → Int32)) (vkz : (Nat → Int32)) (vmk : (Nat → Int32)) (vre : (Nat → Int32)) (vro : (Nat → Int32)) (vwi : (Nat → Int32)) (vla : (Nat → Int32)) (vlb : (Nat → Int32)) (k0x : Int32) (k0y : Int32) (k0z : Int32) (k1x : Int32) (k1y : Int32) (k1z : Int32) (k2x : Int32) (k2y : Int32) (k2z : Int32) (k3x : Int32) (k3y : Int32) (k3z : Int32) (p1 : Int32) : Option (Int32 × Int32 × Int32 × Int32 × (Nat → Int32) × (Nat → Int32) × (Nat → Int32) × (Nat → Int32) × (Nat → Int32) × (Nat → Int32) × (Nat → Int32) × (Nat → Int32) × (Nat → Int32) × (Nat → Int32) × (Nat → Int32) × Int32 × Int32 × Int32 × Int32 × Int32 × Int32 × Int32 × Int32 × Int32 × Int32 × Int32 × Int32) :=
  (fX5_freshCut vnum vsz vfr vfo vli va vb vc ve vth vrk vcm vkx vky vkz vmk vre vro vwi vla vlb k0x k0y k0z k1x k1y k1z k2x k2y k2z k3x k3y k3z).bind fun (u1 : (Int32 × Int32 × Int32 × (Nat → Int32) × (Nat → Int32) × (Nat → Int32) × (Nat → Int32) × (Nat → Int32) × (Nat → Int32) × (Nat → Int32) × (Nat → Int32) × (Nat → Int32) × (Nat → Int32) × (Nat → Int32) × Int32 × Int32 × Int32 × Int32 × Int32 × Int32 × Int32 × Int32 × Int32 × Int32 × Int32 × Int32)) => (fX1_hasRoom u1.2.2.2.2.2.2.2.2.1 p1).bind fun (u3 : Int32) => (if u3 = 0 then some ((0 : Int32), u1.1, u1.2.1, u1.2.2.1, u1.2.2.2.1, u1.2.2.2.2.1, u1.2.2.2.2.2.1, u1.2.2.2.2.2.2.1, u1.2.2.2.2.2.2.2.1, u1.2.2.2.2.2.2.2.2.1, u1.2.2.2.2.2.2.2.2.2.1, u1.2.2.2.2.2.2.2.2.2.2.1, u1.2.2.2.2.2.2.2.2.2.2.2.1, u1.2.2.2.2.2.2.2.2.2.2.2.2.1, u1.2.2.2.2.2.2.2.2.2.2.2.2.2.1, u1.2.2.2.2.2.2.2.2.2.2.2.2.2.2.1, u1.2.2.2.2.2.2.2.2.2.2.2.2.2.2.2.1, u1.2.2.2.2.2.2.2.2.2.2.2.2.2.2.2.2.1, u1.2.2.2.2.2.2.2.2.2.2.2.2.2.2.2.2.2.1, u1.2.2.2.2.2.2.2.2.2.2.2.2.2.2.2.2.2.2.1, u1.2.2.2.2.2.2.2.2.2.2.2.2.2.2.2.2.2.2.2.1, u1.2.2.2.2.2.2.2.2.2.2.2.2.2.2.2.2.2.2.2.2.1, u1.2.2.2.2.2.2.2.2.2.2.2.2.2.2.2.2.2.2.2.2.2.1, u1.2.2.2.2.2.2.2.2.2.2.2.2.2.2.2.2.2.2.2.2.2.2.1, u1.2.2.2.2.2.2.2.2.2.2.2.2.2.2.2.2.2.2.2.2.2.2.2.1, u1.2.2.2.2.2.2.2.2.2.2.2.2.2.2.2.2.2.2.2.2.2.2.2.2.1, u1.2.2.2.2.2.2.2.2.2.2.2.2.2.2.2.2.2.2.2.2.2.2.2.2.2) else (fX2_rankOfAll vsz u1.2.2.2.1).bind fun (u6 : Int32) => (if u6 = vnum then (fX5_maskOf p1 (2 : Int32)).bind fun (u9 : Int32) => (fX1_isOpen u1.2.2.1 u1.2.2.2.2.2.2.2.2.2.2.2.2.1 u1.2.2.2.2.2.2.2.2.2.2.2.2.2.1 u9).bind fun (u11 : Int32) => (if u11 = 0 then some ((1 : Int32), u1.1, u1.2.1, u1.2.2.1, u1.2.2.2.1, u1.2.2.2.2.1, u1.2.2.2.2.2.1, u1.2.2.2.2.2.2.1, u1.2.2.2.2.2.2.2.1, u1.2.2.2.2.2.2.2.2.1, u1.2.2.2.2.2.2.2.2.2.1, u1.2.2.2.2.2.2.2.2.2.2.1, u1.2.2.2.2.2.2.2.2.2.2.2.1, u1.2.2.2.2.2.2.2.2.2.2.2.2.1, u1.2.2.2.2.2.2.2.2.2.2.2.2.2.1, u1.2.2.2.2.2.2.2.2.2.2.2.2.2.2.1, u1.2.2.2.2.2.2.2.2.2.2.2.2.2.2.2.1, u1.2.2.2.2.2.2.2.2.2.2.2.2.2.2.2.2.1, u1.2.2.2.2.2.2.2.2.2.2.2.2.2.2.2.2.2.1, u1.2.2.2.2.2.2.2.2.2.2.2.2.2.2.2.2.2.2.1, u1.2.2.2.2.2.2.2.2.2.2.2.2.2.2.2.2.2.2.2.1, u1.2.2.2.2.2.2.2.2.2.2.2.2.2.2.2.2.2.2.2.2.1, u1.2.2.2.2.2.2.2.2.2.2.2.2.2.2.2.2.2.2.2.2.2.1, u1.2.2.2.2.2.2.2.2.2.2.2.2.2.2.2.2.2.2.2.2.2.2.1, u1.2.2.2.2.2.2.2.2.2.2.2.2.2.2.2.2.2.2.2.2.2.2.2.1, u1.2.2.2.2.2.2.2.2.2.2.2.2.2.2.2.2.2.2.2.2.2.2.2.2.1, u1.2.2.2.2.2.2.2.2.2.2.2.2.2.2.2.2.2.2.2.2.2.2.2.2.2) else some ((0 : Int32), u1.1, u1.2.1, u1.2.2.1, u1.2.2.2.1, u1.2.2.2.2.1, u1.2.2.2.2.2.1, u1.2.2.2.2.2.2.1, u1.2.2.2.2.2.2.2.1, u1.2.2.2.2.2.2.2.2.1, u1.2.2.2.2.2.2.2.2.2.1, u1.2.2.2.2.2.2.2.2.2.2.1, u1.2.2.2.2.2.2.2.2.2.2.2.1, u1.2.2.2.2.2.2.2.2.2.2.2.2.1, u1.2.2.2.2.2.2.2.2.2.2.2.2.2.1, u1.2.2.2.2.2.2.2.2.2.2.2.2.2.2.1, u1.2.2.2.2.2.2.2.2.2.2.2.2.2.2.2.1, u1.2.2.2.2.2.2.2.2.2.2.2.2.2.2.2.2.1, u1.2.2.2.2.2.2.2.2.2.2.2.2.2.2.2.2.2.1, u1.2.2.2.2.2.2.2.2.2.2.2.2.2.2.2.2.2.2.1, u1.2.2.2.2.2.2.2.2.2.2.2.2.2.2.2.2.2.2.2.1, u1.2.2.2.2.2.2.2.2.2.2.2.2.2.2.2.2.2.2.2.2.1, u1.2.2.2.2.2.2.2.2.2.2.2.2.2.2.2.2.2.2.2.2.2.1, u1.2.2.2.2.2.2.2.2.2.2.2.2.2.2.2.2.2.2.2.2.2.2.1, u1.2.2.2.2.2.2.2.2.2.2.2.2.2.2.2.2.2.2.2.2.2.2.2.1, u1.2.2.2.2.2.2.2.2.2.2.2.2.2.2.2.2.2.2.2.2.2.2.2.2.1, u1.2.2.2.2.2.2.2.2.2.2.2.2.2.2.2.2.2.2.2.2.2.2.2.2.2)) else some ((0 : Int32), u1.1, u1.2.1, u1.2.2.1, u1.2.2.2.1, u1.2.2.2.2.1, u1.2.2.2.2.2.1, u1.2.2.2.2.2.2.1, u1.2.2.2.2.2.2.2.1, u1.2.2.2.2.2.2.2.2.1, u1.2.2.2.2.2.2.2.2.2.1, u1.2.2.2.2.2.2.2.2.2.2.1, u1.2.2.2.2.2.2.2.2.2.2.2.1, u1.2.2.2.2.2.2.2.2.2.2.2.2.1, u1.2.2.2.2.2.2.2.2.2.2.2.2.2.1, u1.2.2.2.2.2.2.2.2.2.2.2.2.2.2.1, u1.2.2.2.2.2.2.2.2.2.2.2.2.2.2.2.1, u1.2.2.2.2.2.2.2.2.2.2.2.2.2.2.2.2.1, u1.2.2.2.2.2.2.2.2.2.2.2.2.2.2.2.2.2.1, u1.2.2.2.2.2.2.2.2.2.2.2.2.2.2.2.2.2.2.1, u1.2.2.2.2.2.2.2.2.2.2.2.2.2.2.2.2.2.2.2.1, u1.2.2.2.2.2.2.2.2.2.2.2.2.2.2.2.2.2.2.2.2.1, u1.2.2.2.2.2.2.2.2.2.2.2.2.2.2.2.2.2.2.2.2.2.1, u1.2.2.2.2.2.2.2.2.2.2.2.2.2.2.2.2.2.2.2.2.2.2.1, u1.2.2.2.2.2.2.2.2.2.2.2.2.2.2.2.2.2.2.2.2.2.2.2.1, u1.2.2.2.2.2.2.2.2.2.2.2.2.2.2.2.2.2.2.2.2.2.2.2.2.1, u1.2.2.2.2.2.2.2.2.2.2.2.2.2.2.2.2.2.2.2.2.2.2.2.2.2)))
def fX5_boundedRooms_L28 (vnum : Int32) (vsz : Int32) (u1 : (Int32 × Int32 × Int32 × (Nat → Int32) × (Nat → Int32) × (Nat → Int32) × (Nat → Int32) × (Nat → Int32) × (Nat → Int32) × (Nat → Int32) × (Nat → Int32) × (Nat → Int32) × (Nat → Int32) × (Nat → Int32) × Int32 × Int32 × Int32 × Int32 × Int32 × Int32 × Int32 × Int32 × Int32 × Int32 × Int32 × Int32)) (v6 : Int32) (v7 : Int32) : Option ((Int32 × Int32) ⊕ (Int32 × Int32)) :=
  (if vnum < v6 then some (.inr (v6, v7)) else (fX2_factor vnum vsz u1.2.2.2.1 u1.2.2.2.2.1 v6 (0 : Int32)).bind fun (u16 : Int32) => some (.inl ((v6 + (1 : Int32)), (v7 + u16))))
def fX5_boundedRooms (vnum : Int32) (vsz : Int32) (vfr : Int32) (vfo : Int32) (vli : Int32) (va : (Nat → Int32)) (vb : (Nat → Int32)) (vc : (Nat → Int32)) (ve : (Nat → Int32)) (vth : (Nat → Int32)) (vrk : (Nat → Int32)) (vcm : (Nat → Int32)) (vkx : (Nat → Int32)) (vky : (Nat → Int32)) (vkz : (Nat → Int32)) (vmk : (Nat → Int32)) (vre : (Nat → Int32)) (vro : (Nat → Int32)) (vwi : (Nat → Int32)) (vla : (Nat → Int32)) (vlb : (Nat → Int32)) (k0x : Int32) (k0y : Int32) (k0z : Int32) (k1x : Int32) (k1y : Int32) (k1z : Int32) (k2x : Int32) (k2y : Int32) (k2z : Int32) (k3x : Int32) (k3y : Int32) (k3z : Int32) : Option (Int32 × Int32 × Int32 × Int32 × (Nat → Int32) × (Nat → Int32) × (Nat → Int32) × (Nat → Int32) × (Nat → Int32) × (Nat → Int32) × (Nat → Int32) × (Nat → Int32) × (Nat → Int32) × (Nat → Int32) × (Nat → Int32) × Int32 × Int32 × Int32 × Int32 × Int32 × Int32 × Int32 × Int32 × Int32 × Int32 × Int32 × Int32) :=
  (fX5_freshCut vnum vsz vfr vfo vli va vb vc ve vth vrk vcm vkx vky vkz vmk vre vro vwi vla vlb k0x k0y k0z k1x k1y k1z k2x k2y k2z k3x k3y k3z).bind fun (u1 : (Int32 × Int32 × Int32 × (Nat → Int32) × (Nat → Int32) × (Nat → Int32) × (Nat → Int32) × (Nat → Int32) × (Nat → Int32) × (Nat → Int32) × (Nat → Int32) × (Nat → Int32) × (Nat → Int32) × (Nat → Int32) × Int32 × Int32 × Int32 × Int32 × Int32 × Int32 × Int32 × Int32 × Int32 × Int32 × Int32 × Int32)) => (fX2_rankOfAll vsz u1.2.2.2.1).bind fun (u3 : Int32) => (if vnum ≤ u3 then (lp_ (fun (st : (Int32 × Int32)) => fX5_boundedRooms_L28 vnum vsz u1 st.1 st.2) fu_ ((0 : Int32), (0 : Int32))).bind fun (u8 : (Int32 × Int32)) => some ((if 0 ≤ u8.2 then u8.2 else 0 - u8.2), u1.1, u1.2.1, u1.2.2.1, u1.2.2.2.1, u1.2.2.2.2.1, u1.2.2.2.2.2.1, u1.2.2.2.2.2.2.1, u1.2.2.2.2.2.2.2.1, u1.2.2.2.2.2.2.2.2.1, u1.2.2.2.2.2.2.2.2.2.1, u1.2.2.2.2.2.2.2.2.2.2.1, u1.2.2.2.2.2.2.2.2.2.2.2.1, u1.2.2.2.2.2.2.2.2.2.2.2.2.1, u1.2.2.2.2.2.2.2.2.2.2.2.2.2.1, u1.2.2.2.2.2.2.2.2.2.2.2.2.2.2.1, u1.2.2.2.2.2.2.2.2.2.2.2.2.2.2.2.1, u1.2.2.2.2.2.2.2.2.2.2.2.2.2.2.2.2.1, u1.2.2.2.2.2.2.2.2.2.2.2.2.2.2.2.2.2.1, u1.2.2.2.2.2.2.2.2.2.2.2.2.2.2.2.2.2.2.1, u1.2.2.2.2.2.2.2.2.2.2.2.2.2.2.2.2.2.2.2.1, u1.2.2.2.2.2.2.2.2.2.2.2.2.2.2.2.2.2.2.2.2.1, u1.2.2.2.2.2.2.2.2.2.2.2.2.2.2.2.2.2.2.2.2.2.1, u1.2.2.2.2.2.2.2.2.2.2.2.2.2.2.2.2.2.2.2.2.2.2.1, u1.2.2.2.2.2.2.2.2.2.2.2.2.2.2.2.2.2.2.2.2.2.2.2.1, u1.2.2.2.2.2.2.2.2.2.2.2.2.2.2.2.2.2.2.2.2.2.2.2.2.1, u1.2.2.2.2.2.2.2.2.2.2.2.2.2.2.2.2.2.2.2.2.2.2.2.2.2) else some ((0 : Int32), u1.1, u1.2.1, u1.2.2.1, u1.2.2.2.1, u1.2.2.2.2.1, u1.2.2.2.2.2.1, u1.2.2.2.2.2.2.1, u1.2.2.2.2.2.2.2.1, u1.2.2.2.2.2.2.2.2.1, u1.2.2.2.2.2.2.2.2.2.1, u1.2.2.2.2.2.2.2.2.2.2.1, u1.2.2.2.2.2.2.2.2.2.2.2.1, u1.2.2.2.2.2.2.2.2.2.2.2.2.1, u1.2.2.2.2.2.2.2.2.2.2.2.2.2.1, u1.2.2.2.2.2.2.2.2.2.2.2.2.2.2.1, u1.2.2.2.2.2.2.2.2.2.2.2.2.2.2.2.1, u1.2.2.2.2.2.2.2.2.2.2.2.2.2.2.2.2.1, u1.2.2.2.2.2.2.2.2.2.2.2.2.2.2.2.2.2.1, u1.2.2.2.2.2.2.2.2.2.2.2.2.2.2.2.2.2.2.1, u1.2.2.2.2.2.2.2.2.2.2.2.2.2.2.2.2.2.2.2.1, u1.2.2.2.2.2.2.2.2.2.2.2.2.2.2.2.2.2.2.2.2.1, u1.2.2.2.2.2.2.2.2.2.2.2.2.2.2.2.2.2.2.2.2.2.1, u1.2.2.2.2.2.2.2.2.2.2.2.2.2.2.2.2.2.2.2.2.2.2.1, u1.2.2.2.2.2.2.2.2.2.2.2.2.2.2.2.2.2.2.2.2.2.2.2.1, u1.2.2.2.2.2.2.2.2.2.2.2.2.2.2.2.2.2.2.2.2.2.2.2.2.1, u1.2.2.2.2.2.2.2.2.2.2.2.2.2.2.2.2.2.2.2.2.2.2.2.2.2))
def fX5_poly (vnum : Int32) (vsz : Int32) (vfr : Int32) (vfo : Int32) (vli : Int32) (va : (Nat → Int32)) (vb : (Nat → Int32)) (vc : (Nat → Int32)) (ve : (Nat → Int32)) (vth : (Nat → Int32)) (vrk : (Nat → Int32)) (vcm : (Nat → Int32)) (vkx : (Nat → Int32)) (vky : (Nat → Int32)) (vkz : (Nat → Int32)) (vmk : (Nat → Int32)) (vre : (Nat → Int32)) (vro : (Nat → Int32)) (vwi : (Nat → Int32)) (vla : (Nat → Int32)) (vlb : (Nat → Int32)) (k0x : Int32) (k0y : Int32) (k0z : Int32) (k1x : Int32) (k1y : Int32) (k1z : Int32) (k2x : Int32) (k2y : Int32) (k2z : Int32) (k3x : Int32) (k3y : Int32) (k3z : Int32) (p1 : Int32) : Option (Int32 × Int32 × Int32 × Int32 × (Nat → Int32) × (Nat → Int32) × (Nat → Int32) × (Nat → Int32) × (Nat → Int32) × (Nat → Int32) × (Nat → Int32) × (Nat → Int32) × (Nat → Int32) × (Nat → Int32) × (Nat → Int32) × Int32 × Int32 × Int32 × Int32 × Int32 × Int32 × Int32 × Int32 × Int32 × Int32 × Int32 × Int32) :=
  (fX5_freshCut vnum vsz vfr vfo vli va vb vc ve vth vrk vcm vkx vky vkz vmk vre vro vwi vla vlb k0x k0y k0z k1x k1y k1z k2x k2y k2z k3x k3y k3z).bind fun (u1 : (Int32 × Int32 × Int32 × (Nat → Int32) × (Nat → Int32) × (Nat → Int32) × (Nat → Int32) × (Nat → Int32) × (Nat → Int32) × (Nat → Int32) × (Nat → Int32) × (Nat → Int32) × (Nat → Int32) × (Nat → Int32) × Int32 × Int32 × Int32 × Int32 × Int32 × Int32 × Int32 × Int32 × Int32 × Int32 × Int32 × Int32)) => (fX2_factor vnum vsz u1.2.2.2.1 u1.2.2.2.2.1 p1 (0 : Int32)).bind fun (u3 : Int32) => some (u3, u1.1, u1.2.1, u1.2.2.1, u1.2.2.2.1, u1.2.2.2.2.1, u1.2.2.2.2.2.1, u1.2.2.2.2.2.2.1, u1.2.2.2.2.2.2.2.1, u1.2.2.2.2.2.2.2.2.1, u1.2.2.2.2.2.2.2.2.2.1, u1.2.2.2.2.2.2.2.2.2.2.1, u1.2.2.2.2.2.2.2.2.2.2.2.1, u1.2.2.2.2.2.2.2.2.2.2.2.2.1, u1.2.2.2.2.2.2.2.2.2.2.2.2.2.1, u1.2.2.2.2.2.2.2.2.2.2.2.2.2.2.1, u1.2.2.2.2.2.2.2.2.2.2.2.2.2.2.2.1, u1.2.2.2.2.2.2.2.2.2.2.2.2.2.2.2.2.1, u1.2.2.2.2.2.2.2.2.2.2.2.2.2.2.2.2.2.1, u1.2.2.2.2.2.2.2.2.2.2.2.2.2.2.2.2.2.2.1, u1.2.2.2.2.2.2.2.2.2.2.2.2.2.2.2.2.2.2.2.1, u1.2.2.2.2.2.2.2.2.2.2.2.2.2.2.2.2.2.2.2.2.1, u1.2.2.2.2.2.2.2.2.2.2.2.2.2.2.2.2.2.2.2.2.2.1, u1.2.2.2.2.2.2.2.2.2.2.2.2.2.2.2.2.2.2.2.2.2.2.1, u1.2.2.2.2.2.2.2.2.2.2.2.2.2.2.2.2.2.2.2.2.2.2.2.1, u1.2.2.2.2.2.2.2.2.2.2.2.2.2.2.2.2.2.2.2.2.2.2.2.2.1, u1.2.2.2.2.2.2.2.2.2.2.2.2.2.2.2.2.2.2.2.2.2.2.2.2.2)
def fX5_without (vnum : Int32) (vsz : Int32) (vfr : Int32) (vfo : Int32) (vli : Int32) (va : (Nat → Int32)) (vb : (Nat → Int32)) (vc : (Nat → Int32)) (ve : (Nat → Int32)) (vth : (Nat → Int32)) (vrk : (Nat → Int32)) (vcm : (Nat → Int32)) (vkx : (Nat → Int32)) (vky : (Nat → Int32)) (vkz : (Nat → Int32)) (vmk : (Nat → Int32)) (vre : (Nat → Int32)) (vro : (Nat → Int32)) (vwi : (Nat → Int32)) (vla : (Nat → Int32)) (vlb : (Nat → Int32)) (k0x : Int32) (k0y : Int32) (k0z : Int32) (k1x : Int32) (k1y : Int32) (k1z : Int32) (k2x : Int32) (k2y : Int32) (k2z : Int32) (k3x : Int32) (k3y : Int32) (k3z : Int32) (p1 : Int32) (p2 : Int32) : Option (Int32 × Int32 × Int32 × Int32 × (Nat → Int32) × (Nat → Int32) × (Nat → Int32) × (Nat → Int32) × (Nat → Int32) × (Nat → Int32) × (Nat → Int32) × (Nat → Int32) × (Nat → Int32) × (Nat → Int32) × (Nat → Int32) × Int32 × Int32 × Int32 × Int32 × Int32 × Int32 × Int32 × Int32 × Int32 × Int32 × Int32 × Int32) :=
  (fX3_holds vsz p1).bind fun (u1 : Int32) => (if u1 = 0 then some ((0 : Int32), vfr, vfo, vli, vrk, vcm, vkx, vky, vkz, vmk, vre, vro, vwi, vla, vlb, k0x, k0y, k0z, k1x, k1y, k1z, k2x, k2y, k2z, k3x, k3y, k3z) else (fX5_freshCut vnum vsz vfr vfo vli va vb vc ve vth vrk vcm vkx vky vkz vmk vre vro vwi vla vlb k0x k0y k0z k1x k1y k1z k2x k2y k2z k3x k3y k3z).bind fun (u4 : (Int32 × Int32 × Int32 × (Nat → Int32) × (Nat → Int32) × (Nat → Int32) × (Nat → Int32) × (Nat → Int32) × (Nat → Int32) × (Nat → Int32) × (Nat → Int32) × (Nat → Int32) × (Nat → Int32) × (Nat → Int32) × Int32 × Int32 × Int32 × Int32 × Int32 × Int32 × Int32 × Int32 × Int32 × Int32 × Int32 × Int32)) => (fX2_factor vnum vsz u4.2.2.2.1 u4.2.2.2.2.1 p2 ((1 : Int32) <<< (p1 &&& 31))).bind fun (u6 : Int32) => some (u6, u4.1, u4.2.1, u4.2.2.1, u4.2.2.2.1, u4.2.2.2.2.1, u4.2.2.2.2.2.1, u4.2.2.2.2.2.2.1, u4.2.2.2.2.2.2.2.1, u4.2.2.2.2.2.2.2.2.1, u4.2.2.2.2.2.2.2.2.2.1, u4.2.2.2.2.2.2.2.2.2.2.1, u4.2.2.2.2.2.2.2.2.2.2.2.1, u4.2.2.2.2.2.2.2.2.2.2.2.2.1, u4.2.2.2.2.2.2.2.2.2.2.2.2.2.1, u4.2.2.2.2.2.2.2.2.2.2.2.2.2.2.1, u4.2.2.2.2.2.2.2.2.2.2.2.2.2.2.2.1, u4.2.2.2.2.2.2.2.2.2.2.2.2.2.2.2.2.1, u4.2.2.2.2.2.2.2.2.2.2.2.2.2.2.2.2.2.1, u4.2.2.2.2.2.2.2.2.2.2.2.2.2.2.2.2.2.2.1, u4.2.2.2.2.2.2.2.2.2.2.2.2.2.2.2.2.2.2.2.1, u4.2.2.2.2.2.2.2.2.2.2.2.2.2.2.2.2.2.2.2.2.1, u4.2.2.2.2.2.2.2.2.2.2.2.2.2.2.2.2.2.2.2.2.2.1, u4.2.2.2.2.2.2.2.2.2.2.2.2.2.2.2.2.2.2.2.2.2.2.1, u4.2.2.2.2.2.2.2.2.2.2.2.2.2.2.2.2.2.2.2.2.2.2.2.1, u4.2.2.2.2.2.2.2.2.2.2.2.2.2.2.2.2.2.2.2.2.2.2.2.2.1, u4.2.2.2.2.2.2.2.2.2.2.2.2.2.2.2.2.2.2.2.2.2.2.2.2.2))
def fX5_on (vnum : Int32) (vsz : Int32) (vfr : Int32) (vfo : Int32) (vli : Int32) (va : (Nat → Int32)) (vb : (Nat → Int32)) (vc : (Nat → Int32)) (ve : (Nat → Int32)) (vth : (Nat → Int32)) (vrk : (Nat → Int32)) (vcm : (Nat → Int32)) (vkx : (Nat → Int32)) (vky : (Nat → Int32)) (vkz : (Nat → Int32)) (vmk : (Nat → Int32)) (vre : (Nat → Int32)) (vro : (Nat → Int32)) (vwi : (Nat → Int32)) (vla : (Nat → Int32)) (vlb : (Nat → Int32)) (k0x : Int32) (k0y : Int32) (k0z : Int32) (k1x : Int32) (k1y : Int32) (k1z : Int32) (k2x : Int32) (k2y : Int32) (k2z : Int32) (k3x : Int32) (k3y : Int32) (k3z : Int32) (p1 : Int32) (p2 : Int32) : Option (Int32 × Int32 × Int32 × Int32 × (Nat → Int32) × (Nat → Int32) × (Nat → Int32) × (Nat → Int32) × (Nat → Int32) × (Nat → Int32) × (Nat → Int32) × (Nat → Int32) × (Nat → Int32) × (Nat → Int32) × (Nat → Int32) × Int32 × Int32 × Int32 × Int32 × Int32 × Int32 × Int32 × Int32 × Int32 × Int32 × Int32 × Int32) :=
  (fX3_holds vsz p1).bind fun (u1 : Int32) => (if u1 = 0 then some ((0 : Int32), vfr, vfo, vli, vrk, vcm, vkx, vky, vkz, vmk, vre, vro, vwi, vla, vlb, k0x, k0y, k0z, k1x, k1y, k1z, k2x, k2y, k2z, k3x, k3y, k3z) else (fX5_freshCut vnum vsz vfr vfo vli va vb vc ve vth vrk vcm vkx vky vkz vmk vre vro vwi vla vlb k0x k0y k0z k1x k1y k1z k2x k2y k2z k3x k3y k3z).bind fun (u4 : (Int32 × Int32 × Int32 × (Nat → Int32) × (Nat → Int32) × (Nat → Int32) × (Nat → Int32) × (Nat → Int32) × (Nat → Int32) × (Nat → Int32) × (Nat → Int32) × (Nat → Int32) × (Nat → Int32) × (Nat → Int32) × Int32 × Int32 × Int32 × Int32 × Int32 × Int32 × Int32 × Int32 × Int32 × Int32 × Int32 × Int32)) => (fX2_factor vnum vsz u4.2.2.2.1 u4.2.2.2.2.1 p2 ((1 : Int32) <<< (p1 &&& 31))).bind fun (u6 : Int32) => (fX2_factor vnum vsz u4.2.2.2.1 u4.2.2.2.2.1 p2 (0 : Int32)).bind fun (u8 : Int32) => some ((u6 - u8), u4.1, u4.2.1, u4.2.2.1, u4.2.2.2.1, u4.2.2.2.2.1, u4.2.2.2.2.2.1, u4.2.2.2.2.2.2.1, u4.2.2.2.2.2.2.2.1, u4.2.2.2.2.2.2.2.2.1, u4.2.2.2.2.2.2.2.2.2.1, u4.2.2.2.2.2.2.2.2.2.2.1, u4.2.2.2.2.2.2.2.2.2.2.2.1, u4.2.2.2.2.2.2.2.2.2.2.2.2.1, u4.2.2.2.2.2.2.2.2.2.2.2.2.2.1, u4.2.2.2.2.2.2.2.2.2.2.2.2.2.2.1, u4.2.2.2.2.2.2.2.2.2.2.2.2.2.2.2.1, u4.2.2.2.2.2.2.2.2.2.2.2.2.2.2.2.2.1, u4.2.2.2.2.2.2.2.2.2.2.2.2.2.2.2.2.2.1, u4.2.2.2.2.2.2.2.2.2.2.2.2.2.2.2.2.2.2.1, u4.2.2.2.2.2.2.2.2.2.2.2.2.2.2.2.2.2.2.2.1, u4.2.2.2.2.2.2.2.2.2.2.2.2.2.2.2.2.2.2.2.2.1, u4.2.2.2.2.2.2.2.2.2.2.2.2.2.2.2.2.2.2.2.2.2.1, u4.2.2.2.2.2.2.2.2.2.2.2.2.2.2.2.2.2.2.2.2.2.2.1, u4.2.2.2.2.2.2.2.2.2.2.2.2.2.2.2.2.2.2.2.2.2.2.2.1, u4.2.2.2.2.2.2.2.2.2.2.2.2.2.2.2.2.2.2.2.2.2.2.2.2.1, u4.2.2.2.2.2.2.2.2.2.2.2.2.2.2.2.2.2.2.2.2.2.2.2.2.2))
def fX5_walls (vnum : Int32) (vsz : Int32) (vfr : Int32) (vfo : Int32) (vli : Int32) (va : (Nat → Int32)) (vb : (Nat → Int32)) (vc : (Nat → Int32)) (ve : (Nat → Int32)) (vth : (Nat → Int32)) (vrk : (Nat → Int32)) (vcm : (Nat → Int32)) (vkx : (Nat → Int32)) (vky : (Nat → Int32)) (vkz : (Nat → Int32)) (vmk : (Nat → Int32)) (vre : (Nat → Int32)) (vro : (Nat → Int32)) (vwi : (Nat → Int32)) (vla : (Nat → Int32)) (vlb : (Nat → Int32)) (k0x : Int32) (k0y : Int32) (k0z : Int32) (k1x : Int32) (k1y : Int32) (k1z : Int32) (k2x : Int32) (k2y : Int32) (k2z : Int32) (k3x : Int32) (k3y : Int32) (k3z : Int32) (p1 : Int32) : Option (Int32 × Int32 × Int32 × Int32 × (Nat → Int32) × (Nat → Int32) × (Nat → Int32) × (Nat → Int32) × (Nat → Int32) × (Nat → Int32) × (Nat → Int32) × (Nat → Int32) × (Nat → Int32) × (Nat → Int32) × (Nat → Int32) × Int32 × Int32 × Int32 × Int32 × Int32 × Int32 × Int32 × Int32 × Int32 × Int32 × Int32 × Int32) :=
  (fX5_freshCut vnum vsz vfr vfo vli va vb vc ve vth vrk vcm vkx vky vkz vmk vre vro vwi vla vlb k0x k0y k0z k1x k1y k1z k2x k2y k2z k3x k3y k3z).bind fun (u1 : (Int32 × Int32 × Int32 × (Nat → Int32) × (Nat → Int32) × (Nat → Int32) × (Nat → Int32) × (Nat → Int32) × (Nat → Int32) × (Nat → Int32) × (Nat → Int32) × (Nat → Int32) × (Nat → Int32) × (Nat → Int32) × Int32 × Int32 × Int32 × Int32 × Int32 × Int32 × Int32 × Int32 × Int32 × Int32 × Int32 × Int32)) => (fX1_hasRoom u1.2.2.2.2.2.2.2.2.1 p1).bind fun (u3 : Int32) => (if u3 = 0 then some ((-1 : Int32), u1.1, u1.2.1, u1.2.2.1, u1.2.2.2.1, u1.2.2.2.2.1, u1.2.2.2.2.2.1, u1.2.2.2.2.2.2.1, u1.2.2.2.2.2.2.2.1, u1.2.2.2.2.2.2.2.2.1, u1.2.2.2.2.2.2.2.2.2.1, u1.2.2.2.2.2.2.2.2.2.2.1, u1.2.2.2.2.2.2.2.2.2.2.2.1, u1.2.2.2.2.2.2.2.2.2.2.2.2.1, u1.2.2.2.2.2.2.2.2.2.2.2.2.2.1, u1.2.2.2.2.2.2.2.2.2.2.2.2.2.2.1, u1.2.2.2.2.2.2.2.2.2.2.2.2.2.2.2.1, u1.2.2.2.2.2.2.2.2.2.2.2.2.2.2.2.2.1, u1.2.2.2.2.2.2.2.2.2.2.2.2.2.2.2.2.2.1, u1.2.2.2.2.2.2.2.2.2.2.2.2.2.2.2.2.2.2.1, u1.2.2.2.2.2.2.2.2.2.2.2.2.2.2.2.2.2.2.2.1, u1.2.2.2.2.2.2.2.2.2.2.2.2.2.2.2.2.2.2.2.2.1, u1.2.2.2.2.2.2.2.2.2.2.2.2.2.2.2.2.2.2.2.2.2.1, u1.2.2.2.2.2.2.2.2.2.2.2.2.2.2.2.2.2.2.2.2.2.2.1, u1.2.2.2.2.2.2.2.2.2.2.2.2.2.2.2.2.2.2.2.2.2.2.2.1, u1.2.2.2.2.2.2.2.2.2.2.2.2.2.2.2.2.2.2.2.2.2.2.2.2.1, u1.2.2.2.2.2.2.2.2.2.2.2.2.2.2.2.2.2.2.2.2.2.2.2.2.2) else (fX1_wallsOf vsz u1.2.2.2.2.2.2.2.2.1 p1).bind fun (u6 : Int32) => some (u6, u1.1, u1.2.1, u1.2.2.1, u1.2.2.2.1, u1.2.2.2.2.1, u1.2.2.2.2.2.1, u1.2.2.2.2.2.2.1, u1.2.2.2.2.2.2.2.1, u1.2.2.2.2.2.2.2.2.1, u1.2.2.2.2.2.2.2.2.2.1, u1.2.2.2.2.2.2.2.2.2.2.1, u1.2.2.2.2.2.2.2.2.2.2.2.1, u1.2.2.2.2.2.2.2.2.2.2.2.2.1, u1.2.2.2.2.2.2.2.2.2.2.2.2.2.1, u1.2.2.2.2.2.2.2.2.2.2.2.2.2.2.1, u1.2.2.2.2.2.2.2.2.2.2.2.2.2.2.2.1, u1.2.2.2.2.2.2.2.2.2.2.2.2.2.2.2.2.1, u1.2.2.2.2.2.2.2.2.2.2.2.2.2.2.2.2.2.1, u1.2.2.2.2.2.2.2.2.2.2.2.2.2.2.2.2.2.2.1, u1.2.2.2.2.2.2.2.2.2.2.2.2.2.2.2.2.2.2.2.1, u1.2.2.2.2.2.2.2.2.2.2.2.2.2.2.2.2.2.2.2.2.1, u1.2.2.2.2.2.2.2.2.2.2.2.2.2.2.2.2.2.2.2.2.2.1, u1.2.2.2.2.2.2.2.2.2.2.2.2.2.2.2.2.2.2.2.2.2.2.1, u1.2.2.2.2.2.2.2.2.2.2.2.2.2.2.2.2.2.2.2.2.2.2.2.1, u1.2.2.2.2.2.2.2.2.2.2.2.2.2.2.2.2.2.2.2.2.2.2.2.2.1, u1.2.2.2.2.2.2.2.2.2.2.2.2.2.2.2.2.2.2.2.2.2.2.2.2.2))
def fX5_beside (vnum : Int32) (vsz : Int32) (vfr : Int32) (vfo : Int32) (vli : Int32) (va : (Nat → Int32)) (vb : (Nat → Int32)) (vc : (Nat → Int32)) (ve : (Nat → Int32)) (vth : (Nat → Int32)) (vrk : (Nat → Int32)) (vcm : (Nat → Int32)) (vkx : (Nat → Int32)) (vky : (Nat → Int32)) (vkz : (Nat → Int32)) (vmk : (Nat → Int32)) (vre : (Nat → Int32)) (vro : (Nat → Int32)) (vwi : (Nat → Int32)) (vla : (Nat → Int32)) (vlb : (Nat → Int32)) (k0x : Int32) (k0y : Int32) (k0z : Int32) (k1x : Int32) (k1y : Int32) (k1z : Int32) (k2x : Int32) (k2y : Int32) (k2z : Int32) (k3x : Int32) (k3y : Int32) (k3z : Int32) (p1 : Int32) (p2 : Int32) : Option (Int32 × Int32 × Int32 × Int32 × (Nat → Int32) × (Nat → Int32) × (Nat → Int32) × (Nat → Int32) × (Nat → Int32) × (Nat → Int32) × (Nat → Int32) × (Nat → Int32) × (Nat → Int32) × (Nat → Int32) × (Nat → Int32) × Int32 × Int32 × Int32 × Int32 × Int32 × Int32 × Int32 × Int32 × Int32 × Int32 × Int32 × Int32) :=
  (fX5_freshCut vnum vsz vfr vfo vli va vb vc ve vth vrk vcm vkx vky vkz vmk vre vro vwi vla vlb k0x k0y k0z k1x k1y k1z k2x k2y k2z k3x k3y k3z).bind fun (u1 : (Int32 × Int32 × Int32 × (Nat → Int32) × (Nat → Int32) × (Nat → Int32) × (Nat → Int32) × (Nat → Int32) × (Nat → Int32) × (Nat → Int32) × (Nat → Int32) × (Nat → Int32) × (Nat → Int32) × (Nat → Int32) × Int32 × Int32 × Int32 × Int32 × Int32 × Int32 × Int32 × Int32 × Int32 × Int32 × Int32 × Int32)) => (fX3_holds vsz p2).bind fun (u3 : Int32) => (if u3 = 0 then some ((-1 : Int32), u1.1, u1.2.1, u1.2.2.1, u1.2.2.2.1, u1.2.2.2.2.1, u1.2.2.2.2.2.1, u1.2.2.2.2.2.2.1, u1.2.2.2.2.2.2.2.1, u1.2.2.2.2.2.2.2.2.1, u1.2.2.2.2.2.2.2.2.2.1, u1.2.2.2.2.2.2.2.2.2.2.1, u1.2.2.2.2.2.2.2.2.2.2.2.1, u1.2.2.2.2.2.2.2.2.2.2.2.2.1, u1.2.2.2.2.2.2.2.2.2.2.2.2.2.1, u1.2.2.2.2.2.2.2.2.2.2.2.2.2.2.1, u1.2.2.2.2.2.2.2.2.2.2.2.2.2.2.2.1, u1.2.2.2.2.2.2.2.2.2.2.2.2.2.2.2.2.1, u1.2.2.2.2.2.2.2.2.2.2.2.2.2.2.2.2.2.1, u1.2.2.2.2.2.2.2.2.2.2.2.2.2.2.2.2.2.2.1, u1.2.2.2.2.2.2.2.2.2.2.2.2.2.2.2.2.2.2.2.1, u1.2.2.2.2.2.2.2.2.2.2.2.2.2.2.2.2.2.2.2.2.1, u1.2.2.2.2.2.2.2.2.2.2.2.2.2.2.2.2.2.2.2.2.2.1, u1.2.2.2.2.2.2.2.2.2.2.2.2.2.2.2.2.2.2.2.2.2.2.1, u1.2.2.2.2.2.2.2.2.2.2.2.2.2.2.2.2.2.2.2.2.2.2.2.1, u1.2.2.2.2.2.2.2.2.2.2.2.2.2.2.2.2.2.2.2.2.2.2.2.2.1, u1.2.2.2.2.2.2.2.2.2.2.2.2.2.2.2.2.2.2.2.2.2.2.2.2.2) else (fX1_hasRoom u1.2.2.2.2.2.2.2.2.1 p1).bind fun (u6 : Int32) => (if u6 = 0 then some ((-1 : Int32), u1.1, u1.2.1, u1.2.2.1, u1.2.2.2.1, u1.2.2.2.2.1, u1.2.2.2.2.2.1, u1.2.2.2.2.2.2.1, u1.2.2.2.2.2.2.2.1, u1.2.2.2.2.2.2.2.2.1, u1.2.2.2.2.2.2.2.2.2.1, u1.2.2.2.2.2.2.2.2.2.2.1, u1.2.2.2.2.2.2.2.2.2.2.2.1, u1.2.2.2.2.2.2.2.2.2.2.2.2.1, u1.2.2.2.2.2.2.2.2.2.2.2.2.2.1, u1.2.2.2.2.2.2.2.2.2.2.2.2.2.2.1, u1.2.2.2.2.2.2.2.2.2.2.2.2.2.2.2.1, u1.2.2.2.2.2.2.2.2.2.2.2.2.2.2.2.2.1, u1.2.2.2.2.2.2.2.2.2.2.2.2.2.2.2.2.2.1, u1.2.2.2.2.2.2.2.2.2.2.2.2.2.2.2.2.2.2.1, u1.2.2.2.2.2.2.2.2.2.2.2.2.2.2.2.2.2.2.2.1, u1.2.2.2.2.2.2.2.2.2.2.2.2.2.2.2.2.2.2.2.2.1, u1.2.2.2.2.2.2.2.2.2.2.2.2.2.2.2.2.2.2.2.2.2.1, u1.2.2.2.2.2.2.2.2.2.2.2.2.2.2.2.2.2.2.2.2.2.2.1, u1.2.2.2.2.2.2.2.2.2.2.2.2.2.2.2.2.2.2.2.2.2.2.2.1, u1.2.2.2.2.2.2.2.2.2.2.2.2.2.2.2.2.2.2.2.2.2.2.2.2.1, u1.2.2.2.2.2.2.2.2.2.2.2.2.2.2.2.2.2.2.2.2.2.2.2.2.2) else (fX5_across p1 p2).bind fun (u9 : Int32) => (fX1_hasRoom u1.2.2.2.2.2.2.2.2.1 u9).bind fun (u11 : Int32) => (if u11 = 0 then some ((-1 : Int32), u1.1, u1.2.1, u1.2.2.1, u1.2.2.2.1, u1.2.2.2.2.1, u1.2.2.2.2.2.1, u1.2.2.2.2.2.2.1, u1.2.2.2.2.2.2.2.1, u1.2.2.2.2.2.2.2.2.1, u1.2.2.2.2.2.2.2.2.2.1, u1.2.2.2.2.2.2.2.2.2.2.1, u1.2.2.2.2.2.2.2.2.2.2.2.1, u1.2.2.2.2.2.2.2.2.2.2.2.2.1, u1.2.2.2.2.2.2.2.2.2.2.2.2.2.1, u1.2.2.2.2.2.2.2.2.2.2.2.2.2.2.1, u1.2.2.2.2.2.2.2.2.2.2.2.2.2.2.2.1, u1.2.2.2.2.2.2.2.2.2.2.2.2.2.2.2.2.1, u1.2.2.2.2.2.2.2.2.2.2.2.2.2.2.2.2.2.1, u1.2.2.2.2.2.2.2.2.2.2.2.2.2.2.2.2.2.2.1, u1.2.2.2.2.2.2.2.2.2.2.2.2.2.2.2.2.2.2.2.1, u1.2.2.2.2.2.2.2.2.2.2.2.2.2.2.2.2.2.2.2.2.1, u1.2.2.2.2.2.2.2.2.2.2.2.2.2.2.2.2.2.2.2.2.2.1, u1.2.2.2.2.2.2.2.2.2.2.2.2.2.2.2.2.2.2.2.2.2.2.1, u1.2.2.2.2.2.2.2.2.2.2.2.2.2.2.2.2.2.2.2.2.2.2.2.1, u1.2.2.2.2.2.2.2.2.2.2.2.2.2.2.2.2.2.2.2.2.2.2.2.2.1, u1.2.2.2.2.2.2.2.2.2.2.2.2.2.2.2.2.2.2.2.2.2.2.2.2.2) else some (u9, u1.1, u1.2.1, u1.2.2.1, u1.2.2.2.1, u1.2.2.2.2.1, u1.2.2.2.2.2.1, u1.2.2.2.2.2.2.1, u1.2.2.2.2.2.2.2.1, u1.2.2.2.2.2.2.2.2.1, u1.2.2.2.2.2.2.2.2.2.1, u1.2.2.2.2.2.2.2.2.2.2.1, u1.2.2.2.2.2.2.2.2.2.2.2.1, u1.2.2.2.2.2.2.2.2.2.2.2.2.1, u1.2.2.2.2.2.2.2.2.2.2.2.2.2.1, u1.2.2.2.2.2.2.2.2.2.2.2.2.2.2.1, u1.2.2.2.2.2.2.2.2.2.2.2.2.2.2.2.1, u1.2.2.2.2.2.2.2.2.2.2.2.2.2.2.2.2.1, u1.2.2.2.2.2.2.2.2.2.2.2.2.2.2.2.2.2.1, u1.2.2.2.2.2.2.2.2.2.2.2.2.2.2.2.2.2.2.1, u1.2.2.2.2.2.2.2.2.2.2.2.2.2.2.2.2.2.2.2.1, u1.2.2.2.2.2.2.2.2.2.2.2.2.2.2.2.2.2.2.2.2.1, u1.2.2.2.2.2.2.2.2.2.2.2.2.2.2.2.2.2.2.2.2.2.1, u1.2.2.2.2.2.2.2.2.2.2.2.2.2.2.2.2.2.2.2.2.2.2.1, u1.2.2.2.2.2.2.2.2.2.2.2.2.2.2.2.2.2.2.2.2.2.2.2.1, u1.2.2.2.2.2.2.2.2.2.2.2.2.2.2.2.2.2.2.2.2.2.2.2.2.1, u1.2.2.2.2.2.2.2.2.2.2.2.2.2.2.2.2.2.2.2.2.2.2.2.2.2))))
def fX5_way (vnum : Int32) (vsz : Int32) (vfr : Int32) (vfo : Int32) (vli : Int32) (va : (Nat → Int32)) (vb : (Nat → Int32)) (vc : (Nat → Int32)) (ve : (Nat → Int32)) (vth : (Nat → Int32)) (vrk : (Nat → Int32)) (vcm : (Nat → Int32)) (vkx : (Nat → Int32)) (vky : (Nat → Int32)) (vkz : (Nat → Int32)) (vmk : (Nat → Int32)) (vre : (Nat → Int32)) (vro : (Nat → Int32)) (vwi : (Nat → Int32)) (vla : (Nat → Int32)) (vlb : (Nat → Int32)) (k0x : Int32) (k0y : Int32) (k0z : Int32) (k1x : Int32) (k1y : Int32) (k1z : Int32) (k2x : Int32) (k2y : Int32) (k2z : Int32) (k3x : Int32) (k3y : Int32) (k3z : Int32) (p1 : Int32) (p2 : Int32) : Option (Int32 × Int32 × Int32 × Int32 × (Nat → Int32) × (Nat → Int32) × (Nat → Int32) × (Nat → Int32) × (Nat → Int32) × (Nat → Int32) × (Nat → Int32) × (Nat → Int32) × (Nat → Int32) × (Nat → Int32) × (Nat → Int32) × Int32 × Int32 × Int32 × Int32 × Int32 × Int32 × Int32 × Int32 × Int32 × Int32 × Int32 × Int32) :=
  (fX5_freshCut vnum vsz vfr vfo vli va vb vc ve vth vrk vcm vkx vky vkz vmk vre vro vwi vla vlb k0x k0y k0z k1x k1y k1z k2x k2y k2z k3x k3y k3z).bind fun (u1 : (Int32 × Int32 × Int32 × (Nat → Int32) × (Nat → Int32) × (Nat → Int32) × (Nat → Int32) × (Nat → Int32) × (Nat → Int32) × (Nat → Int32) × (Nat → Int32) × (Nat → Int32) × (Nat → Int32) × (Nat → Int32) × Int32 × Int32 × Int32 × Int32 × Int32 × Int32 × Int32 × Int32 × Int32 × Int32 × Int32 × Int32)) => (fX1_hasRoom u1.2.2.2.2.2.2.2.2.1 p1).bind fun (u3 : Int32) => (if u3 = 0 then some ((-1 : Int32), u1.1, u1.2.1, u1.2.2.1, u1.2.2.2.1, u1.2.2.2.2.1, u1.2.2.2.2.2.1, u1.2.2.2.2.2.2.1, u1.2.2.2.2.2.2.2.1, u1.2.2.2.2.2.2.2.2.1, u1.2.2.2.2.2.2.2.2.2.1, u1.2.2.2.2.2.2.2.2.2.2.1, u1.2.2.2.2.2.2.2.2.2.2.2.1, u1.2.2.2.2.2.2.2.2.2.2.2.2.1, u1.2.2.2.2.2.2.2.2.2.2.2.2.2.1, u1.2.2.2.2.2.2.2.2.2.2.2.2.2.2.1, u1.2.2.2.2.2.2.2.2.2.2.2.2.2.2.2.1, u1.2.2.2.2.2.2.2.2.2.2.2.2.2.2.2.2.1, u1.2.2.2.2.2.2.2.2.2.2.2.2.2.2.2.2.2.1, u1.2.2.2.2.2.2.2.2.2.2.2.2.2.2.2.2.2.2.1, u1.2.2.2.2.2.2.2.2.2.2.2.2.2.2.2.2.2.2.2.1, u1.2.2.2.2.2.2.2.2.2.2.2.2.2.2.2.2.2.2.2.2.1, u1.2.2.2.2.2.2.2.2.2.2.2.2.2.2.2.2.2.2.2.2.2.1, u1.2.2.2.2.2.2.2.2.2.2.2.2.2.2.2.2.2.2.2.2.2.2.1, u1.2.2.2.2.2.2.2.2.2.2.2.2.2.2.2.2.2.2.2.2.2.2.2.1, u1.2.2.2.2.2.2.2.2.2.2.2.2.2.2.2.2.2.2.2.2.2.2.2.2.1, u1.2.2.2.2.2.2.2.2.2.2.2.2.2.2.2.2.2.2.2.2.2.2.2.2.2) else (fX1_hasRoom u1.2.2.2.2.2.2.2.2.1 p2).bind fun (u6 : Int32) => (if u6 = 0 then some ((-1 : Int32), u1.1, u1.2.1, u1.2.2.1, u1.2.2.2.1, u1.2.2.2.2.1, u1.2.2.2.2.2.1, u1.2.2.2.2.2.2.1, u1.2.2.2.2.2.2.2.1, u1.2.2.2.2.2.2.2.2.1, u1.2.2.2.2.2.2.2.2.2.1, u1.2.2.2.2.2.2.2.2.2.2.1, u1.2.2.2.2.2.2.2.2.2.2.2.1, u1.2.2.2.2.2.2.2.2.2.2.2.2.1, u1.2.2.2.2.2.2.2.2.2.2.2.2.2.1, u1.2.2.2.2.2.2.2.2.2.2.2.2.2.2.1, u1.2.2.2.2.2.2.2.2.2.2.2.2.2.2.2.1, u1.2.2.2.2.2.2.2.2.2.2.2.2.2.2.2.2.1, u1.2.2.2.2.2.2.2.2.2.2.2.2.2.2.2.2.2.1, u1.2.2.2.2.2.2.2.2.2.2.2.2.2.2.2.2.2.2.1, u1.2.2.2.2.2.2.2.2.2.2.2.2.2.2.2.2.2.2.2.1, u1.2.2.2.2.2.2.2.2.2.2.2.2.2.2.2.2.2.2.2.2.1, u1.2.2.2.2.2.2.2.2.2.2.2.2.2.2.2.2.2.2.2.2.2.1, u1.2.2.2.2.2.2.2.2.2.2.2.2.2.2.2.2.2.2.2.2.2.2.1, u1.2.2.2.2.2.2.2.2.2.2.2.2.2.2.2.2.2.2.2.2.2.2.2.1, u1.2.2.2.2.2.2.2.2.2.2.2.2.2.2.2.2.2.2.2.2.2.2.2.2.1, u1.2.2.2.2.2.2.2.2.2.2.2.2.2.2.2.2.2.2.2.2.2.2.2.2.2) else (fX5_parting p1 p2).bind fun (u9 : Int32) => (fJ6_bitCount_0f7a4 u9).bind fun (u11 : Int32) => some (u11, u1.1, u1.2.1, u1.2.2.1, u1.2.2.2.1, u1.2.2.2.2.1, u1.2.2.2.2.2.1, u1.2.2.2.2.2.2.1, u1.2.2.2.2.2.2.2.1, u1.2.2.2.2.2.2.2.2.1, u1.2.2.2.2.2.2.2.2.2.1, u1.2.2.2.2.2.2.2.2.2.2.1, u1.2.2.2.2.2.2.2.2.2.2.2.1, u1.2.2.2.2.2.2.2.2.2.2.2.2.1, u1.2.2.2.2.2.2.2.2.2.2.2.2.2.1, u1.2.2.2.2.2.2.2.2.2.2.2.2.2.2.1, u1.2.2.2.2.2.2.2.2.2.2.2.2.2.2.2.1, u1.2.2.2.2.2.2.2.2.2.2.2.2.2.2.2.2.1, u1.2.2.2.2.2.2.2.2.2.2.2.2.2.2.2.2.2.1, u1.2.2.2.2.2.2.2.2.2.2.2.2.2.2.2.2.2.2.1, u1.2.2.2.2.2.2.2.2.2.2.2.2.2.2.2.2.2.2.2.1, u1.2.2.2.2.2.2.2.2.2.2.2.2.2.2.2.2.2.2.2.2.1, u1.2.2.2.2.2.2.2.2.2.2.2.2.2.2.2.2.2.2.2.2.2.1, u1.2.2.2.2.2.2.2.2.2.2.2.2.2.2.2.2.2.2.2.2.2.2.1, u1.2.2.2.2.2.2.2.2.2.2.2.2.2.2.2.2.2.2.2.2.2.2.2.1, u1.2.2.2.2.2.2.2.2.2.2.2.2.2.2.2.2.2.2.2.2.2.2.2.2.1, u1.2.2.2.2.2.2.2.2.2.2.2.2.2.2.2.2.2.2.2.2.2.2.2.2.2)))
def fX5_step_L39 (vsz : Int32) (u9 : Int32) (u11 : Int32) (u1 : (Int32 × Int32 × Int32 × (Nat → Int32) × (Nat → Int32) × (Nat → Int32) × (Nat → Int32) × (Nat → Int32) × (Nat → Int32) × (Nat → Int32) × (Nat → Int32) × (Nat → Int32) × (Nat → Int32) × (Nat → Int32) × Int32 × Int32 × Int32 × Int32 × Int32 × Int32 × Int32 × Int32 × Int32 × Int32 × Int32 × Int32)) (v13 : Int32) : Option (Int32 ⊕ (Int32 ⊕ (Int32 × Int32 × Int32 × Int32 × (Nat → Int32) × (Nat → Int32) × (Nat → Int32) × (Nat → Int32) × (Nat → Int32) × (Nat → Int32) × (Nat → Int32) × (Nat → Int32) × (Nat → Int32) × (Nat → Int32) × (Nat → Int32) × Int32 × Int32 × Int32 × Int32 × Int32 × Int32 × Int32 × Int32 × Int32 × Int32 × Int32 × Int32))) :=
  (if vsz ≤ v13 then some (.inr (.inl v13)) else (if (((u9 &&& u11) >>> (v13 &&& 31)) &&& (1 : Int32)) = (1 : Int32) then some (.inr (.inr (v13, u1.1, u1.2.1, u1.2.2.1, u1.2.2.2.1, u1.2.2.2.2.1, u1.2.2.2.2.2.1, u1.2.2.2.2.2.2.1, u1.2.2.2.2.2.2.2.1, u1.2.2.2.2.2.2.2.2.1, u1.2.2.2.2.2.2.2.2.2.1, u1.2.2.2.2.2.2.2.2.2.2.1, u1.2.2.2.2.2.2.2.2.2.2.2.1, u1.2.2.2.2.2.2.2.2.2.2.2.2.1, u1.2.2.2.2.2.2.2.2.2.2.2.2.2.1, u1.2.2.2.2.2.2.2.2.2.2.2.2.2.2.1, u1.2.2.2.2.2.2.2.2.2.2.2.2.2.2.2.1, u1.2.2.2.2.2.2.2.2.2.2.2.2.2.2.2.2.1, u1.2.2.2.2.2.2.2.2.2.2.2.2.2.2.2.2.2.1, u1.2.2.2.2.2.2.2.2.2.2.2.2.2.2.2.2.2.2.1, u1.2.2.2.2.2.2.2.2.2.2.2.2.2.2.2.2.2.2.2.1, u1.2.2.2.2.2.2.2.2.2.2.2.2.2.2.2.2.2.2.2.2.1, u1.2.2.2.2.2.2.2.2.2.2.2.2.2.2.2.2.2.2.2.2.2.1, u1.2.2.2.2.2.2.2.2.2.2.2.2.2.2.2.2.2.2.2.2.2.2.1, u1.2.2.2.2.2.2.2.2.2.2.2.2.2.2.2.2.2.2.2.2.2.2.2.1, u1.2.2.2.2.2.2.2.2.2.2.2.2.2.2.2.2.2.2.2.2.2.2.2.2.1, u1.2.2.2.2.2.2.2.2.2.2.2.2.2.2.2.2.2.2.2.2.2.2.2.2.2))) else some (.inl (v13 + (1 : Int32)))))
def fX5_step (vnum : Int32) (vsz : Int32) (vfr : Int32) (vfo : Int32) (vli : Int32) (va : (Nat → Int32)) (vb : (Nat → Int32)) (vc : (Nat → Int32)) (ve : (Nat → Int32)) (vth : (Nat → Int32)) (vrk : (Nat → Int32)) (vcm : (Nat → Int32)) (vkx : (Nat → Int32)) (vky : (Nat → Int32)) (vkz : (Nat → Int32)) (vmk : (Nat → Int32)) (vre : (Nat → Int32)) (vro : (Nat → Int32)) (vwi : (Nat → Int32)) (vla : (Nat → Int32)) (vlb : (Nat → Int32)) (k0x : Int32) (k0y : Int32) (k0z : Int32) (k1x : Int32) (k1y : Int32) (k1z : Int32) (k2x : Int32) (k2y : Int32) (k2z : Int32) (k3x : Int32) (k3y : Int32) (k3z : Int32) (p1 : Int32) (p2 : Int32) : Option (Int32 × Int32 × Int32 × Int32 × (Nat → Int32) × (Nat → Int32) × (Nat → Int32) × (Nat → Int32) × (Nat → Int32) × (Nat → Int32) × (Nat → Int32) × (Nat → Int32) × (Nat → Int32) × (Nat → Int32) × (Nat → Int32) × Int32 × Int32 × Int32 × Int32 × Int32 × Int32 × Int32 × Int32 × Int32 × Int32 × Int32 × Int32) :=
  (fX5_freshCut vnum vsz vfr vfo vli va vb vc ve vth vrk vcm vkx vky vkz vmk vre vro vwi vla vlb k0x k0y k0z k1x k1y k1z k2x k2y k2z k3x k3y k3z).bind fun (u1 : (Int32 × Int32 × Int32 × (Nat → Int32) × (Nat → Int32) × (Nat → Int32) × (Nat → Int32) × (Nat → Int32) × (Nat → Int32) × (Nat → Int32) × (Nat → Int32) × (Nat → Int32) × (Nat → Int32) × (Nat → Int32) × Int32 × Int32 × Int32 × Int32 × Int32 × Int32 × Int32 × Int32 × Int32 × Int32 × Int32 × Int32)) => (fX1_hasRoom u1.2.2.2.2.2.2.2.2.1 p1).bind fun (u3 : Int32) => (if u3 = 0 then some ((-1 : Int32), u1.1, u1.2.1, u1.2.2.1, u1.2.2.2.1, u1.2.2.2.2.1, u1.2.2.2.2.2.1, u1.2.2.2.2.2.2.1, u1.2.2.2.2.2.2.2.1, u1.2.2.2.2.2.2.2.2.1, u1.2.2.2.2.2.2.2.2.2.1, u1.2.2.2.2.2.2.2.2.2.2.1, u1.2.2.2.2.2.2.2.2.2.2.2.1, u1.2.2.2.2.2.2.2.2.2.2.2.2.1, u1.2.2.2.2.2.2.2.2.2.2.2.2.2.1, u1.2.2.2.2.2.2.2.2.2.2.2.2.2.2.1, u1.2.2.2.2.2.2.2.2.2.2.2.2.2.2.2.1, u1.2.2.2.2.2.2.2.2.2.2.2.2.2.2.2.2.1, u1.2.2.2.2.2.2.2.2.2.2.2.2.2.2.2.2.2.1, u1.2.2.2.2.2.2.2.2.2.2.2.2.2.2.2.2.2.2.1, u1.2.2.2.2.2.2.2.2.2.2.2.2.2.2.2.2.2.2.2.1, u1.2.2.2.2.2.2.2.2.2.2.2.2.2.2.2.2.2.2.2.2.1, u1.2.2.2.2.2.2.2.2.2.2.2.2.2.2.2.2.2.2.2.2.2.1, u1.2.2.2.2.2.2.2.2.2.2.2.2.2.2.2.2.2.2.2.2.2.2.1, u1.2.2.2.2.2.2.2.2.2.2.2.2.2.2.2.2.2.2.2.2.2.2.2.1, u1.2.2.2.2.2.2.2.2.2.2.2.2.2.2.2.2.2.2.2.2.2.2.2.2.1, u1.2.2.2.2.2.2.2.2.2.2.2.2.2.2.2.2.2.2.2.2.2.2.2.2.2) else (fX1_hasRoom u1.2.2.2.2.2.2.2.2.1 p2).bind fun (u6 : Int32) => (if u6 = 0 then some ((-1 : Int32), u1.1, u1.2.1, u1.2.2.1, u1.2.2.2.1, u1.2.2.2.2.1, u1.2.2.2.2.2.1, u1.2.2.2.2.2.2.1, u1.2.2.2.2.2.2.2.1, u1.2.2.2.2.2.2.2.2.1, u1.2.2.2.2.2.2.2.2.2.1, u1.2.2.2.2.2.2.2.2.2.2.1, u1.2.2.2.2.2.2.2.2.2.2.2.1, u1.2.2.2.2.2.2.2.2.2.2.2.2.1, u1.2.2.2.2.2.2.2.2.2.2.2.2.2.1, u1.2.2.2.2.2.2.2.2.2.2.2.2.2.2.1, u1.2.2.2.2.2.2.2.2.2.2.2.2.2.2.2.1, u1.2.2.2.2.2.2.2.2.2.2.2.2.2.2.2.2.1, u1.2.2.2.2.2.2.2.2.2.2.2.2.2.2.2.2.2.1, u1.2.2.2.2.2.2.2.2.2.2.2.2.2.2.2.2.2.2.1, u1.2.2.2.2.2.2.2.2.2.2.2.2.2.2.2.2.2.2.2.1, u1.2.2.2.2.2.2.2.2.2.2.2.2.2.2.2.2.2.2.2.2.1, u1.2.2.2.2.2.2.2.2.2.2.2.2.2.2.2.2.2.2.2.2.2.1, u1.2.2.2.2.2.2.2.2.2.2.2.2.2.2.2.2.2.2.2.2.2.2.1, u1.2.2.2.2.2.2.2.2.2.2.2.2.2.2.2.2.2.2.2.2.2.2.2.1, u1.2.2.2.2.2.2.2.2.2.2.2.2.2.2.2.2.2.2.2.2.2.2.2.2.1, u1.2.2.2.2.2.2.2.2.2.2.2.2.2.2.2.2.2.2.2.2.2.2.2.2.2) else (fX5_parting p1 p2).bind fun (u9 : Int32) => (fX1_wallsOf vsz u1.2.2.2.2.2.2.2.2.1 p1).bind fun (u11 : Int32) => (lp_ (fun (st : Int32) => fX5_step_L39 vsz u9 u11 u1 st) fu_ (0 : Int32)).bind fun (u14 : (Int32 ⊕ (Int32 × Int32 × Int32 × Int32 × (Nat → Int32) × (Nat → Int32) × (Nat → Int32) × (Nat → Int32) × (Nat → Int32) × (Nat → Int32) × (Nat → Int32) × (Nat → Int32) × (Nat → Int32) × (Nat → Int32) × (Nat → Int32) × Int32 × Int32 × Int32 × Int32 × Int32 × Int32 × Int32 × Int32 × Int32 × Int32 × Int32 × Int32))) => Sum.elim (fun (x18 : Int32) => some ((-1 : Int32), u1.1, u1.2.1, u1.2.2.1, u1.2.2.2.1, u1.2.2.2.2.1, u1.2.2.2.2.2.1, u1.2.2.2.2.2.2.1, u1.2.2.2.2.2.2.2.1, u1.2.2.2.2.2.2.2.2.1, u1.2.2.2.2.2.2.2.2.2.1, u1.2.2.2.2.2.2.2.2.2.2.1, u1.2.2.2.2.2.2.2.2.2.2.2.1, u1.2.2.2.2.2.2.2.2.2.2.2.2.1, u1.2.2.2.2.2.2.2.2.2.2.2.2.2.1, u1.2.2.2.2.2.2.2.2.2.2.2.2.2.2.1, u1.2.2.2.2.2.2.2.2.2.2.2.2.2.2.2.1, u1.2.2.2.2.2.2.2.2.2.2.2.2.2.2.2.2.1, u1.2.2.2.2.2.2.2.2.2.2.2.2.2.2.2.2.2.1, u1.2.2.2.2.2.2.2.2.2.2.2.2.2.2.2.2.2.2.1, u1.2.2.2.2.2.2.2.2.2.2.2.2.2.2.2.2.2.2.2.1, u1.2.2.2.2.2.2.2.2.2.2.2.2.2.2.2.2.2.2.2.2.1, u1.2.2.2.2.2.2.2.2.2.2.2.2.2.2.2.2.2.2.2.2.2.1, u1.2.2.2.2.2.2.2.2.2.2.2.2.2.2.2.2.2.2.2.2.2.2.1, u1.2.2.2.2.2.2.2.2.2.2.2.2.2.2.2.2.2.2.2.2.2.2.2.1, u1.2.2.2.2.2.2.2.2.2.2.2.2.2.2.2.2.2.2.2.2.2.2.2.2.1, u1.2.2.2.2.2.2.2.2.2.2.2.2.2.2.2.2.2.2.2.2.2.2.2.2.2)) (fun y => some y) u14))
def fX5_far (vsz : Int32) : Option Int32 :=
  some vsz
def fX5_left (vnum : Int32) (vsz : Int32) (va : (Nat → Int32)) (vb : (Nat → Int32)) (vc : (Nat → Int32)) (ve : (Nat → Int32)) (vtu : (Nat → Int32)) (p1 : Int32) : Option (Int32 × (Nat → Int32)) :=
  (fX5_isPrime p1).bind fun (u1 : Int32) => (if u1 = 0 then some ((-1 : Int32), vtu) else (fX4_countMissed vnum vsz va vb vc ve vtu p1).bind fun (u4 : (Int32 × (Nat → Int32))) => some (u4.1, u4.2))
def fX5_count (vnum : Int32) (vsz : Int32) (vfr : Int32) (vfo : Int32) (vli : Int32) (va : (Nat → Int32)) (vb : (Nat → Int32)) (vc : (Nat → Int32)) (ve : (Nat → Int32)) (vth : (Nat → Int32)) (vrk : (Nat → Int32)) (vcm : (Nat → Int32)) (vkx : (Nat → Int32)) (vky : (Nat → Int32)) (vkz : (Nat → Int32)) (vmk : (Nat → Int32)) (vre : (Nat → Int32)) (vro : (Nat → Int32)) (vwi : (Nat → Int32)) (vla : (Nat → Int32)) (vlb : (Nat → Int32)) (k0x : Int32) (k0y : Int32) (k0z : Int32) (k1x : Int32) (k1y : Int32) (k1z : Int32) (k2x : Int32) (k2y : Int32) (k2z : Int32) (k3x : Int32) (k3y : Int32) (k3z : Int32) (p1 : Int32) : Option (Int32 × Int32 × Int32 × Int32 × (Nat → Int32) × (Nat → Int32) × (Nat → Int32) × (Nat → Int32) × (Nat → Int32) × (Nat → Int32) × (Nat → Int32) × (Nat → Int32) × (Nat → Int32) × (Nat → Int32) × (Nat → Int32) × Int32 × Int32 × Int32 × Int32 × Int32 × Int32 × Int32 × Int32 × Int32 × Int32 × Int32 × Int32) :=
  (if p1 = (0 : Int32) then some (vnum, vfr, vfo, vli, vrk, vcm, vkx, vky, vkz, vmk, vre, vro, vwi, vla, vlb, k0x, k0y, k0z, k1x, k1y, k1z, k2x, k2y, k2z, k3x, k3y, k3z) else (if p1 = (1 : Int32) then some (vsz, vfr, vfo, vli, vrk, vcm, vkx, vky, vkz, vmk, vre, vro, vwi, vla, vlb, k0x, k0y, k0z, k1x, k1y, k1z, k2x, k2y, k2z, k3x, k3y, k3z) else (if p1 = (2 : Int32) then (fX5_freshCut vnum vsz vfr vfo vli va vb vc ve vth vrk vcm vkx vky vkz vmk vre vro vwi vla vlb k0x k0y k0z k1x k1y k1z k2x k2y k2z k3x k3y k3z).bind fun (u4 : (Int32 × Int32 × Int32 × (Nat → Int32) × (Nat → Int32) × (Nat → Int32) × (Nat → Int32) × (Nat → Int32) × (Nat → Int32) × (Nat → Int32) × (Nat → Int32) × (Nat → Int32) × (Nat → Int32) × (Nat → Int32) × Int32 × Int32 × Int32 × Int32 × Int32 × Int32 × Int32 × Int32 × Int32 × Int32 × Int32 × Int32)) => (fX1_countOfWidth u4.2.1 u4.2.2.2.2.2.2.2.2.2.2.2.1 vnum).bind fun (u6 : Int32) => some (u6, u4.1, u4.2.1, u4.2.2.1, u4.2.2.2.1, u4.2.2.2.2.1, u4.2.2.2.2.2.1, u4.2.2.2.2.2.2.1, u4.2.2.2.2.2.2.2.1, u4.2.2.2.2.2.2.2.2.1, u4.2.2.2.2.2.2.2.2.2.1, u4.2.2.2.2.2.2.2.2.2.2.1, u4.2.2.2.2.2.2.2.2.2.2.2.1, u4.2.2.2.2.2.2.2.2.2.2.2.2.1, u4.2.2.2.2.2.2.2.2.2.2.2.2.2.1, u4.2.2.2.2.2.2.2.2.2.2.2.2.2.2.1, u4.2.2.2.2.2.2.2.2.2.2.2.2.2.2.2.1, u4.2.2.2.2.2.2.2.2.2.2.2.2.2.2.2.2.1, u4.2.2.2.2.2.2.2.2.2.2.2.2.2.2.2.2.2.1, u4.2.2.2.2.2.2.2.2.2.2.2.2.2.2.2.2.2.2.1, u4.2.2.2.2.2.2.2.2.2.2.2.2.2.2.2.2.2.2.2.1, u4.2.2.2.2.2.2.2.2.2.2.2.2.2.2.2.2.2.2.2.2.1, u4.2.2.2.2.2.2.2.2.2.2.2.2.2.2.2.2.2.2.2.2.2.1, u4.2.2.2.2.2.2.2.2.2.2.2.2.2.2.2.2.2.2.2.2.2.2.1, u4.2.2.2.2.2.2.2.2.2.2.2.2.2.2.2.2.2.2.2.2.2.2.2.1, u4.2.2.2.2.2.2.2.2.2.2.2.2.2.2.2.2.2.2.2.2.2.2.2.2.1, u4.2.2.2.2.2.2.2.2.2.2.2.2.2.2.2.2.2.2.2.2.2.2.2.2.2) else (if p1 = (3 : Int32) then (fX5_freshCut vnum vsz vfr vfo vli va vb vc ve vth vrk vcm vkx vky vkz vmk vre vro vwi vla vlb k0x k0y k0z k1x k1y k1z k2x k2y k2z k3x k3y k3z).bind fun (u9 : (Int32 × Int32 × Int32 × (Nat → Int32) × (Nat → Int32) × (Nat → Int32) × (Nat → Int32) × (Nat → Int32) × (Nat → Int32) × (Nat → Int32) × (Nat → Int32) × (Nat → Int32) × (Nat → Int32) × (Nat → Int32) × Int32 × Int32 × Int32 × Int32 × Int32 × Int32 × Int32 × Int32 × Int32 × Int32 × Int32 × Int32)) => some (u9.2.1, u9.1, u9.2.1, u9.2.2.1, u9.2.2.2.1, u9.2.2.2.2.1, u9.2.2.2.2.2.1, u9.2.2.2.2.2.2.1, u9.2.2.2.2.2.2.2.1, u9.2.2.2.2.2.2.2.2.1, u9.2.2.2.2.2.2.2.2.2.1, u9.2.2.2.2.2.2.2.2.2.2.1, u9.2.2.2.2.2.2.2.2.2.2.2.1, u9.2.2.2.2.2.2.2.2.2.2.2.2.1, u9.2.2.2.2.2.2.2.2.2.2.2.2.2.1, u9.2.2.2.2.2.2.2.2.2.2.2.2.2.2.1, u9.2.2.2.2.2.2.2.2.2.2.2.2.2.2.2.1, u9.2.2.2.2.2.2.2.2.2.2.2.2.2.2.2.2.1, u9.2.2.2.2.2.2.2.2.2.2.2.2.2.2.2.2.2.1, u9.2.2.2.2.2.2.2.2.2.2.2.2.2.2.2.2.2.2.1, u9.2.2.2.2.2.2.2.2.2.2.2.2.2.2.2.2.2.2.2.1, u9.2.2.2.2.2.2.2.2.2.2.2.2.2.2.2.2.2.2.2.2.1, u9.2.2.2.2.2.2.2.2.2.2.2.2.2.2.2.2.2.2.2.2.2.1, u9.2.2.2.2.2.2.2.2.2.2.2.2.2.2.2.2.2.2.2.2.2.2.1, u9.2.2.2.2.2.2.2.2.2.2.2.2.2.2.2.2.2.2.2.2.2.2.2.1, u9.2.2.2.2.2.2.2.2.2.2.2.2.2.2.2.2.2.2.2.2.2.2.2.2.1, u9.2.2.2.2.2.2.2.2.2.2.2.2.2.2.2.2.2.2.2.2.2.2.2.2.2) else (if p1 = (4 : Int32) then (fX5_freshCut vnum vsz vfr vfo vli va vb vc ve vth vrk vcm vkx vky vkz vmk vre vro vwi vla vlb k0x k0y k0z k1x k1y k1z k2x k2y k2z k3x k3y k3z).bind fun (u12 : (Int32 × Int32 × Int32 × (Nat → Int32) × (Nat → Int32) × (Nat → Int32) × (Nat → Int32) × (Nat → Int32) × (Nat → Int32) × (Nat → Int32) × (Nat → Int32) × (Nat → Int32) × (Nat → Int32) × (Nat → Int32) × Int32 × Int32 × Int32 × Int32 × Int32 × Int32 × Int32 × Int32 × Int32 × Int32 × Int32 × Int32)) => (fX2_rankOfAll vsz u12.2.2.2.1).bind fun (u14 : Int32) => some (u14, u12.1, u12.2.1, u12.2.2.1, u12.2.2.2.1, u12.2.2.2.2.1, u12.2.2.2.2.2.1, u12.2.2.2.2.2.2.1, u12.2.2.2.2.2.2.2.1, u12.2.2.2.2.2.2.2.2.1, u12.2.2.2.2.2.2.2.2.2.1, u12.2.2.2.2.2.2.2.2.2.2.1, u12.2.2.2.2.2.2.2.2.2.2.2.1, u12.2.2.2.2.2.2.2.2.2.2.2.2.1, u12.2.2.2.2.2.2.2.2.2.2.2.2.2.1, u12.2.2.2.2.2.2.2.2.2.2.2.2.2.2.1, u12.2.2.2.2.2.2.2.2.2.2.2.2.2.2.2.1, u12.2.2.2.2.2.2.2.2.2.2.2.2.2.2.2.2.1, u12.2.2.2.2.2.2.2.2.2.2.2.2.2.2.2.2.2.1, u12.2.2.2.2.2.2.2.2.2.2.2.2.2.2.2.2.2.2.1, u12.2.2.2.2.2.2.2.2.2.2.2.2.2.2.2.2.2.2.2.1, u12.2.2.2.2.2.2.2.2.2.2.2.2.2.2.2.2.2.2.2.2.1, u12.2.2.2.2.2.2.2.2.2.2.2.2.2.2.2.2.2.2.2.2.2.1, u12.2.2.2.2.2.2.2.2.2.2.2.2.2.2.2.2.2.2.2.2.2.2.1, u12.2.2.2.2.2.2.2.2.2.2.2.2.2.2.2.2.2.2.2.2.2.2.2.1, u12.2.2.2.2.2.2.2.2.2.2.2.2.2.2.2.2.2.2.2.2.2.2.2.2.1, u12.2.2.2.2.2.2.2.2.2.2.2.2.2.2.2.2.2.2.2.2.2.2.2.2.2) else some ((-1 : Int32), vfr, vfo, vli, vrk, vcm, vkx, vky, vkz, vmk, vre, vro, vwi, vla, vlb, k0x, k0y, k0z, k1x, k1y, k1z, k2x, k2y, k2z, k3x, k3y, k3z))))))
def fX6_at (wwl : (Nat → Int32)) (p1 : Int32) (p2 : Int32) : Option Int32 :=
  ck_ (in_R (((4 : Int32) * p1) + p2) 32) (some (wwl (((4 : Int32) * p1) + p2).toNatClampNeg))
def fX6_take_L20 (wmn : Int32) (v4 : Int32) (v5 : (Nat → Int32)) : Option ((Int32 × (Nat → Int32)) ⊕ (Int32 × (Nat → Int32))) :=
  (if ((4 : Int32) * wmn) ≤ (v4 + (4 : Int32)) then some (.inr (v4, v5)) else ck_ (in_R (v4 + (4 : Int32)) 32) (ck_ (in_R v4 32) (some (.inl ((v4 + (1 : Int32)), (upd v5 v4.toNatClampNeg (v5 (v4 + (4 : Int32)).toNatClampNeg)))))))
def fX6_take (wmn : Int32) (wod : Int32) (wwl : (Nat → Int32)) (p1 : Int32) : Option (Int32 × Int32 × Int32 × (Nat → Int32)) :=
  (fX6_in p1 (0 : Int32) (wmn - (1 : Int32))).bind fun (u1 : Int32) => (if u1 = 0 then some ((0 : Int32), wmn, wod, wwl) else (lp_ (fun (st : (Int32 × (Nat → Int32))) => fX6_take_L20 wmn st.1 st.2) fu_ (((4 : Int32) * p1), wwl)).bind fun (u6 : (Int32 × (Nat → Int32))) => some ((1 : Int32), (wmn - (1 : Int32)), (1 : Int32), u6.2))
def fX6_told (wmn : Int32) (wwl : (Nat → Int32)) (p1 : Int32) (p2 : Int32) : Option Int32 :=
  (fX6_in p1 (0 : Int32) (wmn - (1 : Int32))).bind fun (u1 : Int32) => (if u1 = 0 then some (-1 : Int32) else (fX6_in p2 (0 : Int32) (3 : Int32)).bind fun (u4 : Int32) => (if u4 = 0 then some (-1 : Int32) else (fX6_at wwl p1 p2).bind fun (u7 : Int32) => some u7))
def fX6_begins  : Option Int32 :=
  some (0 : Int32)
def fX6_adds_L2 (p2 : Int32) (wwl : (Nat → Int32)) (p1 : Int32) (wsm : Int32) (v1 : Int32) (v2 : (Nat → Int64)) : Option ((Int32 × (Nat → Int64)) ⊕ (Int32 × (Nat → Int64))) :=
  (if (4 : Int32) ≤ v1 then some (.inr (v1, v2)) else (if p2 = (2 : Int32) then (fX6_at wwl p1 v1).bind fun (u18 : Int32) => ck_ (in_R (((4 : Int32) * wsm) + v1) 4400) (some (.inl ((v1 + (1 : Int32)), (vp_updL v2 (((4 : Int32) * wsm) + v1).toNatClampNeg (-u18).toInt64)))) else (fX6_at wwl p1 v1).bind fun (u15 : Int32) => ck_ (in_R (((4 : Int32) * wsm) + v1) 4400) (some (.inl ((v1 + (1 : Int32)), (vp_updL v2 (((4 : Int32) * wsm) + v1).toNatClampNeg u15.toInt64))))))
def fX6_adds (wsm : Int32) (wwl : (Nat → Int32)) (wev : (Nat → Int32)) (wsu : (Nat → Int64)) (p1 : Int32) (p2 : Int32) : Option (Int32 × (Nat → Int32) × (Nat → Int64)) :=
  (lp_ (fun (st : (Int32 × (Nat → Int64))) => fX6_adds_L2 p2 wwl p1 wsm st.1 st.2) fu_ ((0 : Int32), wsu)).bind fun (u3 : (Int32 × (Nat → Int64))) => (if p2 = (1 : Int32) then ck_ (in_R wsm 1100) (some ((wsm + (1 : Int32)), (upd wev wsm.toNatClampNeg (vp_nar .boolean (1 : Int32))), u3.2)) else ck_ (in_R wsm 1100) (some ((wsm + (1 : Int32)), (upd wev wsm.toNatClampNeg (vp_nar .boolean (0 : Int32))), u3.2)))
def fX6_puts_L3 (p1 : Int32) (p3 : Int32) (wnm : Int32) (wsu : (Nat → Int64)) (p2 : Int64) (p4 : Int64) (v1 : Int32) (v2 : (Nat → Int64)) : Option ((Int32 × (Nat → Int64)) ⊕ (Int32 × (Nat → Int64))) :=
  (if (4 : Int32) ≤ v1 then some (.inr (v1, v2)) else ck_ (in_R (((4 : Int32) * p1) + v1) 4400) (ck_ (in_R (((4 : Int32) * p3) + v1) 4400) (ck_ (in_R (((4 : Int32) * wnm) + v1) 4400) (some (.inl ((v1 + (1 : Int32)), (vp_updL v2 (((4 : Int32) * wnm) + v1).toNatClampNeg (((wsu (((4 : Int32) * p1) + v1).toNatClampNeg) * p2) + ((wsu (((4 : Int32) * p3) + v1).toNatClampNeg) * p4)))))))))
def fX6_puts (wnm : Int32) (wne : (Nat → Int32)) (wsu : (Nat → Int64)) (wnx : (Nat → Int64)) (p1 : Int32) (p2 : Int64) (p3 : Int32) (p4 : Int64) (p5 : Int32) : Option (Int32 × (Nat → Int32) × (Nat → Int64)) :=
  (lp_ (fun (st : (Int32 × (Nat → Int64))) => fX6_puts_L3 p1 p3 wnm wsu p2 p4 st.1 st.2) fu_ ((0 : Int32), wnx)).bind fun (u3 : (Int32 × (Nat → Int64))) => ck_ (in_R wnm 1100) (some ((wnm + (1 : Int32)), (upd wne wnm.toNatClampNeg (vp_nar .boolean p5)), u3.2))
def fX6_takesOut_L261 (u11 : (Int32 × Int32 × (Nat → Int32) × (Nat → Int64))) (v21 : Int32) (v22 : (Nat → Int32)) : Option ((Int32 × (Nat → Int32)) ⊕ (Int32 × (Nat → Int32))) :=
  (if u11.2.1 ≤ v21 then some (.inr (v21, v22)) else ck_ (in_R v21 1100) (ck_ (in_R v21 1100) (some (.inl ((v21 + (1 : Int32)), (upd v22 v21.toNatClampNeg (vp_nar .boolean (u11.2.2.1 v21.toNatClampNeg))))))))
def fX6_takesOut_L231 (u11 : (Int32 × Int32 × (Nat → Int32) × (Nat → Int64))) (v15 : Int32) (v16 : (Nat → Int64)) : Option ((Int32 × (Nat → Int64)) ⊕ (Int32 × (Nat → Int64))) :=
  (if ((4 : Int32) * u11.2.1) ≤ v15 then some (.inr (v15, v16)) else ck_ (in_R v15 4400) (ck_ (in_R v15 4400) (some (.inl ((v15 + (1 : Int32)), (vp_updL v16 v15.toNatClampNeg (u11.2.2.2 v15.toNatClampNeg)))))))
def fX6_takesOut_L163 (wsm : Int32) (wsu : (Nat → Int64)) (v7 : Int32) (p1 : Int32) (v47 : Int32) (v48 : Int32) (v49 : (Nat → Int32)) (v50 : (Nat → Int64)) : Option ((Int32 × Int32 × (Nat → Int32) × (Nat → Int64)) ⊕ (Int32 × Int32 × (Nat → Int32) × (Nat → Int64))) :=
  (if wsm ≤ v47 then some (.inr (v47, v48, v49, v50)) else (if (lg_cmp (wsu (((4 : Int32) * v7) + p1).toNatClampNeg) (0 : Int64)) ≤ 0 then some (.inr (v47, v48, v49, v50)) else ck_ (in_R (((4 : Int32) * v47) + p1) 4400) ((if 0 ≤ (lg_cmp (wsu (((4 : Int32) * v47) + p1).toNatClampNeg) (0 : Int64)) then some (.inl ((v47 + (1 : Int32)), v48, v49, v50)) else ck_ (in_R (((4 : Int32) * v47) + p1) 4400) ((fX6_puts v48 v49 wsu v50 v7 (-(wsu (((4 : Int32) * v47) + p1).toNatClampNeg)) v47 (wsu (((4 : Int32) * v7) + p1).toNatClampNeg) (0 : Int32)).bind fun (u63 : (Int32 × (Nat → Int32) × (Nat → Int64))) => some (.inl ((v47 + (1 : Int32)), u63.1, u63.2.1, u63.2.2)))))))
def fX6_takesOut_L56 (wsm : Int32) (p1 : Int32) (u3 : (Int32 × Int32)) (wsu : (Nat → Int64)) (wev : (Nat → Int32)) (v7 : Int32) (v8 : Int32) (v9 : (Nat → Int32)) (v10 : (Nat → Int64)) : Option ((Int32 × Int32 × (Nat → Int32) × (Nat → Int64)) ⊕ (Int32 × Int32 × (Nat → Int32) × (Nat → Int64))) :=
  (if wsm ≤ v7 then some (.inr (v7, v8, v9, v10)) else ck_ (in_R (((4 : Int32) * v7) + p1) 4400) ((if v7 = u3.2 then some (.inl ((v7 + (1 : Int32)), v8, v9, v10)) else (if (lg_cmp (wsu (((4 : Int32) * v7) + p1).toNatClampNeg) (0 : Int64)) = 0 then ck_ (in_R v7 1100) ((fX6_puts v8 v9 wsu v10 v7 (1 : Int64) v7 (0 : Int64) (wev v7.toNatClampNeg)).bind fun (u76 : (Int32 × (Nat → Int32) × (Nat → Int64))) => some (.inl ((v7 + (1 : Int32)), u76.1, u76.2.1, u76.2.2))) else (if u3.2 = (-1 : Int32) then (lp_ (fun (st : (Int32 × Int32 × (Nat → Int32) × (Nat → Int64))) => fX6_takesOut_L163 wsm wsu v7 p1 st.1 st.2.1 st.2.2.1 st.2.2.2) fu_ ((0 : Int32), v8, v9, v10)).bind fun (u51 : (Int32 × Int32 × (Nat → Int32) × (Nat → Int64))) => some (.inl ((v7 + (1 : Int32)), u51.2.1, u51.2.2.1, u51.2.2.2)) else ck_ (in_R (((4 : Int32) * u3.2) + p1) 4400) ((fX6_size (wsu (((4 : Int32) * u3.2) + p1).toNatClampNeg)).bind fun (u66 : Int64) => ((if (lg_cmp (wsu (((4 : Int32) * u3.2) + p1).toNatClampNeg) (0 : Int64)) ≤ 0 then some (wsu (((4 : Int32) * v7) + p1).toNatClampNeg) else some (-(wsu (((4 : Int32) * v7) + p1).toNatClampNeg)))).bind fun (u68 : Int64) => ck_ (in_R v7 1100) ((fX6_puts v8 v9 wsu v10 v7 u66 u3.2 u68 (wev v7.toNatClampNeg)).bind fun (u72 : (Int32 × (Nat → Int32) × (Nat → Int64))) => some (.inl ((v7 + (1 : Int32)), u72.1, u72.2.1, u72.2.2)))))))))
def fX6_takesOut_L4 (wsm : Int32) (wev : (Nat → Int32)) (p1 : Int32) (wsu : (Nat → Int64)) (v1 : Int32) (v2 : Int32) : Option ((Int32 × Int32) ⊕ (Int32 × Int32)) :=
  (if wsm ≤ v1 then some (.inr (v1, v2)) else (if v2 = (-1 : Int32) then ck_ (in_R v1 1100) ((if (wev v1.toNatClampNeg) = 0 then some (.inl ((v1 + (1 : Int32)), v2)) else ck_ (in_R (((4 : Int32) * v1) + p1) 4400) ((if (lg_cmp (wsu (((4 : Int32) * v1) + p1).toNatClampNeg) (0 : Int64)) = 0 then some (.inl ((v1 + (1 : Int32)), v2)) else some (.inl ((v1 + (1 : Int32)), v1)))))) else some (.inr (v1, v2))))
def fX6_takesOut (wsm : Int32) (wev : (Nat → Int32)) (wne : (Nat → Int32)) (wsu : (Nat → Int64)) (wnx : (Nat → Int64)) (p1 : Int32) : Option (Int32 × Int32 × (Nat → Int32) × (Nat → Int32) × (Nat → Int64) × (Nat → Int64)) :=
  (lp_ (fun (st : (Int32 × Int32)) => fX6_takesOut_L4 wsm wev p1 wsu st.1 st.2) fu_ ((0 : Int32), (-1 : Int32))).bind fun (u3 : (Int32 × Int32)) => (lp_ (fun (st : (Int32 × Int32 × (Nat → Int32) × (Nat → Int64))) => fX6_takesOut_L56 wsm p1 u3 wsu wev st.1 st.2.1 st.2.2.1 st.2.2.2) fu_ ((0 : Int32), (0 : Int32), wne, wnx)).bind fun (u11 : (Int32 × Int32 × (Nat → Int32) × (Nat → Int64))) => (lp_ (fun (st : (Int32 × (Nat → Int64))) => fX6_takesOut_L231 u11 st.1 st.2) fu_ ((0 : Int32), wsu)).bind fun (u17 : (Int32 × (Nat → Int64))) => (lp_ (fun (st : (Int32 × (Nat → Int32))) => fX6_takesOut_L261 u11 st.1 st.2) fu_ ((0 : Int32), wev)).bind fun (u23 : (Int32 × (Nat → Int32))) => some (u11.2.1, u11.2.1, u23.2, u11.2.2.1, u17.2, u11.2.2.2)
def fX6_isThere_L50 (u18 : (Int32 × Int32 × Int32 × (Nat → Int32) × (Nat → Int32) × (Nat → Int64) × (Nat → Int64))) (v22 : Int32) : Option (Int32 ⊕ (Int32 ⊕ (Int32 × Int32 × Int32 × (Nat → Int32) × (Nat → Int32) × (Nat → Int64) × (Nat → Int64)))) :=
  (if u18.2.1 ≤ v22 then some (.inr (.inl v22)) else ck_ (in_R (((4 : Int32) * v22) + (3 : Int32)) 4400) (ck_ (in_R v22 1100) ((if (u18.2.2.2.1 v22.toNatClampNeg) = 0 then (if 0 < (lg_cmp (u18.2.2.2.2.2.1 (((4 : Int32) * v22) + (3 : Int32)).toNatClampNeg) (0 : Int64)) then some (.inl (v22 + (1 : Int32))) else some (.inr (.inr ((0 : Int32), u18.2.1, u18.2.2.1, u18.2.2.2.1, u18.2.2.2.2.1, u18.2.2.2.2.2.1, u18.2.2.2.2.2.2)))) else (if (lg_cmp (u18.2.2.2.2.2.1 (((4 : Int32) * v22) + (3 : Int32)).toNatClampNeg) (0 : Int64)) = 0 then some (.inl (v22 + (1 : Int32))) else some (.inr (.inr ((0 : Int32), u18.2.1, u18.2.2.1, u18.2.2.2.1, u18.2.2.2.2.1, u18.2.2.2.2.2.1, u18.2.2.2.2.2.2))))))))
def fX6_isThere_L29 (wwd : Int32) (v11 : Int32) (v12 : Int32) (v13 : Int32) (v14 : (Nat → Int32)) (v15 : (Nat → Int32)) (v16 : (Nat → Int64)) (v17 : (Nat → Int64)) : Option ((Int32 × Int32 × Int32 × (Nat → Int32) × (Nat → Int32) × (Nat → Int64) × (Nat → Int64)) ⊕ (Int32 × Int32 × Int32 × (Nat → Int32) × (Nat → Int32) × (Nat → Int64) × (Nat → Int64))) :=
  (if wwd ≤ v11 then some (.inr (v11, v12, v13, v14, v15, v16, v17)) else (fX6_takesOut v12 v14 v15 v16 v17 v11).bind fun (u42 : (Int32 × Int32 × (Nat → Int32) × (Nat → Int32) × (Nat → Int64) × (Nat → Int64))) => some (.inl ((v11 + (1 : Int32)), u42.1, u42.2.1, u42.2.2.1, u42.2.2.2.1, u42.2.2.2.2.1, u42.2.2.2.2.2)))
def fX6_isThere_L6 (p2 : Int32) (p1 : Int32) (wwl : (Nat → Int32)) (v3 : Int32) (v4 : Int32) (v5 : (Nat → Int32)) (v6 : (Nat → Int64)) : Option ((Int32 × Int32 × (Nat → Int32) × (Nat → Int64)) ⊕ (Int32 × Int32 × (Nat → Int32) × (Nat → Int64))) :=
  (if p2 ≤ v3 then some (.inr (v3, v4, v5, v6)) else (fX6_sign p1 v3).bind fun (u48 : Int32) => (fX6_adds v4 wwl v5 v6 v3 u48).bind fun (u50 : (Int32 × (Nat → Int32) × (Nat → Int64))) => some (.inl ((v3 + (1 : Int32)), u50.1, u50.2.1, u50.2.2)))
def fX6_isThere (wwd : Int32) (wnm : Int32) (wwl : (Nat → Int32)) (wev : (Nat → Int32)) (wne : (Nat → Int32)) (wsu : (Nat → Int64)) (wnx : (Nat → Int64)) (p1 : Int32) (p2 : Int32) : Option (Int32 × Int32 × Int32 × (Nat → Int32) × (Nat → Int32) × (Nat → Int64) × (Nat → Int64)) :=
  (fX6_begins ).bind fun (u1 : Int32) => (lp_ (fun (st : (Int32 × Int32 × (Nat → Int32) × (Nat → Int64))) => fX6_isThere_L6 p2 p1 wwl st.1 st.2.1 st.2.2.1 st.2.2.2) fu_ ((0 : Int32), u1, wev, wsu)).bind fun (u7 : (Int32 × Int32 × (Nat → Int32) × (Nat → Int64))) => (lp_ (fun (st : (Int32 × Int32 × Int32 × (Nat → Int32) × (Nat → Int32) × (Nat → Int64) × (Nat → Int64))) => fX6_isThere_L29 wwd st.1 st.2.1 st.2.2.1 st.2.2.2.1 st.2.2.2.2.1 st.2.2.2.2.2.1 st.2.2.2.2.2.2) fu_ ((0 : Int32), u7.2.1, wnm, u7.2.2.1, wne, u7.2.2.2, wnx)).bind fun (u18 : (Int32 × Int32 × Int32 × (Nat → Int32) × (Nat → Int32) × (Nat → Int64) × (Nat → Int64))) => (lp_ (fun (st : Int32) => fX6_isThere_L50 u18 st) fu_ (0 : Int32)).bind fun (u23 : (Int32 ⊕ (Int32 × Int32 × Int32 × (Nat → Int32) × (Nat → Int32) × (Nat → Int64) × (Nat → Int64)))) => Sum.elim (fun (x27 : Int32) => some ((1 : Int32), u18.2.1, u18.2.2.1, u18.2.2.2.1, u18.2.2.2.2.1, u18.2.2.2.2.2.1, u18.2.2.2.2.2.2)) (fun y => some y) u23
def fX6_works_L73 (v8 : Int32) (v27 : (Nat → Int32)) (v24 : Int32) (wwd : Int32) (wwl : (Nat → Int32)) (v43 : Int32) (v44 : Int32) (v45 : Int32) (v46 : (Nat → Int32)) (v47 : (Nat → Int32)) (v48 : (Nat → Int32)) (v49 : (Nat → Int64)) (v50 : (Nat → Int64)) : Option ((Int32 × Int32 × Int32 × (Nat → Int32) × (Nat → Int32) × (Nat → Int32) × (Nat → Int64) × (Nat → Int64)) ⊕ (Int32 × Int32 × Int32 × (Nat → Int32) × (Nat → Int32) × (Nat → Int32) × (Nat → Int64) × (Nat → Int64))) :=
  (if (3 : Int32) ≤ v43 then some (.inr (v43, v44, v45, v46, v47, v48, v49, v50)) else (fX6_power v8).bind fun (u59 : Int32) => (if (v27 v24.toNatClampNeg) = 0 then ck_ (in_R (v24 + (v43 * u59)) 6561) (some (.inl ((v43 + (1 : Int32)), v44, v45, (upd v46 (v24 + (v43 * u59)).toNatClampNeg (vp_nar .boolean (0 : Int32))), v47, v48, v49, v50))) else (fX6_power v8).bind fun (u63 : Int32) => (fX6_isThere wwd v45 wwl v47 v48 v49 v50 (v24 + (v43 * u63)) (v8 + (1 : Int32))).bind fun (u65 : (Int32 × Int32 × Int32 × (Nat → Int32) × (Nat → Int32) × (Nat → Int64) × (Nat → Int64))) => (if u65.1 = 0 then ck_ (in_R (v24 + (v43 * u59)) 6561) (some (.inl ((v43 + (1 : Int32)), u65.2.1, u65.2.2.1, (upd v46 (v24 + (v43 * u59)).toNatClampNeg (vp_nar .boolean (0 : Int32))), u65.2.2.2.1, u65.2.2.2.2.1, u65.2.2.2.2.2.1, u65.2.2.2.2.2.2))) else ck_ (in_R (v24 + (v43 * u59)) 6561) (some (.inl ((v43 + (1 : Int32)), u65.2.1, u65.2.2.1, (upd v46 (v24 + (v43 * u59)).toNatClampNeg (vp_nar .boolean (1 : Int32))), u65.2.2.2.1, u65.2.2.2.2.1, u65.2.2.2.2.2.1, u65.2.2.2.2.2.2))))))
def fX6_works_L55 (v8 : Int32) (wwd : Int32) (wwl : (Nat → Int32)) (v24 : Int32) (v25 : Int32) (v26 : Int32) (v27 : (Nat → Int32)) (v28 : (Nat → Int32)) (v29 : (Nat → Int32)) (v30 : (Nat → Int64)) (v31 : (Nat → Int64)) : Option ((Int32 × Int32 × Int32 × (Nat → Int32) × (Nat → Int32) × (Nat → Int32) × (Nat → Int64) × (Nat → Int64)) ⊕ (Int32 × Int32 × Int32 × (Nat → Int32) × (Nat → Int32) × (Nat → Int32) × (Nat → Int64) × (Nat → Int64))) :=
  (fX6_power v8).bind fun (u39 : Int32) => (if u39 ≤ v24 then some (.inr (v24, v25, v26, v27, v28, v29, v30, v31)) else ck_ (in_R v24 6561) ((lp_ (fun (st : (Int32 × Int32 × Int32 × (Nat → Int32) × (Nat → Int32) × (Nat → Int32) × (Nat → Int64) × (Nat → Int64))) => fX6_works_L73 v8 v27 v24 wwd wwl st.1 st.2.1 st.2.2.1 st.2.2.2.1 st.2.2.2.2.1 st.2.2.2.2.2.1 st.2.2.2.2.2.2.1 st.2.2.2.2.2.2.2) fu_ ((0 : Int32), v25, v26, v27, v28, v29, v30, v31)).bind fun (u51 : (Int32 × Int32 × Int32 × (Nat → Int32) × (Nat → Int32) × (Nat → Int32) × (Nat → Int64) × (Nat → Int64))) => some (.inl ((v24 + (1 : Int32)), u51.2.1, u51.2.2.1, u51.2.2.2.1, u51.2.2.2.2.1, u51.2.2.2.2.2.1, u51.2.2.2.2.2.2.1, u51.2.2.2.2.2.2.2))))
def fX6_works_L45 (wmn : Int32) (wwd : Int32) (wwl : (Nat → Int32)) (v8 : Int32) (v9 : Int32) (v10 : Int32) (v11 : (Nat → Int32)) (v12 : (Nat → Int32)) (v13 : (Nat → Int32)) (v14 : (Nat → Int64)) (v15 : (Nat → Int64)) : Option ((Int32 × Int32 × Int32 × (Nat → Int32) × (Nat → Int32) × (Nat → Int32) × (Nat → Int64) × (Nat → Int64)) ⊕ (Int32 × Int32 × Int32 × (Nat → Int32) × (Nat → Int32) × (Nat → Int32) × (Nat → Int64) × (Nat → Int64))) :=
  (if wmn ≤ v8 then some (.inr (v8, v9, v10, v11, v12, v13, v14, v15)) else (lp_ (fun (st : (Int32 × Int32 × Int32 × (Nat → Int32) × (Nat → Int32) × (Nat → Int32) × (Nat → Int64) × (Nat → Int64))) => fX6_works_L55 v8 wwd wwl st.1 st.2.1 st.2.2.1 st.2.2.2.1 st.2.2.2.2.1 st.2.2.2.2.2.1 st.2.2.2.2.2.2.1 st.2.2.2.2.2.2.2) fu_ ((0 : Int32), v9, v10, v11, v12, v13, v14, v15)).bind fun (u32 : (Int32 × Int32 × Int32 × (Nat → Int32) × (Nat → Int32) × (Nat → Int32) × (Nat → Int64) × (Nat → Int64))) => some (.inl ((v8 + (1 : Int32)), u32.2.1, u32.2.2.1, u32.2.2.2.1, u32.2.2.2.2.1, u32.2.2.2.2.2.1, u32.2.2.2.2.2.2.1, u32.2.2.2.2.2.2.2)))
def fX6_works_L15  (v2 : Int32) (v3 : (Nat → Int32)) : Option ((Int32 × (Nat → Int32)) ⊕ (Int32 × (Nat → Int32))) :=
  (if (6561 : Int32) ≤ v2 then some (.inr (v2, v3)) else (if v2 = 0 then ck_ (in_R v2 6561) (some (.inl ((v2 + (1 : Int32)), (upd v3 v2.toNatClampNeg (vp_nar .boolean (1 : Int32)))))) else ck_ (in_R v2 6561) (some (.inl ((v2 + (1 : Int32)), (upd v3 v2.toNatClampNeg (vp_nar .boolean (0 : Int32))))))))
def fX6_works (wwd : Int32) (wmn : Int32) (wod : Int32) (wsm : Int32) (wnm : Int32) (wwl : (Nat → Int32)) (wif : (Nat → Int32)) (wev : (Nat → Int32)) (wne : (Nat → Int32)) (wsu : (Nat → Int64)) (wnx : (Nat → Int64)) : Option (Int32 × Int32 × Int32 × (Nat → Int32) × (Nat → Int32) × (Nat → Int32) × (Nat → Int64) × (Nat → Int64)) :=
  (if wod = 0 then some (wod, wsm, wnm, wif, wev, wne, wsu, wnx) else (lp_ (fun (st : (Int32 × (Nat → Int32))) => fX6_works_L15  st.1 st.2) fu_ ((0 : Int32), wif)).bind fun (u4 : (Int32 × (Nat → Int32))) => (lp_ (fun (st : (Int32 × Int32 × Int32 × (Nat → Int32) × (Nat → Int32) × (Nat → Int32) × (Nat → Int64) × (Nat → Int64))) => fX6_works_L45 wmn wwd wwl st.1 st.2.1 st.2.2.1 st.2.2.2.1 st.2.2.2.2.1 st.2.2.2.2.2.1 st.2.2.2.2.2.2.1 st.2.2.2.2.2.2.2) fu_ ((0 : Int32), wsm, wnm, u4.2, wev, wne, wsu, wnx)).bind fun (u16 : (Int32 × Int32 × Int32 × (Nat → Int32) × (Nat → Int32) × (Nat → Int32) × (Nat → Int64) × (Nat → Int64))) => some ((0 : Int32), u16.2.1, u16.2.2.1, u16.2.2.2.1, u16.2.2.2.2.1, u16.2.2.2.2.2.1, u16.2.2.2.2.2.2.1, u16.2.2.2.2.2.2.2))
def fX6_isFace (wwd : Int32) (wmn : Int32) (wod : Int32) (wsm : Int32) (wnm : Int32) (wwl : (Nat → Int32)) (wif : (Nat → Int32)) (wev : (Nat → Int32)) (wne : (Nat → Int32)) (wsu : (Nat → Int64)) (wnx : (Nat → Int64)) (p1 : Int32) : Option (Int32 × Int32 × Int32 × Int32 × (Nat → Int32) × (Nat → Int32) × (Nat → Int32) × (Nat → Int64) × (Nat → Int64)) :=
  (fX6_works wwd wmn wod wsm wnm wwl wif wev wne wsu wnx).bind fun (u1 : (Int32 × Int32 × Int32 × (Nat → Int32) × (Nat → Int32) × (Nat → Int32) × (Nat → Int64) × (Nat → Int64))) => (fX6_in p1 (0 : Int32) (6560 : Int32)).bind fun (u3 : Int32) => (if u3 = 0 then some ((0 : Int32), u1.1, u1.2.1, u1.2.2.1, u1.2.2.2.1, u1.2.2.2.2.1, u1.2.2.2.2.2.1, u1.2.2.2.2.2.2.1, u1.2.2.2.2.2.2.2) else ck_ (in_R p1 6561) ((if (u1.2.2.2.1 p1.toNatClampNeg) = 0 then some ((0 : Int32), u1.1, u1.2.1, u1.2.2.1, u1.2.2.2.1, u1.2.2.2.2.1, u1.2.2.2.2.2.1, u1.2.2.2.2.2.2.1, u1.2.2.2.2.2.2.2) else some ((1 : Int32), u1.1, u1.2.1, u1.2.2.1, u1.2.2.2.1, u1.2.2.2.2.1, u1.2.2.2.2.2.1, u1.2.2.2.2.2.2.1, u1.2.2.2.2.2.2.2))))
def fX6_rank_L244 (v31 : Int32) (v9 : Int32) (v32 : (Nat → Int64)) (v8 : Int32) (v43 : Int32) (v44 : (Nat → Int64)) : Option ((Int32 × (Nat → Int64)) ⊕ (Int32 × (Nat → Int64))) :=
  (if (4 : Int32) ≤ v43 then some (.inr (v43, v44)) else ck_ (in_R (((4 : Int32) * v31) + v43) 32) (ck_ (in_R (((4 : Int32) * v9) + v43) 32) (ck_ (in_R (((4 : Int32) * v31) + v43) 32) (some (.inl ((v43 + (1 : Int32)), (vp_updL v44 (((4 : Int32) * v31) + v43).toNatClampNeg (((v44 (((4 : Int32) * v31) + v43).toNatClampNeg) * (v32 (((4 : Int32) * v9) + v8).toNatClampNeg)) - ((v44 (((4 : Int32) * v9) + v43).toNatClampNeg) * (v32 (((4 : Int32) * v31) + v8).toNatClampNeg))))))))))
def fX6_rank_L207 (u4 : (Int32 × Int32 × (Nat → Int64))) (v8 : Int32) (v9 : Int32) (v31 : Int32) (v32 : (Nat → Int64)) : Option ((Int32 × (Nat → Int64)) ⊕ (Int32 × (Nat → Int64))) :=
  (if u4.2.1 ≤ v31 then some (.inr (v31, v32)) else ck_ (in_R (((4 : Int32) * v31) + v8) 32) (ck_ (in_R (((4 : Int32) * v9) + v8) 32) ((lp_ (fun (st : (Int32 × (Nat → Int64))) => fX6_rank_L244 v31 v9 v32 v8 st.1 st.2) fu_ ((0 : Int32), v32)).bind fun (u45 : (Int32 × (Nat → Int64))) => some (.inl ((v31 + (1 : Int32)), u45.2)))))
def fX6_rank_L137 (u20 : Int32) (v9 : Int32) (v25 : Int32) (v26 : (Nat → Int64)) : Option ((Int32 × (Nat → Int64)) ⊕ (Int32 × (Nat → Int64))) :=
  (if (4 : Int32) ≤ v25 then some (.inr (v25, v26)) else ck_ (in_R (((4 : Int32) * u20) + v25) 32) (ck_ (in_R (((4 : Int32) * v9) + v25) 32) (ck_ (in_R (((4 : Int32) * u20) + v25) 32) (ck_ (in_R (((4 : Int32) * v9) + v25) 32) (some (.inl ((v25 + (1 : Int32)), (vp_updL (vp_updL v26 (((4 : Int32) * u20) + v25).toNatClampNeg (v26 (((4 : Int32) * v9) + v25).toNatClampNeg)) (((4 : Int32) * v9) + v25).toNatClampNeg (v26 (((4 : Int32) * u20) + v25).toNatClampNeg)))))))))
def fX6_rank_L96 (u4 : (Int32 × Int32 × (Nat → Int64))) (v8 : Int32) (v10 : (Nat → Int64)) (v19 : Int32) : Option (Int32 ⊕ Int32) :=
  (if u4.2.1 ≤ v19 then some (.inr v19) else ck_ (in_R (((4 : Int32) * v19) + v8) 32) ((if (lg_cmp (v10 (((4 : Int32) * v19) + v8).toNatClampNeg) (0 : Int64)) = 0 then some (.inl (v19 + (1 : Int32))) else some (.inr v19))))
def fX6_rank_L86 (p2 : Int32) (u4 : (Int32 × Int32 × (Nat → Int64))) (v8 : Int32) (v9 : Int32) (v10 : (Nat → Int64)) : Option ((Int32 × Int32 × (Nat → Int64)) ⊕ (Int32 × Int32 × (Nat → Int64))) :=
  (if p2 ≤ v8 then some (.inr (v8, v9, v10)) else (lp_ (fun (st : Int32) => fX6_rank_L96 u4 v8 v10 st) fu_ v9).bind fun (u20 : Int32) => (if u20 = u4.2.1 then some (.inl ((v8 + (1 : Int32)), v9, v10)) else (lp_ (fun (st : (Int32 × (Nat → Int64))) => fX6_rank_L137 u20 v9 st.1 st.2) fu_ ((0 : Int32), v10)).bind fun (u27 : (Int32 × (Nat → Int64))) => (lp_ (fun (st : (Int32 × (Nat → Int64))) => fX6_rank_L207 u4 v8 v9 st.1 st.2) fu_ ((v9 + (1 : Int32)), u27.2)).bind fun (u33 : (Int32 × (Nat → Int64))) => some (.inl ((v8 + (1 : Int32)), (v9 + (1 : Int32)), u33.2))))
def fX6_rank_L29 (p2 : Int32) (v2 : Int32) (wwl : (Nat → Int32)) (v1 : Int32) (v75 : Int32) (v76 : (Nat → Int64)) : Option ((Int32 × (Nat → Int64)) ⊕ (Int32 × (Nat → Int64))) :=
  (if (4 : Int32) ≤ v75 then some (.inr (v75, v76)) else (if p2 ≤ v75 then ck_ (in_R (((4 : Int32) * v2) + v75) 32) (some (.inl ((v75 + (1 : Int32)), (vp_updL v76 (((4 : Int32) * v2) + v75).toNatClampNeg (0 : Int64))))) else (fX6_at wwl v1 v75).bind fun (u87 : Int32) => ck_ (in_R (((4 : Int32) * v2) + v75) 32) (some (.inl ((v75 + (1 : Int32)), (vp_updL v76 (((4 : Int32) * v2) + v75).toNatClampNeg u87.toInt64))))))
def fX6_rank_L5 (wmn : Int32) (p1 : Int32) (p2 : Int32) (wwl : (Nat → Int32)) (v1 : Int32) (v2 : Int32) (v3 : (Nat → Int64)) : Option ((Int32 × Int32 × (Nat → Int64)) ⊕ (Int32 × Int32 × (Nat → Int64))) :=
  (if wmn ≤ v1 then some (.inr (v1, v2, v3)) else (if ((p1 >>> (v1 &&& 31)) &&& (1 : Int32)) = 0 then some (.inl ((v1 + (1 : Int32)), v2, v3)) else (lp_ (fun (st : (Int32 × (Nat → Int64))) => fX6_rank_L29 p2 v2 wwl v1 st.1 st.2) fu_ ((0 : Int32), v3)).bind fun (u77 : (Int32 × (Nat → Int64))) => some (.inl ((v1 + (1 : Int32)), (v2 + (1 : Int32)), u77.2))))
def fX6_rank (wmn : Int32) (wwl : (Nat → Int32)) (wta : (Nat → Int64)) (p1 : Int32) (p2 : Int32) : Option (Int32 × (Nat → Int64)) :=
  (lp_ (fun (st : (Int32 × Int32 × (Nat → Int64))) => fX6_rank_L5 wmn p1 p2 wwl st.1 st.2.1 st.2.2) fu_ ((0 : Int32), (0 : Int32), wta)).bind fun (u4 : (Int32 × Int32 × (Nat → Int64))) => (lp_ (fun (st : (Int32 × Int32 × (Nat → Int64))) => fX6_rank_L86 p2 u4 st.1 st.2.1 st.2.2) fu_ ((0 : Int32), (0 : Int32), u4.2.2)).bind fun (u11 : (Int32 × Int32 × (Nat → Int64))) => some (u11.2.1, u11.2.2)
def fX6_meets (wmn : Int32) (wwl : (Nat → Int32)) (wta : (Nat → Int64)) (p1 : Int32) : Option (Int32 × (Nat → Int64)) :=
  (fX6_rank wmn wwl wta p1 (4 : Int32)).bind fun (u1 : (Int32 × (Nat → Int64))) => (fX6_rank wmn wwl u1.2 p1 (3 : Int32)).bind fun (u3 : (Int32 × (Nat → Int64))) => (if u1.1 = u3.1 then some ((1 : Int32), u3.2) else some ((0 : Int32), u3.2))
def fX6_onWalls_L4 (wmn : Int32) (p1 : Int32) (v1 : Int32) (v2 : Int32) : Option ((Int32 × Int32) ⊕ (Int32 × Int32)) :=
  (if wmn ≤ v1 then some (.inr (v1, v2)) else (fX6_sign p1 v1).bind fun (u11 : Int32) => (if u11 = (1 : Int32) then some (.inl ((v1 + (1 : Int32)), (v2 ||| ((1 : Int32) <<< (v1 &&& 31))))) else some (.inl ((v1 + (1 : Int32)), (v2 ||| (0 : Int32))))))
def fX6_onWalls (wmn : Int32) (p1 : Int32) : Option Int32 :=
  (lp_ (fun (st : (Int32 × Int32)) => fX6_onWalls_L4 wmn p1 st.1 st.2) fu_ ((0 : Int32), (0 : Int32))).bind fun (u3 : (Int32 × Int32)) => some u3.2
def fX6_width (wwd : Int32) (wmn : Int32) (wod : Int32) (wsm : Int32) (wnm : Int32) (wwl : (Nat → Int32)) (wif : (Nat → Int32)) (wev : (Nat → Int32)) (wne : (Nat → Int32)) (wsu : (Nat → Int64)) (wnx : (Nat → Int64)) (wta : (Nat → Int64)) (p1 : Int32) : Option (Int32 × Int32 × Int32 × Int32 × (Nat → Int32) × (Nat → Int32) × (Nat → Int32) × (Nat → Int64) × (Nat → Int64) × (Nat → Int64)) :=
  (fX6_isFace wwd wmn wod wsm wnm wwl wif wev wne wsu wnx p1).bind fun (u1 : (Int32 × Int32 × Int32 × Int32 × (Nat → Int32) × (Nat → Int32) × (Nat → Int32) × (Nat → Int64) × (Nat → Int64))) => (if u1.1 = 0 then some ((-1 : Int32), u1.2.1, u1.2.2.1, u1.2.2.2.1, u1.2.2.2.2.1, u1.2.2.2.2.2.1, u1.2.2.2.2.2.2.1, u1.2.2.2.2.2.2.2.1, u1.2.2.2.2.2.2.2.2, wta) else (fX6_onWalls wmn p1).bind fun (u4 : Int32) => (fX6_rank wmn wwl wta u4 (3 : Int32)).bind fun (u6 : (Int32 × (Nat → Int64))) => some ((wwd - u6.1), u1.2.1, u1.2.2.1, u1.2.2.2.1, u1.2.2.2.2.1, u1.2.2.2.2.2.1, u1.2.2.2.2.2.2.1, u1.2.2.2.2.2.2.2.1, u1.2.2.2.2.2.2.2.2, u6.2))
def fX6_faces_L18 (wmn : Int32) (wwd : Int32) (wwl : (Nat → Int32)) (p1 : Int32) (v4 : Int32) (v5 : Int32) (v6 : Int32) (v7 : Int32) (v8 : Int32) (v9 : (Nat → Int32)) (v10 : (Nat → Int32)) (v11 : (Nat → Int32)) (v12 : (Nat → Int64)) (v13 : (Nat → Int64)) (v14 : (Nat → Int64)) : Option ((Int32 × Int32 × Int32 × Int32 × Int32 × (Nat → Int32) × (Nat → Int32) × (Nat → Int32) × (Nat → Int64) × (Nat → Int64) × (Nat → Int64)) ⊕ (Int32 × Int32 × Int32 × Int32 × Int32 × (Nat → Int32) × (Nat → Int32) × (Nat → Int32) × (Nat → Int64) × (Nat → Int64) × (Nat → Int64))) :=
  (fX6_power wmn).bind fun (u22 : Int32) => (if u22 ≤ v4 then some (.inr (v4, v5, v6, v7, v8, v9, v10, v11, v12, v13, v14)) else (fX6_width wwd wmn v6 v7 v8 wwl v9 v10 v11 v12 v13 v14 v4).bind fun (u25 : (Int32 × Int32 × Int32 × Int32 × (Nat → Int32) × (Nat → Int32) × (Nat → Int32) × (Nat → Int64) × (Nat → Int64) × (Nat → Int64))) => (if u25.1 = p1 then some (.inl ((v4 + (1 : Int32)), (v5 + (1 : Int32)), u25.2.1, u25.2.2.1, u25.2.2.2.1, u25.2.2.2.2.1, u25.2.2.2.2.2.1, u25.2.2.2.2.2.2.1, u25.2.2.2.2.2.2.2.1, u25.2.2.2.2.2.2.2.2.1, u25.2.2.2.2.2.2.2.2.2)) else some (.inl ((v4 + (1 : Int32)), (v5 + (0 : Int32)), u25.2.1, u25.2.2.1, u25.2.2.2.1, u25.2.2.2.2.1, u25.2.2.2.2.2.1, u25.2.2.2.2.2.2.1, u25.2.2.2.2.2.2.2.1, u25.2.2.2.2.2.2.2.2.1, u25.2.2.2.2.2.2.2.2.2))))
def fX6_faces (wwd : Int32) (wmn : Int32) (wod : Int32) (wsm : Int32) (wnm : Int32) (wwl : (Nat → Int32)) (wif : (Nat → Int32)) (wev : (Nat → Int32)) (wne : (Nat → Int32)) (wsu : (Nat → Int64)) (wnx : (Nat → Int64)) (wta : (Nat → Int64)) (p1 : Int32) : Option (Int32 × Int32 × Int32 × Int32 × (Nat → Int32) × (Nat → Int32) × (Nat → Int32) × (Nat → Int64) × (Nat → Int64) × (Nat → Int64)) :=
  (fX6_in p1 (0 : Int32) wwd).bind fun (u1 : Int32) => (if u1 = 0 then some ((-1 : Int32), wod, wsm, wnm, wif, wev, wne, wsu, wnx, wta) else (lp_ (fun (st : (Int32 × Int32 × Int32 × Int32 × Int32 × (Nat → Int32) × (Nat → Int32) × (Nat → Int32) × (Nat → Int64) × (Nat → Int64) × (Nat → Int64))) => fX6_faces_L18 wmn wwd wwl p1 st.1 st.2.1 st.2.2.1 st.2.2.2.1 st.2.2.2.2.1 st.2.2.2.2.2.1 st.2.2.2.2.2.2.1 st.2.2.2.2.2.2.2.1 st.2.2.2.2.2.2.2.2.1 st.2.2.2.2.2.2.2.2.2.1 st.2.2.2.2.2.2.2.2.2.2) fu_ ((0 : Int32), (0 : Int32), wod, wsm, wnm, wif, wev, wne, wsu, wnx, wta)).bind fun (u15 : (Int32 × Int32 × Int32 × Int32 × Int32 × (Nat → Int32) × (Nat → Int32) × (Nat → Int32) × (Nat → Int64) × (Nat → Int64) × (Nat → Int64))) => some (u15.2.1, u15.2.2.1, u15.2.2.2.1, u15.2.2.2.2.1, u15.2.2.2.2.2.1, u15.2.2.2.2.2.2.1, u15.2.2.2.2.2.2.2.1, u15.2.2.2.2.2.2.2.2.1, u15.2.2.2.2.2.2.2.2.2.1, u15.2.2.2.2.2.2.2.2.2.2))
def fX6_isRoom (wwd : Int32) (wmn : Int32) (wod : Int32) (wsm : Int32) (wnm : Int32) (wwl : (Nat → Int32)) (wif : (Nat → Int32)) (wev : (Nat → Int32)) (wne : (Nat → Int32)) (wsu : (Nat → Int64)) (wnx : (Nat → Int64)) (p1 : Int32) : Option (Int32 × Int32 × Int32 × Int32 × (Nat → Int32) × (Nat → Int32) × (Nat → Int32) × (Nat → Int64) × (Nat → Int64)) :=
  (fX6_isFace wwd wmn wod wsm wnm wwl wif wev wne wsu wnx p1).bind fun (u1 : (Int32 × Int32 × Int32 × Int32 × (Nat → Int32) × (Nat → Int32) × (Nat → Int32) × (Nat → Int64) × (Nat → Int64))) => (if u1.1 = 0 then some ((0 : Int32), u1.2.1, u1.2.2.1, u1.2.2.2.1, u1.2.2.2.2.1, u1.2.2.2.2.2.1, u1.2.2.2.2.2.2.1, u1.2.2.2.2.2.2.2.1, u1.2.2.2.2.2.2.2.2) else (fX6_onWalls wmn p1).bind fun (u4 : Int32) => (if u4 = 0 then some ((1 : Int32), u1.2.1, u1.2.2.1, u1.2.2.2.1, u1.2.2.2.2.1, u1.2.2.2.2.2.1, u1.2.2.2.2.2.2.1, u1.2.2.2.2.2.2.2.1, u1.2.2.2.2.2.2.2.2) else some ((0 : Int32), u1.2.1, u1.2.2.1, u1.2.2.2.1, u1.2.2.2.2.1, u1.2.2.2.2.2.1, u1.2.2.2.2.2.2.1, u1.2.2.2.2.2.2.2.1, u1.2.2.2.2.2.2.2.2)))
def fX6_leadsOn_L18 (wmn : Int32) (wwl : (Nat → Int32)) (p1 : Int32) (p2 : Int32) (p3 : Int32) (p4 : Int32) (v2 : Int32) : Option (Int32 ⊕ (Int32 ⊕ Int32)) :=
  (if wmn ≤ v2 then some (.inr (.inl v2)) else (fX6_at wwl v2 (0 : Int32)).bind fun (u13 : Int32) => (fX6_at wwl v2 (1 : Int32)).bind fun (u15 : Int32) => (fX6_at wwl v2 (2 : Int32)).bind fun (u17 : Int32) => (fX6_sign p1 v2).bind fun (u19 : Int32) => (if u19 = 0 then (if (((u13 * p2) + (u15 * p3)) + (u17 * p4)) ≤ 0 then some (.inl (v2 + (1 : Int32))) else some (.inr (.inr (0 : Int32)))) else (if 0 ≤ (((u13 * p2) + (u15 * p3)) + (u17 * p4)) then some (.inl (v2 + (1 : Int32))) else some (.inr (.inr (0 : Int32))))))
def fX6_leadsOn_L18_1 (wmn : Int32) (wwl : (Nat → Int32)) (p1 : Int32) (p2 : Int32) (p3 : Int32) (p4 : Int32) (v25 : Int32) : Option (Int32 ⊕ (Int32 ⊕ Int32)) :=
  (if wmn ≤ v25 then some (.inr (.inl v25)) else (fX6_at wwl v25 (0 : Int32)).bind fun (u36 : Int32) => (fX6_at wwl v25 (1 : Int32)).bind fun (u38 : Int32) => (fX6_at wwl v25 (2 : Int32)).bind fun (u40 : Int32) => (fX6_sign p1 v25).bind fun (u42 : Int32) => (if u42 = 0 then (if (((u36 * p2) + (u38 * p3)) + (u40 * p4)) ≤ 0 then some (.inl (v25 + (1 : Int32))) else some (.inr (.inr (0 : Int32)))) else (if 0 ≤ (((u36 * p2) + (u38 * p3)) + (u40 * p4)) then some (.inl (v25 + (1 : Int32))) else some (.inr (.inr (0 : Int32))))))
def fX6_leadsOn_L18_2 (wmn : Int32) (wwl : (Nat → Int32)) (p1 : Int32) (p2 : Int32) (p3 : Int32) (p4 : Int32) (v48 : Int32) : Option (Int32 ⊕ (Int32 ⊕ Int32)) :=
  (if wmn ≤ v48 then some (.inr (.inl v48)) else (fX6_at wwl v48 (0 : Int32)).bind fun (u59 : Int32) => (fX6_at wwl v48 (1 : Int32)).bind fun (u61 : Int32) => (fX6_at wwl v48 (2 : Int32)).bind fun (u63 : Int32) => (fX6_sign p1 v48).bind fun (u65 : Int32) => (if u65 = 0 then (if (((u59 * p2) + (u61 * p3)) + (u63 * p4)) ≤ 0 then some (.inl (v48 + (1 : Int32))) else some (.inr (.inr (0 : Int32)))) else (if 0 ≤ (((u59 * p2) + (u61 * p3)) + (u63 * p4)) then some (.inl (v48 + (1 : Int32))) else some (.inr (.inr (0 : Int32))))))
def fX6_leadsOn (wmn : Int32) (wwl : (Nat → Int32)) (p1 : Int32) (p2 : Int32) (p3 : Int32) (p4 : Int32) : Option Int32 :=
  (if p2 = 0 then (if p3 = 0 then (if p4 = 0 then some (0 : Int32) else (lp_ (fun (st : Int32) => fX6_leadsOn_L18_2 wmn wwl p1 p2 p3 p4 st) fu_ (0 : Int32)).bind fun (u49 : (Int32 ⊕ Int32)) => Sum.elim (fun (x53 : Int32) => some (1 : Int32)) (fun y => some y) u49) else (lp_ (fun (st : Int32) => fX6_leadsOn_L18_1 wmn wwl p1 p2 p3 p4 st) fu_ (0 : Int32)).bind fun (u26 : (Int32 ⊕ Int32)) => Sum.elim (fun (x30 : Int32) => some (1 : Int32)) (fun y => some y) u26) else (lp_ (fun (st : Int32) => fX6_leadsOn_L18 wmn wwl p1 p2 p3 p4 st) fu_ (0 : Int32)).bind fun (u3 : (Int32 ⊕ Int32)) => Sum.elim (fun (x7 : Int32) => some (1 : Int32)) (fun y => some y) u3)
def fX6_leadsEither (wmn : Int32) (wwl : (Nat → Int32)) (p1 : Int32) (p2 : Int32) (p3 : Int32) (p4 : Int32) : Option Int32 :=
  (fX6_leadsOn wmn wwl p1 p2 p3 p4).bind fun (u1 : Int32) => (if u1 = 0 then (fX6_leadsOn wmn wwl p1 (-p2) (-p3) (-p4)).bind fun (u4 : Int32) => (if u4 = 0 then some (0 : Int32) else some (1 : Int32)) else some (1 : Int32))
def fX6_bounded_L99 (v8 : Int32) (wwl : (Nat → Int32)) (wmn : Int32) (p1 : Int32) (u1 : (Int32 × Int32 × Int32 × Int32 × (Nat → Int32) × (Nat → Int32) × (Nat → Int32) × (Nat → Int64) × (Nat → Int64))) (u4 : (Int32 × (Nat → Int64))) (v20 : Int32) : Option (Int32 ⊕ (Int32 ⊕ (Int32 × Int32 × Int32 × Int32 × (Nat → Int32) × (Nat → Int32) × (Nat → Int32) × (Nat → Int64) × (Nat → Int64) × (Nat → Int64)))) :=
  (if v8 ≤ v20 then some (.inr (.inl v20)) else (fX6_at wwl v8 (1 : Int32)).bind fun (u31 : Int32) => (fX6_at wwl v20 (2 : Int32)).bind fun (u33 : Int32) => (fX6_at wwl v8 (2 : Int32)).bind fun (u35 : Int32) => (fX6_at wwl v20 (1 : Int32)).bind fun (u37 : Int32) => (fX6_at wwl v8 (2 : Int32)).bind fun (u39 : Int32) => (fX6_at wwl v20 (0 : Int32)).bind fun (u41 : Int32) => (fX6_at wwl v8 (0 : Int32)).bind fun (u43 : Int32) => (fX6_at wwl v20 (2 : Int32)).bind fun (u45 : Int32) => (fX6_at wwl v8 (0 : Int32)).bind fun (u47 : Int32) => (fX6_at wwl v20 (1 : Int32)).bind fun (u49 : Int32) => (fX6_at wwl v8 (1 : Int32)).bind fun (u51 : Int32) => (fX6_at wwl v20 (0 : Int32)).bind fun (u53 : Int32) => (fX6_leadsEither wmn wwl p1 ((u31 * u33) - (u35 * u37)) ((u39 * u41) - (u43 * u45)) ((u47 * u49) - (u51 * u53))).bind fun (u55 : Int32) => (if u55 = 0 then some (.inl (v20 + (1 : Int32))) else some (.inr (.inr ((0 : Int32), u1.2.1, u1.2.2.1, u1.2.2.2.1, u1.2.2.2.2.1, u1.2.2.2.2.2.1, u1.2.2.2.2.2.2.1, u1.2.2.2.2.2.2.2.1, u1.2.2.2.2.2.2.2.2, u4.2)))))
def fX6_bounded_L57 (wmn : Int32) (wwd : Int32) (wwl : (Nat → Int32)) (p1 : Int32) (u1 : (Int32 × Int32 × Int32 × Int32 × (Nat → Int32) × (Nat → Int32) × (Nat → Int32) × (Nat → Int64) × (Nat → Int64))) (u4 : (Int32 × (Nat → Int64))) (v8 : Int32) : Option (Int32 ⊕ (Int32 ⊕ (Int32 × Int32 × Int32 × Int32 × (Nat → Int32) × (Nat → Int32) × (Nat → Int32) × (Nat → Int64) × (Nat → Int64) × (Nat → Int64)))) :=
  (if wmn ≤ v8 then some (.inr (.inl v8)) else (if wwd = (2 : Int32) then (fX6_at wwl v8 (1 : Int32)).bind fun (u58 : Int32) => (fX6_at wwl v8 (0 : Int32)).bind fun (u60 : Int32) => (fX6_leadsEither wmn wwl p1 (-u58) u60 (0 : Int32)).bind fun (u62 : Int32) => (if u62 = 0 then some (.inl (v8 + (1 : Int32))) else some (.inr (.inr ((0 : Int32), u1.2.1, u1.2.2.1, u1.2.2.2.1, u1.2.2.2.2.1, u1.2.2.2.2.2.1, u1.2.2.2.2.2.2.1, u1.2.2.2.2.2.2.2.1, u1.2.2.2.2.2.2.2.2, u4.2)))) else (lp_ (fun (st : Int32) => fX6_bounded_L99 v8 wwl wmn p1 u1 u4 st) fu_ (0 : Int32)).bind fun (u21 : (Int32 ⊕ (Int32 × Int32 × Int32 × Int32 × (Nat → Int32) × (Nat → Int32) × (Nat → Int32) × (Nat → Int64) × (Nat → Int64) × (Nat → Int64)))) => Sum.elim (fun (x25 : Int32) => some (.inl (v8 + (1 : Int32)))) (fun y => some (.inr (.inr y))) u21))
def fX6_bounded (wwd : Int32) (wmn : Int32) (wod : Int32) (wsm : Int32) (wnm : Int32) (wwl : (Nat → Int32)) (wif : (Nat → Int32)) (wev : (Nat → Int32)) (wne : (Nat → Int32)) (wsu : (Nat → Int64)) (wnx : (Nat → Int64)) (wta : (Nat → Int64)) (p1 : Int32) : Option (Int32 × Int32 × Int32 × Int32 × (Nat → Int32) × (Nat → Int32) × (Nat → Int32) × (Nat → Int64) × (Nat → Int64) × (Nat → Int64)) :=
  (fX6_isRoom wwd wmn wod wsm wnm wwl wif wev wne wsu wnx p1).bind fun (u1 : (Int32 × Int32 × Int32 × Int32 × (Nat → Int32) × (Nat → Int32) × (Nat → Int32) × (Nat → Int64) × (Nat → Int64))) => (if u1.1 = 0 then some ((0 : Int32), u1.2.1, u1.2.2.1, u1.2.2.2.1, u1.2.2.2.2.1, u1.2.2.2.2.2.1, u1.2.2.2.2.2.2.1, u1.2.2.2.2.2.2.2.1, u1.2.2.2.2.2.2.2.2, wta) else (fX6_rank wmn wwl wta (((1 : Int32) <<< (wmn &&& 31)) - (1 : Int32)) (3 : Int32)).bind fun (u4 : (Int32 × (Nat → Int64))) => (if wwd ≤ u4.1 then (if wwd = (1 : Int32) then (fX6_leadsEither wmn wwl p1 (1 : Int32) (0 : Int32) (0 : Int32)).bind fun (u65 : Int32) => (if u65 = 0 then some ((1 : Int32), u1.2.1, u1.2.2.1, u1.2.2.2.1, u1.2.2.2.2.1, u1.2.2.2.2.2.1, u1.2.2.2.2.2.2.1, u1.2.2.2.2.2.2.2.1, u1.2.2.2.2.2.2.2.2, u4.2) else some ((0 : Int32), u1.2.1, u1.2.2.1, u1.2.2.2.1, u1.2.2.2.2.1, u1.2.2.2.2.2.1, u1.2.2.2.2.2.2.1, u1.2.2.2.2.2.2.2.1, u1.2.2.2.2.2.2.2.2, u4.2)) else (lp_ (fun (st : Int32) => fX6_bounded_L57 wmn wwd wwl p1 u1 u4 st) fu_ (0 : Int32)).bind fun (u9 : (Int32 ⊕ (Int32 × Int32 × Int32 × Int32 × (Nat → Int32) × (Nat → Int32) × (Nat → Int32) × (Nat → Int64) × (Nat → Int64) × (Nat → Int64)))) => Sum.elim (fun (x13 : Int32) => some ((1 : Int32), u1.2.1, u1.2.2.1, u1.2.2.2.1, u1.2.2.2.2.1, u1.2.2.2.2.2.1, u1.2.2.2.2.2.2.1, u1.2.2.2.2.2.2.2.1, u1.2.2.2.2.2.2.2.2, u4.2)) (fun y => some y) u9) else some ((0 : Int32), u1.2.1, u1.2.2.1, u1.2.2.2.1, u1.2.2.2.2.1, u1.2.2.2.2.2.1, u1.2.2.2.2.2.2.1, u1.2.2.2.2.2.2.2.1, u1.2.2.2.2.2.2.2.2, u4.2)))
def fX6_boundedRooms_L4 (wmn : Int32) (wwd : Int32) (wwl : (Nat → Int32)) (v1 : Int32) (v2 : Int32) (v3 : Int32) (v4 : Int32) (v5 : Int32) (v6 : (Nat → Int32)) (v7 : (Nat → Int32)) (v8 : (Nat → Int32)) (v9 : (Nat → Int64)) (v10 : (Nat → Int64)) (v11 : (Nat → Int64)) : Option ((Int32 × Int32 × Int32 × Int32 × Int32 × (Nat → Int32) × (Nat → Int32) × (Nat → Int32) × (Nat → Int64) × (Nat → Int64) × (Nat → Int64)) ⊕ (Int32 × Int32 × Int32 × Int32 × Int32 × (Nat → Int32) × (Nat → Int32) × (Nat → Int32) × (Nat → Int64) × (Nat → Int64) × (Nat → Int64))) :=
  (fX6_power wmn).bind fun (u19 : Int32) => (if u19 ≤ v1 then some (.inr (v1, v2, v3, v4, v5, v6, v7, v8, v9, v10, v11)) else (fX6_isRoom wwd wmn v3 v4 v5 wwl v6 v7 v8 v9 v10 v1).bind fun (u22 : (Int32 × Int32 × Int32 × Int32 × (Nat → Int32) × (Nat → Int32) × (Nat → Int32) × (Nat → Int64) × (Nat → Int64))) => (if u22.1 = 0 then some (.inl ((v1 + (1 : Int32)), (v2 + (0 : Int32)), u22.2.1, u22.2.2.1, u22.2.2.2.1, u22.2.2.2.2.1, u22.2.2.2.2.2.1, u22.2.2.2.2.2.2.1, u22.2.2.2.2.2.2.2.1, u22.2.2.2.2.2.2.2.2, v11)) else (fX6_bounded wwd wmn u22.2.1 u22.2.2.1 u22.2.2.2.1 wwl u22.2.2.2.2.1 u22.2.2.2.2.2.1 u22.2.2.2.2.2.2.1 u22.2.2.2.2.2.2.2.1 u22.2.2.2.2.2.2.2.2 v11 v1).bind fun (u25 : (Int32 × Int32 × Int32 × Int32 × (Nat → Int32) × (Nat → Int32) × (Nat → Int32) × (Nat → Int64) × (Nat → Int64) × (Nat → Int64))) => (if u25.1 = 0 then some (.inl ((v1 + (1 : Int32)), (v2 + (0 : Int32)), u25.2.1, u25.2.2.1, u25.2.2.2.1, u25.2.2.2.2.1, u25.2.2.2.2.2.1, u25.2.2.2.2.2.2.1, u25.2.2.2.2.2.2.2.1, u25.2.2.2.2.2.2.2.2.1, u25.2.2.2.2.2.2.2.2.2)) else some (.inl ((v1 + (1 : Int32)), (v2 + (1 : Int32)), u25.2.1, u25.2.2.1, u25.2.2.2.1, u25.2.2.2.2.1, u25.2.2.2.2.2.1, u25.2.2.2.2.2.2.1, u25.2.2.2.2.2.2.2.1, u25.2.2.2.2.2.2.2.2.1, u25.2.2.2.2.2.2.2.2.2)))))
def fX6_boundedRooms (wwd : Int32) (wmn : Int32) (wod : Int32) (wsm : Int32) (wnm : Int32) (wwl : (Nat → Int32)) (wif : (Nat → Int32)) (wev : (Nat → Int32)) (wne : (Nat → Int32)) (wsu : (Nat → Int64)) (wnx : (Nat → Int64)) (wta : (Nat → Int64)) : Option (Int32 × Int32 × Int32 × Int32 × (Nat → Int32) × (Nat → Int32) × (Nat → Int32) × (Nat → Int64) × (Nat → Int64) × (Nat → Int64)) :=
  (lp_ (fun (st : (Int32 × Int32 × Int32 × Int32 × Int32 × (Nat → Int32) × (Nat → Int32) × (Nat → Int32) × (Nat → Int64) × (Nat → Int64) × (Nat → Int64))) => fX6_boundedRooms_L4 wmn wwd wwl st.1 st.2.1 st.2.2.1 st.2.2.2.1 st.2.2.2.2.1 st.2.2.2.2.2.1 st.2.2.2.2.2.2.1 st.2.2.2.2.2.2.2.1 st.2.2.2.2.2.2.2.2.1 st.2.2.2.2.2.2.2.2.2.1 st.2.2.2.2.2.2.2.2.2.2) fu_ ((0 : Int32), (0 : Int32), wod, wsm, wnm, wif, wev, wne, wsu, wnx, wta)).bind fun (u12 : (Int32 × Int32 × Int32 × Int32 × Int32 × (Nat → Int32) × (Nat → Int32) × (Nat → Int32) × (Nat → Int64) × (Nat → Int64) × (Nat → Int64))) => some (u12.2.1, u12.2.2.1, u12.2.2.2.1, u12.2.2.2.2.1, u12.2.2.2.2.2.1, u12.2.2.2.2.2.2.1, u12.2.2.2.2.2.2.2.1, u12.2.2.2.2.2.2.2.2.1, u12.2.2.2.2.2.2.2.2.2.1, u12.2.2.2.2.2.2.2.2.2.2)
def fX6_polynomial_L5 (wmn : Int32) (p1 : Int32) (wwl : (Nat → Int32)) (wwd : Int32) (p2 : Int32) (v1 : Int32) (v2 : Int32) (v3 : (Nat → Int64)) : Option ((Int32 × Int32 × (Nat → Int64)) ⊕ (Int32 × Int32 × (Nat → Int64))) :=
  (if ((1 : Int32) <<< (wmn &&& 31)) ≤ v1 then some (.inr (v1, v2, v3)) else (if (v1 &&& (p1 ^^^ (-1 : Int32))) = 0 then (fX6_meets wmn wwl v3 v1).bind fun (u13 : (Int32 × (Nat → Int64))) => (if u13.1 = 0 then some (.inl ((v1 + (1 : Int32)), v2, u13.2)) else (fX6_rank wmn wwl u13.2 v1 (3 : Int32)).bind fun (u16 : (Int32 × (Nat → Int64))) => (if (wwd - u16.1) = p2 then (fX6_odd v1).bind fun (u19 : Int32) => some (.inl ((v1 + (1 : Int32)), (v2 + u19), u16.2)) else some (.inl ((v1 + (1 : Int32)), v2, u16.2)))) else some (.inl ((v1 + (1 : Int32)), v2, v3))))
def fX6_polynomial (wwd : Int32) (wmn : Int32) (wwl : (Nat → Int32)) (wta : (Nat → Int64)) (p1 : Int32) (p2 : Int32) : Option (Int32 × (Nat → Int64)) :=
  (lp_ (fun (st : (Int32 × Int32 × (Nat → Int64))) => fX6_polynomial_L5 wmn p1 wwl wwd p2 st.1 st.2.1 st.2.2) fu_ ((0 : Int32), (0 : Int32), wta)).bind fun (u4 : (Int32 × Int32 × (Nat → Int64))) => some (u4.2.1, u4.2.2)
def fX6_poly (wwd : Int32) (wmn : Int32) (wwl : (Nat → Int32)) (wta : (Nat → Int64)) (p1 : Int32) : Option (Int32 × (Nat → Int64)) :=
  (fX6_polynomial wwd wmn wwl wta (((1 : Int32) <<< (wmn &&& 31)) - (1 : Int32)) p1).bind fun (u1 : (Int32 × (Nat → Int64))) => some (u1.1, u1.2)
def fX6_without (wwd : Int32) (wmn : Int32) (wwl : (Nat → Int32)) (wta : (Nat → Int64)) (p1 : Int32) (p2 : Int32) : Option (Int32 × (Nat → Int64)) :=
  (fX6_in p1 (0 : Int32) (wmn - (1 : Int32))).bind fun (u1 : Int32) => (if u1 = 0 then some ((0 : Int32), wta) else (fX6_polynomial wwd wmn wwl wta ((((1 : Int32) <<< (wmn &&& 31)) - (1 : Int32)) &&& (((1 : Int32) <<< (p1 &&& 31)) ^^^ (-1 : Int32))) p2).bind fun (u4 : (Int32 × (Nat → Int64))) => some (u4.1, u4.2))
def fX6_on_L151 (wmn : Int32) (u7 : (Int32 × Int32 × (Nat → Int64))) (wwl : (Nat → Int32)) (p1 : Int32) (wwd : Int32) (p2 : Int32) (v11 : Int32) (v12 : Int32) (v13 : (Nat → Int64)) : Option ((Int32 × Int32 × (Nat → Int64)) ⊕ (Int32 × Int32 × (Nat → Int64))) :=
  (if ((1 : Int32) <<< (wmn &&& 31)) ≤ v11 then some (.inr (v11, v12, v13)) else (if (v11 &&& (u7.2.1 ^^^ (-1 : Int32))) = 0 then (fX6_meets wmn wwl v13 (v11 ||| ((1 : Int32) <<< (p1 &&& 31)))).bind fun (u23 : (Int32 × (Nat → Int64))) => (if u23.1 = 0 then some (.inl ((v11 + (1 : Int32)), v12, u23.2)) else (fX6_rank wmn wwl u23.2 (v11 ||| ((1 : Int32) <<< (p1 &&& 31))) (3 : Int32)).bind fun (u26 : (Int32 × (Nat → Int64))) => (if (wwd - u26.1) = p2 then (fX6_odd v11).bind fun (u29 : Int32) => some (.inl ((v11 + (1 : Int32)), (v12 + u29), u26.2)) else some (.inl ((v11 + (1 : Int32)), v12, u26.2)))) else some (.inl ((v11 + (1 : Int32)), v12, v13))))
def fX6_on_L78 (v4 : Int32) (v5 : Int32) (wmn : Int32) (wwl : (Nat → Int32)) (p1 : Int32) (v42 : Int32) (v43 : Int32) (v44 : (Nat → Int64)) : Option ((Int32 × Int32 × (Nat → Int64)) ⊕ (Int32 × Int32 × (Nat → Int64))) :=
  (if v4 ≤ v42 then some (.inr (v42, v43, v44)) else (if ((v5 >>> (v42 &&& 31)) &&& (1 : Int32)) = (1 : Int32) then (fX6_rank wmn wwl v44 ((((1 : Int32) <<< (p1 &&& 31)) ||| ((1 : Int32) <<< (v4 &&& 31))) ||| ((1 : Int32) <<< (v42 &&& 31))) (4 : Int32)).bind fun (u55 : (Int32 × (Nat → Int64))) => (if u55.1 = (2 : Int32) then some (.inl ((v42 + (1 : Int32)), (0 : Int32), u55.2)) else some (.inl ((v42 + (1 : Int32)), v43, u55.2))) else some (.inl ((v42 + (1 : Int32)), v43, v44))))
def fX6_on_L26 (wmn : Int32) (p1 : Int32) (wwl : (Nat → Int32)) (v4 : Int32) (v5 : Int32) (v6 : (Nat → Int64)) : Option ((Int32 × Int32 × (Nat → Int64)) ⊕ (Int32 × Int32 × (Nat → Int64))) :=
  (if wmn ≤ v4 then some (.inr (v4, v5, v6)) else (if v4 = p1 then some (.inl ((v4 + (1 : Int32)), v5, v6)) else (fX6_meets wmn wwl v6 (((1 : Int32) <<< (p1 &&& 31)) ||| ((1 : Int32) <<< (v4 &&& 31)))).bind fun (u36 : (Int32 × (Nat → Int64))) => (if u36.1 = 0 then some (.inl ((v4 + (1 : Int32)), v5, u36.2)) else (fX6_rank wmn wwl u36.2 (((1 : Int32) <<< (p1 &&& 31)) ||| ((1 : Int32) <<< (v4 &&& 31))) (3 : Int32)).bind fun (u39 : (Int32 × (Nat → Int64))) => (if (2 : Int32) ≤ u39.1 then (lp_ (fun (st : (Int32 × Int32 × (Nat → Int64))) => fX6_on_L78 v4 v5 wmn wwl p1 st.1 st.2.1 st.2.2) fu_ ((0 : Int32), (1 : Int32), u39.2)).bind fun (u45 : (Int32 × Int32 × (Nat → Int64))) => (if u45.2.1 = 0 then some (.inl ((v4 + (1 : Int32)), v5, u45.2.2)) else some (.inl ((v4 + (1 : Int32)), (v5 ||| ((1 : Int32) <<< (v4 &&& 31))), u45.2.2))) else some (.inl ((v4 + (1 : Int32)), v5, u39.2))))))
def fX6_on (wwd : Int32) (wmn : Int32) (wwl : (Nat → Int32)) (wta : (Nat → Int64)) (p1 : Int32) (p2 : Int32) : Option (Int32 × (Nat → Int64)) :=
  (fX6_in p1 (0 : Int32) (wmn - (1 : Int32))).bind fun (u1 : Int32) => (if u1 = 0 then some ((0 : Int32), wta) else (lp_ (fun (st : (Int32 × Int32 × (Nat → Int64))) => fX6_on_L26 wmn p1 wwl st.1 st.2.1 st.2.2) fu_ ((0 : Int32), (0 : Int32), wta)).bind fun (u7 : (Int32 × Int32 × (Nat → Int64))) => (lp_ (fun (st : (Int32 × Int32 × (Nat → Int64))) => fX6_on_L151 wmn u7 wwl p1 wwd p2 st.1 st.2.1 st.2.2) fu_ ((0 : Int32), (0 : Int32), u7.2.2)).bind fun (u14 : (Int32 × Int32 × (Nat → Int64))) => some (u14.2.1, u14.2.2))
def fX6_walls_L14 (wmn : Int32) (p1 : Int32) (wwd : Int32) (wwl : (Nat → Int32)) (v4 : Int32) (v5 : Int32) (v6 : Int32) (v7 : Int32) (v8 : Int32) (v9 : (Nat → Int32)) (v10 : (Nat → Int32)) (v11 : (Nat → Int32)) (v12 : (Nat → Int64)) (v13 : (Nat → Int64)) : Option ((Int32 × Int32 × Int32 × Int32 × Int32 × (Nat → Int32) × (Nat → Int32) × (Nat → Int32) × (Nat → Int64) × (Nat → Int64)) ⊕ (Int32 × Int32 × Int32 × Int32 × Int32 × (Nat → Int32) × (Nat → Int32) × (Nat → Int32) × (Nat → Int64) × (Nat → Int64))) :=
  (if wmn ≤ v4 then some (.inr (v4, v5, v6, v7, v8, v9, v10, v11, v12, v13)) else (fX6_across p1 v4).bind fun (u22 : Int32) => (fX6_isRoom wwd wmn v6 v7 v8 wwl v9 v10 v11 v12 v13 u22).bind fun (u24 : (Int32 × Int32 × Int32 × Int32 × (Nat → Int32) × (Nat → Int32) × (Nat → Int32) × (Nat → Int64) × (Nat → Int64))) => (if u24.1 = 0 then some (.inl ((v4 + (1 : Int32)), (v5 ||| (0 : Int32)), u24.2.1, u24.2.2.1, u24.2.2.2.1, u24.2.2.2.2.1, u24.2.2.2.2.2.1, u24.2.2.2.2.2.2.1, u24.2.2.2.2.2.2.2.1, u24.2.2.2.2.2.2.2.2)) else some (.inl ((v4 + (1 : Int32)), (v5 ||| ((1 : Int32) <<< (v4 &&& 31))), u24.2.1, u24.2.2.1, u24.2.2.2.1, u24.2.2.2.2.1, u24.2.2.2.2.2.1, u24.2.2.2.2.2.2.1, u24.2.2.2.2.2.2.2.1, u24.2.2.2.2.2.2.2.2))))
def fX6_walls (wwd : Int32) (wmn : Int32) (wod : Int32) (wsm : Int32) (wnm : Int32) (wwl : (Nat → Int32)) (wif : (Nat → Int32)) (wev : (Nat → Int32)) (wne : (Nat → Int32)) (wsu : (Nat → Int64)) (wnx : (Nat → Int64)) (p1 : Int32) : Option (Int32 × Int32 × Int32 × Int32 × (Nat → Int32) × (Nat → Int32) × (Nat → Int32) × (Nat → Int64) × (Nat → Int64)) :=
  (fX6_isRoom wwd wmn wod wsm wnm wwl wif wev wne wsu wnx p1).bind fun (u1 : (Int32 × Int32 × Int32 × Int32 × (Nat → Int32) × (Nat → Int32) × (Nat → Int32) × (Nat → Int64) × (Nat → Int64))) => (if u1.1 = 0 then some ((-1 : Int32), u1.2.1, u1.2.2.1, u1.2.2.2.1, u1.2.2.2.2.1, u1.2.2.2.2.2.1, u1.2.2.2.2.2.2.1, u1.2.2.2.2.2.2.2.1, u1.2.2.2.2.2.2.2.2) else (lp_ (fun (st : (Int32 × Int32 × Int32 × Int32 × Int32 × (Nat → Int32) × (Nat → Int32) × (Nat → Int32) × (Nat → Int64) × (Nat → Int64))) => fX6_walls_L14 wmn p1 wwd wwl st.1 st.2.1 st.2.2.1 st.2.2.2.1 st.2.2.2.2.1 st.2.2.2.2.2.1 st.2.2.2.2.2.2.1 st.2.2.2.2.2.2.2.1 st.2.2.2.2.2.2.2.2.1 st.2.2.2.2.2.2.2.2.2) fu_ ((0 : Int32), (0 : Int32), u1.2.1, u1.2.2.1, u1.2.2.2.1, u1.2.2.2.2.1, u1.2.2.2.2.2.1, u1.2.2.2.2.2.2.1, u1.2.2.2.2.2.2.2.1, u1.2.2.2.2.2.2.2.2)).bind fun (u14 : (Int32 × Int32 × Int32 × Int32 × Int32 × (Nat → Int32) × (Nat → Int32) × (Nat → Int32) × (Nat → Int64) × (Nat → Int64))) => some (u14.2.1, u14.2.2.1, u14.2.2.2.1, u14.2.2.2.2.1, u14.2.2.2.2.2.1, u14.2.2.2.2.2.2.1, u14.2.2.2.2.2.2.2.1, u14.2.2.2.2.2.2.2.2.1, u14.2.2.2.2.2.2.2.2.2))
def fX6_beside (wwd : Int32) (wmn : Int32) (wod : Int32) (wsm : Int32) (wnm : Int32) (wwl : (Nat → Int32)) (wif : (Nat → Int32)) (wev : (Nat → Int32)) (wne : (Nat → Int32)) (wsu : (Nat → Int64)) (wnx : (Nat → Int64)) (p1 : Int32) (p2 : Int32) : Option (Int32 × Int32 × Int32 × Int32 × (Nat → Int32) × (Nat → Int32) × (Nat → Int32) × (Nat → Int64) × (Nat → Int64)) :=
  (fX6_isRoom wwd wmn wod wsm wnm wwl wif wev wne wsu wnx p1).bind fun (u1 : (Int32 × Int32 × Int32 × Int32 × (Nat → Int32) × (Nat → Int32) × (Nat → Int32) × (Nat → Int64) × (Nat → Int64))) => (if u1.1 = 0 then some ((-1 : Int32), u1.2.1, u1.2.2.1, u1.2.2.2.1, u1.2.2.2.2.1, u1.2.2.2.2.2.1, u1.2.2.2.2.2.2.1, u1.2.2.2.2.2.2.2.1, u1.2.2.2.2.2.2.2.2) else (fX6_in p2 (0 : Int32) (wmn - (1 : Int32))).bind fun (u4 : Int32) => (if u4 = 0 then some ((-1 : Int32), u1.2.1, u1.2.2.1, u1.2.2.2.1, u1.2.2.2.2.1, u1.2.2.2.2.2.1, u1.2.2.2.2.2.2.1, u1.2.2.2.2.2.2.2.1, u1.2.2.2.2.2.2.2.2) else (fX6_across p1 p2).bind fun (u7 : Int32) => (fX6_isRoom wwd wmn u1.2.1 u1.2.2.1 u1.2.2.2.1 wwl u1.2.2.2.2.1 u1.2.2.2.2.2.1 u1.2.2.2.2.2.2.1 u1.2.2.2.2.2.2.2.1 u1.2.2.2.2.2.2.2.2 u7).bind fun (u9 : (Int32 × Int32 × Int32 × Int32 × (Nat → Int32) × (Nat → Int32) × (Nat → Int32) × (Nat → Int64) × (Nat → Int64))) => (if u9.1 = 0 then some ((-1 : Int32), u9.2.1, u9.2.2.1, u9.2.2.2.1, u9.2.2.2.2.1, u9.2.2.2.2.2.1, u9.2.2.2.2.2.2.1, u9.2.2.2.2.2.2.2.1, u9.2.2.2.2.2.2.2.2) else some (u7, u9.2.1, u9.2.2.1, u9.2.2.2.1, u9.2.2.2.2.1, u9.2.2.2.2.2.1, u9.2.2.2.2.2.2.1, u9.2.2.2.2.2.2.2.1, u9.2.2.2.2.2.2.2.2))))
def fX6_parted_L5 (wmn : Int32) (p1 : Int32) (p2 : Int32) (v1 : Int32) (v2 : Int32) : Option ((Int32 × Int32) ⊕ (Int32 × Int32)) :=
  (if wmn ≤ v1 then some (.inr (v1, v2)) else (fX6_sign p1 v1).bind fun (u11 : Int32) => (fX6_sign p2 v1).bind fun (u13 : Int32) => (if u11 = u13 then some (.inl ((v1 + (1 : Int32)), (v2 ||| (0 : Int32)))) else some (.inl ((v1 + (1 : Int32)), (v2 ||| ((1 : Int32) <<< (v1 &&& 31)))))))
def fX6_parted (wmn : Int32) (p1 : Int32) (p2 : Int32) : Option Int32 :=
  (lp_ (fun (st : (Int32 × Int32)) => fX6_parted_L5 wmn p1 p2 st.1 st.2) fu_ ((0 : Int32), (0 : Int32))).bind fun (u3 : (Int32 × Int32)) => some u3.2
def fX6_way (wwd : Int32) (wmn : Int32) (wod : Int32) (wsm : Int32) (wnm : Int32) (wwl : (Nat → Int32)) (wif : (Nat → Int32)) (wev : (Nat → Int32)) (wne : (Nat → Int32)) (wsu : (Nat → Int64)) (wnx : (Nat → Int64)) (p1 : Int32) (p2 : Int32) : Option (Int32 × Int32 × Int32 × Int32 × (Nat → Int32) × (Nat → Int32) × (Nat → Int32) × (Nat → Int64) × (Nat → Int64)) :=
  (fX6_isRoom wwd wmn wod wsm wnm wwl wif wev wne wsu wnx p1).bind fun (u1 : (Int32 × Int32 × Int32 × Int32 × (Nat → Int32) × (Nat → Int32) × (Nat → Int32) × (Nat → Int64) × (Nat → Int64))) => (if u1.1 = 0 then some ((-1 : Int32), u1.2.1, u1.2.2.1, u1.2.2.2.1, u1.2.2.2.2.1, u1.2.2.2.2.2.1, u1.2.2.2.2.2.2.1, u1.2.2.2.2.2.2.2.1, u1.2.2.2.2.2.2.2.2) else (fX6_isRoom wwd wmn u1.2.1 u1.2.2.1 u1.2.2.2.1 wwl u1.2.2.2.2.1 u1.2.2.2.2.2.1 u1.2.2.2.2.2.2.1 u1.2.2.2.2.2.2.2.1 u1.2.2.2.2.2.2.2.2 p2).bind fun (u4 : (Int32 × Int32 × Int32 × Int32 × (Nat → Int32) × (Nat → Int32) × (Nat → Int32) × (Nat → Int64) × (Nat → Int64))) => (if u4.1 = 0 then some ((-1 : Int32), u4.2.1, u4.2.2.1, u4.2.2.2.1, u4.2.2.2.2.1, u4.2.2.2.2.2.1, u4.2.2.2.2.2.2.1, u4.2.2.2.2.2.2.2.1, u4.2.2.2.2.2.2.2.2) else (fX6_parted wmn p1 p2).bind fun (u7 : Int32) => (fX6_bits u7).bind fun (u9 : Int32) => some (u9, u4.2.1, u4.2.2.1, u4.2.2.2.1, u4.2.2.2.2.1, u4.2.2.2.2.2.1, u4.2.2.2.2.2.2.1, u4.2.2.2.2.2.2.2.1, u4.2.2.2.2.2.2.2.2)))
def fX6_step_L34 (wmn : Int32) (u7 : Int32) (u9 : (Int32 × Int32 × Int32 × Int32 × (Nat → Int32) × (Nat → Int32) × (Nat → Int32) × (Nat → Int64) × (Nat → Int64))) (v11 : Int32) : Option (Int32 ⊕ (Int32 ⊕ (Int32 × Int32 × Int32 × Int32 × (Nat → Int32) × (Nat → Int32) × (Nat → Int32) × (Nat → Int64) × (Nat → Int64)))) :=
  (if wmn ≤ v11 then some (.inr (.inl v11)) else (if (((u7 &&& u9.1) >>> (v11 &&& 31)) &&& (1 : Int32)) = (1 : Int32) then some (.inr (.inr (v11, u9.2.1, u9.2.2.1, u9.2.2.2.1, u9.2.2.2.2.1, u9.2.2.2.2.2.1, u9.2.2.2.2.2.2.1, u9.2.2.2.2.2.2.2.1, u9.2.2.2.2.2.2.2.2))) else some (.inl (v11 + (1 : Int32)))))
def fX6_step (wwd : Int32) (wmn : Int32) (wod : Int32) (wsm : Int32) (wnm : Int32) (wwl : (Nat → Int32)) (wif : (Nat → Int32)) (wev : (Nat → Int32)) (wne : (Nat → Int32)) (wsu : (Nat → Int64)) (wnx : (Nat → Int64)) (p1 : Int32) (p2 : Int32) : Option (Int32 × Int32 × Int32 × Int32 × (Nat → Int32) × (Nat → Int32) × (Nat → Int32) × (Nat → Int64) × (Nat → Int64)) :=
  (fX6_isRoom wwd wmn wod wsm wnm wwl wif wev wne wsu wnx p1).bind fun (u1 : (Int32 × Int32 × Int32 × Int32 × (Nat → Int32) × (Nat → Int32) × (Nat → Int32) × (Nat → Int64) × (Nat → Int64))) => (if u1.1 = 0 then some ((-1 : Int32), u1.2.1, u1.2.2.1, u1.2.2.2.1, u1.2.2.2.2.1, u1.2.2.2.2.2.1, u1.2.2.2.2.2.2.1, u1.2.2.2.2.2.2.2.1, u1.2.2.2.2.2.2.2.2) else (fX6_isRoom wwd wmn u1.2.1 u1.2.2.1 u1.2.2.2.1 wwl u1.2.2.2.2.1 u1.2.2.2.2.2.1 u1.2.2.2.2.2.2.1 u1.2.2.2.2.2.2.2.1 u1.2.2.2.2.2.2.2.2 p2).bind fun (u4 : (Int32 × Int32 × Int32 × Int32 × (Nat → Int32) × (Nat → Int32) × (Nat → Int32) × (Nat → Int64) × (Nat → Int64))) => (if u4.1 = 0 then some ((-1 : Int32), u4.2.1, u4.2.2.1, u4.2.2.2.1, u4.2.2.2.2.1, u4.2.2.2.2.2.1, u4.2.2.2.2.2.2.1, u4.2.2.2.2.2.2.2.1, u4.2.2.2.2.2.2.2.2) else (fX6_parted wmn p1 p2).bind fun (u7 : Int32) => (fX6_walls wwd wmn u4.2.1 u4.2.2.1 u4.2.2.2.1 wwl u4.2.2.2.2.1 u4.2.2.2.2.2.1 u4.2.2.2.2.2.2.1 u4.2.2.2.2.2.2.2.1 u4.2.2.2.2.2.2.2.2 p1).bind fun (u9 : (Int32 × Int32 × Int32 × Int32 × (Nat → Int32) × (Nat → Int32) × (Nat → Int32) × (Nat → Int64) × (Nat → Int64))) => (lp_ (fun (st : Int32) => fX6_step_L34 wmn u7 u9 st) fu_ (0 : Int32)).bind fun (u12 : (Int32 ⊕ (Int32 × Int32 × Int32 × Int32 × (Nat → Int32) × (Nat → Int32) × (Nat → Int32) × (Nat → Int64) × (Nat → Int64)))) => Sum.elim (fun (x16 : Int32) => some ((-1 : Int32), u9.2.1, u9.2.2.1, u9.2.2.2.1, u9.2.2.2.2.1, u9.2.2.2.2.2.1, u9.2.2.2.2.2.2.1, u9.2.2.2.2.2.2.2.1, u9.2.2.2.2.2.2.2.2)) (fun y => some y) u12))
def fX6_far_L28 (v1 : Int32) (wwd : Int32) (wmn : Int32) (wwl : (Nat → Int32)) (v24 : Int32) (v25 : Int32) (v26 : Int32) (v27 : Int32) (v28 : Int32) (v29 : (Nat → Int32)) (v30 : (Nat → Int32)) (v31 : (Nat → Int32)) (v32 : (Nat → Int64)) (v33 : (Nat → Int64)) : Option ((Int32 × Int32 × Int32 × Int32 × Int32 × (Nat → Int32) × (Nat → Int32) × (Nat → Int32) × (Nat → Int64) × (Nat → Int64)) ⊕ (Int32 × Int32 × Int32 × Int32 × Int32 × (Nat → Int32) × (Nat → Int32) × (Nat → Int32) × (Nat → Int64) × (Nat → Int64))) :=
  (if v1 ≤ v24 then some (.inr (v24, v25, v26, v27, v28, v29, v30, v31, v32, v33)) else (fX6_isRoom wwd wmn v26 v27 v28 wwl v29 v30 v31 v32 v33 v24).bind fun (u42 : (Int32 × Int32 × Int32 × Int32 × (Nat → Int32) × (Nat → Int32) × (Nat → Int32) × (Nat → Int64) × (Nat → Int64))) => (if u42.1 = 0 then some (.inl ((v24 + (1 : Int32)), v25, u42.2.1, u42.2.2.1, u42.2.2.2.1, u42.2.2.2.2.1, u42.2.2.2.2.2.1, u42.2.2.2.2.2.2.1, u42.2.2.2.2.2.2.2.1, u42.2.2.2.2.2.2.2.2)) else (fX6_parted wmn v1 v24).bind fun (u45 : Int32) => (fX6_bits u45).bind fun (u47 : Int32) => (if u47 ≤ v25 then some (.inl ((v24 + (1 : Int32)), v25, u42.2.1, u42.2.2.1, u42.2.2.2.1, u42.2.2.2.2.1, u42.2.2.2.2.2.1, u42.2.2.2.2.2.2.1, u42.2.2.2.2.2.2.2.1, u42.2.2.2.2.2.2.2.2)) else some (.inl ((v24 + (1 : Int32)), u47, u42.2.1, u42.2.2.1, u42.2.2.2.1, u42.2.2.2.2.1, u42.2.2.2.2.2.1, u42.2.2.2.2.2.2.1, u42.2.2.2.2.2.2.2.1, u42.2.2.2.2.2.2.2.2)))))
def fX6_far_L4 (wmn : Int32) (wwd : Int32) (wwl : (Nat → Int32)) (v1 : Int32) (v2 : Int32) (v3 : Int32) (v4 : Int32) (v5 : Int32) (v6 : (Nat → Int32)) (v7 : (Nat → Int32)) (v8 : (Nat → Int32)) (v9 : (Nat → Int64)) (v10 : (Nat → Int64)) : Option ((Int32 × Int32 × Int32 × Int32 × Int32 × (Nat → Int32) × (Nat → Int32) × (Nat → Int32) × (Nat → Int64) × (Nat → Int64)) ⊕ (Int32 × Int32 × Int32 × Int32 × Int32 × (Nat → Int32) × (Nat → Int32) × (Nat → Int32) × (Nat → Int64) × (Nat → Int64))) :=
  (fX6_power wmn).bind fun (u18 : Int32) => (if u18 ≤ v1 then some (.inr (v1, v2, v3, v4, v5, v6, v7, v8, v9, v10)) else (fX6_isRoom wwd wmn v3 v4 v5 wwl v6 v7 v8 v9 v10 v1).bind fun (u21 : (Int32 × Int32 × Int32 × Int32 × (Nat → Int32) × (Nat → Int32) × (Nat → Int32) × (Nat → Int64) × (Nat → Int64))) => (if u21.1 = 0 then some (.inl ((v1 + (1 : Int32)), v2, u21.2.1, u21.2.2.1, u21.2.2.2.1, u21.2.2.2.2.1, u21.2.2.2.2.2.1, u21.2.2.2.2.2.2.1, u21.2.2.2.2.2.2.2.1, u21.2.2.2.2.2.2.2.2)) else (lp_ (fun (st : (Int32 × Int32 × Int32 × Int32 × Int32 × (Nat → Int32) × (Nat → Int32) × (Nat → Int32) × (Nat → Int64) × (Nat → Int64))) => fX6_far_L28 v1 wwd wmn wwl st.1 st.2.1 st.2.2.1 st.2.2.2.1 st.2.2.2.2.1 st.2.2.2.2.2.1 st.2.2.2.2.2.2.1 st.2.2.2.2.2.2.2.1 st.2.2.2.2.2.2.2.2.1 st.2.2.2.2.2.2.2.2.2) fu_ ((0 : Int32), v2, u21.2.1, u21.2.2.1, u21.2.2.2.1, u21.2.2.2.2.1, u21.2.2.2.2.2.1, u21.2.2.2.2.2.2.1, u21.2.2.2.2.2.2.2.1, u21.2.2.2.2.2.2.2.2)).bind fun (u34 : (Int32 × Int32 × Int32 × Int32 × Int32 × (Nat → Int32) × (Nat → Int32) × (Nat → Int32) × (Nat → Int64) × (Nat → Int64))) => some (.inl ((v1 + (1 : Int32)), u34.2.1, u34.2.2.1, u34.2.2.2.1, u34.2.2.2.2.1, u34.2.2.2.2.2.1, u34.2.2.2.2.2.2.1, u34.2.2.2.2.2.2.2.1, u34.2.2.2.2.2.2.2.2.1, u34.2.2.2.2.2.2.2.2.2))))
def fX6_far (wwd : Int32) (wmn : Int32) (wod : Int32) (wsm : Int32) (wnm : Int32) (wwl : (Nat → Int32)) (wif : (Nat → Int32)) (wev : (Nat → Int32)) (wne : (Nat → Int32)) (wsu : (Nat → Int64)) (wnx : (Nat → Int64)) : Option (Int32 × Int32 × Int32 × Int32 × (Nat → Int32) × (Nat → Int32) × (Nat → Int32) × (Nat → Int64) × (Nat → Int64)) :=
  (lp_ (fun (st : (Int32 × Int32 × Int32 × Int32 × Int32 × (Nat → Int32) × (Nat → Int32) × (Nat → Int32) × (Nat → Int64) × (Nat → Int64))) => fX6_far_L4 wmn wwd wwl st.1 st.2.1 st.2.2.1 st.2.2.2.1 st.2.2.2.2.1 st.2.2.2.2.2.1 st.2.2.2.2.2.2.1 st.2.2.2.2.2.2.2.1 st.2.2.2.2.2.2.2.2.1 st.2.2.2.2.2.2.2.2.2) fu_ ((0 : Int32), (0 : Int32), wod, wsm, wnm, wif, wev, wne, wsu, wnx)).bind fun (u11 : (Int32 × Int32 × Int32 × Int32 × Int32 × (Nat → Int32) × (Nat → Int32) × (Nat → Int32) × (Nat → Int64) × (Nat → Int64))) => some (u11.2.1, u11.2.2.1, u11.2.2.2.1, u11.2.2.2.2.1, u11.2.2.2.2.2.1, u11.2.2.2.2.2.2.1, u11.2.2.2.2.2.2.2.1, u11.2.2.2.2.2.2.2.2.1, u11.2.2.2.2.2.2.2.2.2)
def fX6_left_L104 (wmn : Int32) (wwl : (Nat → Int32)) (p1 : Int32) (v14 : Int32) (v29 : Int32) (v30 : Int32) : Option ((Int32 × Int32) ⊕ (Int32 × Int32)) :=
  (if wmn ≤ v29 then some (.inr (v29, v30)) else (if v30 = 0 then some (.inr (v29, v30)) else (fX6_at wwl v29 (0 : Int32)).bind fun (u41 : Int32) => (fX6_at wwl v29 (1 : Int32)).bind fun (u43 : Int32) => (fX6_at wwl v29 (2 : Int32)).bind fun (u45 : Int32) => (fX6_at wwl v29 (3 : Int32)).bind fun (u47 : Int32) => ck_ (¬ p1 = 0) ((if (((((u41 * (v14 - v14 / p1 * p1)) + (u43 * ((v14 / p1) - (v14 / p1) / p1 * p1))) + (u45 * ((v14 / p1) / p1))) - u47) - ((((u41 * (v14 - v14 / p1 * p1)) + (u43 * ((v14 / p1) - (v14 / p1) / p1 * p1))) + (u45 * ((v14 / p1) / p1))) - u47) / p1 * p1) = 0 then some (.inl ((v29 + (1 : Int32)), (0 : Int32))) else some (.inl ((v29 + (1 : Int32)), (1 : Int32)))))))
def fX6_left_L70 (u11 : Int32) (p1 : Int32) (wmn : Int32) (wwl : (Nat → Int32)) (v14 : Int32) (v15 : Int32) : Option ((Int32 × Int32) ⊕ (Int32 × Int32)) :=
  (if u11 ≤ v14 then some (.inr (v14, v15)) else ck_ (¬ p1 = 0) (ck_ (¬ p1 = 0) (ck_ (¬ p1 = 0) (ck_ (¬ p1 = 0) (ck_ (¬ p1 = 0) ((lp_ (fun (st : (Int32 × Int32)) => fX6_left_L104 wmn wwl p1 v14 st.1 st.2) fu_ ((0 : Int32), (1 : Int32))).bind fun (u31 : (Int32 × Int32)) => (if u31.2 = 0 then some (.inl ((v14 + (1 : Int32)), (v15 + (0 : Int32)))) else some (.inl ((v14 + (1 : Int32)), (v15 + (1 : Int32)))))))))))
def fX6_left_L14 (p1 : Int32) (v4 : Int32) : Option (Int32 ⊕ (Int32 ⊕ Int32)) :=
  (if p1 ≤ v4 then some (.inr (.inl v4)) else ck_ (¬ v4 = 0) ((if (p1 - p1 / v4 * v4) = 0 then some (.inr (.inr (-1 : Int32))) else some (.inl (v4 + (1 : Int32))))))
def fX6_left (wwd : Int32) (wmn : Int32) (wwl : (Nat → Int32)) (p1 : Int32) : Option Int32 :=
  (fX6_in p1 (2 : Int32) (31 : Int32)).bind fun (u1 : Int32) => (if u1 = 0 then some (-1 : Int32) else (lp_ (fun (st : Int32) => fX6_left_L14 p1 st) fu_ (2 : Int32)).bind fun (u5 : (Int32 ⊕ Int32)) => Sum.elim (fun (x9 : Int32) => ((if wwd = (1 : Int32) then some p1 else (if wwd = (2 : Int32) then some (p1 * p1) else some ((p1 * p1) * p1)))).bind fun (u11 : Int32) => (lp_ (fun (st : (Int32 × Int32)) => fX6_left_L70 u11 p1 wmn wwl st.1 st.2) fu_ ((0 : Int32), (0 : Int32))).bind fun (u16 : (Int32 × Int32)) => some u16.2) (fun y => some y) u5)
def fX6_count_L48 (wmn : Int32) (wwd : Int32) (wwl : (Nat → Int32)) (v4 : Int32) (v5 : Int32) (v6 : Int32) (v7 : Int32) (v8 : Int32) (v9 : (Nat → Int32)) (v10 : (Nat → Int32)) (v11 : (Nat → Int32)) (v12 : (Nat → Int64)) (v13 : (Nat → Int64)) : Option ((Int32 × Int32 × Int32 × Int32 × Int32 × (Nat → Int32) × (Nat → Int32) × (Nat → Int32) × (Nat → Int64) × (Nat → Int64)) ⊕ (Int32 × Int32 × Int32 × Int32 × Int32 × (Nat → Int32) × (Nat → Int32) × (Nat → Int32) × (Nat → Int64) × (Nat → Int64))) :=
  (fX6_power wmn).bind fun (u21 : Int32) => (if u21 ≤ v4 then some (.inr (v4, v5, v6, v7, v8, v9, v10, v11, v12, v13)) else (fX6_isRoom wwd wmn v6 v7 v8 wwl v9 v10 v11 v12 v13 v4).bind fun (u24 : (Int32 × Int32 × Int32 × Int32 × (Nat → Int32) × (Nat → Int32) × (Nat → Int32) × (Nat → Int64) × (Nat → Int64))) => (if u24.1 = 0 then some (.inl ((v4 + (1 : Int32)), (v5 + (0 : Int32)), u24.2.1, u24.2.2.1, u24.2.2.2.1, u24.2.2.2.2.1, u24.2.2.2.2.2.1, u24.2.2.2.2.2.2.1, u24.2.2.2.2.2.2.2.1, u24.2.2.2.2.2.2.2.2)) else some (.inl ((v4 + (1 : Int32)), (v5 + (1 : Int32)), u24.2.1, u24.2.2.1, u24.2.2.2.1, u24.2.2.2.2.1, u24.2.2.2.2.2.1, u24.2.2.2.2.2.2.1, u24.2.2.2.2.2.2.2.1, u24.2.2.2.2.2.2.2.2))))
def fX6_count_L85 (wmn : Int32) (wwd : Int32) (wwl : (Nat → Int32)) (v28 : Int32) (v29 : Int32) (v30 : Int32) (v31 : Int32) (v32 : Int32) (v33 : (Nat → Int32)) (v34 : (Nat → Int32)) (v35 : (Nat → Int32)) (v36 : (Nat → Int64)) (v37 : (Nat → Int64)) : Option ((Int32 × Int32 × Int32 × Int32 × Int32 × (Nat → Int32) × (Nat → Int32) × (Nat → Int32) × (Nat → Int64) × (Nat → Int64)) ⊕ (Int32 × Int32 × Int32 × Int32 × Int32 × (Nat → Int32) × (Nat → Int32) × (Nat → Int32) × (Nat → Int64) × (Nat → Int64))) :=
  (fX6_power wmn).bind fun (u45 : Int32) => (if u45 ≤ v28 then some (.inr (v28, v29, v30, v31, v32, v33, v34, v35, v36, v37)) else (fX6_isFace wwd wmn v30 v31 v32 wwl v33 v34 v35 v36 v37 v28).bind fun (u48 : (Int32 × Int32 × Int32 × Int32 × (Nat → Int32) × (Nat → Int32) × (Nat → Int32) × (Nat → Int64) × (Nat → Int64))) => (if u48.1 = 0 then some (.inl ((v28 + (1 : Int32)), (v29 + (0 : Int32)), u48.2.1, u48.2.2.1, u48.2.2.2.1, u48.2.2.2.2.1, u48.2.2.2.2.2.1, u48.2.2.2.2.2.2.1, u48.2.2.2.2.2.2.2.1, u48.2.2.2.2.2.2.2.2)) else some (.inl ((v28 + (1 : Int32)), (v29 + (1 : Int32)), u48.2.1, u48.2.2.1, u48.2.2.2.1, u48.2.2.2.2.1, u48.2.2.2.2.2.1, u48.2.2.2.2.2.2.1, u48.2.2.2.2.2.2.2.1, u48.2.2.2.2.2.2.2.2))))
def fX6_count (wwd : Int32) (wmn : Int32) (wod : Int32) (wsm : Int32) (wnm : Int32) (wwl : (Nat → Int32)) (wif : (Nat → Int32)) (wev : (Nat → Int32)) (wne : (Nat → Int32)) (wsu : (Nat → Int64)) (wnx : (Nat → Int64)) (wta : (Nat → Int64)) (p1 : Int32) : Option (Int32 × Int32 × Int32 × Int32 × (Nat → Int32) × (Nat → Int32) × (Nat → Int32) × (Nat → Int64) × (Nat → Int64) × (Nat → Int64)) :=
  (if p1 = (0 : Int32) then some (wwd, wod, wsm, wnm, wif, wev, wne, wsu, wnx, wta) else (if p1 = (1 : Int32) then some (wmn, wod, wsm, wnm, wif, wev, wne, wsu, wnx, wta) else (if p1 = (2 : Int32) then (lp_ (fun (st : (Int32 × Int32 × Int32 × Int32 × Int32 × (Nat → Int32) × (Nat → Int32) × (Nat → Int32) × (Nat → Int64) × (Nat → Int64))) => fX6_count_L48 wmn wwd wwl st.1 st.2.1 st.2.2.1 st.2.2.2.1 st.2.2.2.2.1 st.2.2.2.2.2.1 st.2.2.2.2.2.2.1 st.2.2.2.2.2.2.2.1 st.2.2.2.2.2.2.2.2.1 st.2.2.2.2.2.2.2.2.2) fu_ ((0 : Int32), (0 : Int32), wod, wsm, wnm, wif, wev, wne, wsu, wnx)).bind fun (u14 : (Int32 × Int32 × Int32 × Int32 × Int32 × (Nat → Int32) × (Nat → Int32) × (Nat → Int32) × (Nat → Int64) × (Nat → Int64))) => some (u14.2.1, u14.2.2.1, u14.2.2.2.1, u14.2.2.2.2.1, u14.2.2.2.2.2.1, u14.2.2.2.2.2.2.1, u14.2.2.2.2.2.2.2.1, u14.2.2.2.2.2.2.2.2.1, u14.2.2.2.2.2.2.2.2.2, wta) else (if p1 = (3 : Int32) then (lp_ (fun (st : (Int32 × Int32 × Int32 × Int32 × Int32 × (Nat → Int32) × (Nat → Int32) × (Nat → Int32) × (Nat → Int64) × (Nat → Int64))) => fX6_count_L85 wmn wwd wwl st.1 st.2.1 st.2.2.1 st.2.2.2.1 st.2.2.2.2.1 st.2.2.2.2.2.1 st.2.2.2.2.2.2.1 st.2.2.2.2.2.2.2.1 st.2.2.2.2.2.2.2.2.1 st.2.2.2.2.2.2.2.2.2) fu_ ((0 : Int32), (0 : Int32), wod, wsm, wnm, wif, wev, wne, wsu, wnx)).bind fun (u38 : (Int32 × Int32 × Int32 × Int32 × Int32 × (Nat → Int32) × (Nat → Int32) × (Nat → Int32) × (Nat → Int64) × (Nat → Int64))) => some (u38.2.1, u38.2.2.1, u38.2.2.2.1, u38.2.2.2.2.1, u38.2.2.2.2.2.1, u38.2.2.2.2.2.2.1, u38.2.2.2.2.2.2.2.1, u38.2.2.2.2.2.2.2.2.1, u38.2.2.2.2.2.2.2.2.2, wta) else (if p1 = (4 : Int32) then (fX6_rank wmn wwl wta (((1 : Int32) <<< (wmn &&& 31)) - (1 : Int32)) (3 : Int32)).bind fun (u52 : (Int32 × (Nat → Int64))) => some (u52.1, wod, wsm, wnm, wif, wev, wne, wsu, wnx, u52.2) else some ((-1 : Int32), wod, wsm, wnm, wif, wev, wne, wsu, wnx, wta))))))
def fX6_isSame_L35 (wwl : (Nat → Int32)) (p1 : Int32) (v6 : Int32) (tf5 : (Nat → Int32)) (v17 : Int32) : Option (Int32 ⊕ (Int32 ⊕ Int32)) :=
  (if (4 : Int32) ≤ v17 then some (.inr (.inl v17)) else (fX6_at wwl p1 v6).bind fun (u28 : Int32) => ck_ (in_R v17 4) ((fX6_at wwl p1 v17).bind fun (u31 : Int32) => ck_ (in_R v6 4) ((if (u28 * (tf5 v17.toNatClampNeg)) = (u31 * (tf5 v6.toNatClampNeg)) then some (.inl (v17 + (1 : Int32))) else some (.inr (.inr (0 : Int32)))))))
def fX6_isSame_L26 (wwl : (Nat → Int32)) (p1 : Int32) (tf5 : (Nat → Int32)) (v6 : Int32) : Option (Int32 ⊕ (Int32 ⊕ Int32)) :=
  (if (4 : Int32) ≤ v6 then some (.inr (.inl v6)) else (lp_ (fun (st : Int32) => fX6_isSame_L35 wwl p1 v6 tf5 st) fu_ (0 : Int32)).bind fun (u18 : (Int32 ⊕ Int32)) => Sum.elim (fun (x22 : Int32) => some (.inl (v6 + (1 : Int32)))) (fun y => some (.inr (.inr y))) u18)
def fX6_isSame (wwl : (Nat → Int32)) (p1 : Int32) (p2 : Int32) (p3 : Int32) (p4 : Int32) (p5 : Int32) : Option Int32 :=
  ck_ (in_R (0 : Int32) 4) (ck_ (in_R (1 : Int32) 4) (ck_ (in_R (2 : Int32) 4) (ck_ (in_R (3 : Int32) 4) (nm_ (upd (upd (upd (upd (fun (_ : Nat) => (0 : Int32)) (0 : Int32).toNatClampNeg p2) (1 : Int32).toNatClampNeg p3) (2 : Int32).toNatClampNeg p4) (3 : Int32).toNatClampNeg p5) (fun (tf5 : (Nat → Int32)) => (lp_ (fun (st : Int32) => fX6_isSame_L26 wwl p1 tf5 st) fu_ (0 : Int32)).bind fun (u7 : (Int32 ⊕ Int32)) => Sum.elim (fun (x11 : Int32) => some (1 : Int32)) (fun y => some y) u7)))))
def fX6_row_L79 (wmn : Int32) (wwl : (Nat → Int32)) (tf10 : (Nat → Int32)) (v18 : Int32) (v19 : Int32) : Option ((Int32 × Int32) ⊕ (Int32 × Int32)) :=
  (if wmn ≤ v18 then some (.inr (v18, v19)) else (fX6_at wwl v18 (0 : Int32)).bind fun (u28 : Int32) => ck_ (in_R (0 : Int32) 3) ((fX6_at wwl v18 (1 : Int32)).bind fun (u31 : Int32) => ck_ (in_R (1 : Int32) 3) ((fX6_at wwl v18 (2 : Int32)).bind fun (u34 : Int32) => ck_ (in_R (2 : Int32) 3) (nm_ (((u28 * (tf10 (0 : Int32).toNatClampNeg)) + (u31 * (tf10 (1 : Int32).toNatClampNeg))) + (u34 * (tf10 (2 : Int32).toNatClampNeg))) (fun (n37 : Int32) => (fX6_power v18).bind fun (u38 : Int32) => (fX6_at wwl v18 (3 : Int32)).bind fun (u40 : Int32) => (if u40 ≤ n37 then (fX6_at wwl v18 (3 : Int32)).bind fun (u43 : Int32) => (if n37 = u43 then some (.inl ((v18 + (1 : Int32)), (v19 + (u38 * (1 : Int32))))) else some (.inl ((v18 + (1 : Int32)), (v19 + (u38 * (2 : Int32)))))) else some (.inl ((v18 + (1 : Int32)), (v19 + (u38 * (0 : Int32)))))))))))
def fX6_row_L44 (tf10 : (Nat → Int32)) (v11 : Int32) : Option (Int32 ⊕ (Int32 ⊕ Int32)) :=
  (if (3 : Int32) ≤ v11 then some (.inr (.inl v11)) else ck_ (in_R v11 3) ((fX6_in (tf10 v11.toNatClampNeg) (-1000000 : Int32) (1000000 : Int32)).bind fun (u51 : Int32) => (if u51 = 0 then some (.inr (.inr (-1 : Int32))) else some (.inl (v11 + (1 : Int32))))))
def fX6_row (wwd : Int32) (wmn : Int32) (wwl : (Nat → Int32)) (p1 : Int32) (p2 : Int32) (p3 : Int32) : Option Int32 :=
  ck_ (in_R (0 : Int32) 3) (((if wwd ≤ (1 : Int32) then some (0 : Int32) else some p2)).bind fun (u2 : Int32) => ck_ (in_R (1 : Int32) 3) (((if wwd ≤ (2 : Int32) then some (0 : Int32) else some p3)).bind fun (u6 : Int32) => ck_ (in_R (2 : Int32) 3) (nm_ (upd (upd (upd (fun (_ : Nat) => (0 : Int32)) (0 : Int32).toNatClampNeg p1) (1 : Int32).toNatClampNeg u2) (2 : Int32).toNatClampNeg u6) (fun (tf10 : (Nat → Int32)) => (lp_ (fun (st : Int32) => fX6_row_L44 tf10 st) fu_ (0 : Int32)).bind fun (u12 : (Int32 ⊕ Int32)) => Sum.elim (fun (x16 : Int32) => (lp_ (fun (st : (Int32 × Int32)) => fX6_row_L79 wmn wwl tf10 st.1 st.2) fu_ ((0 : Int32), (0 : Int32))).bind fun (u20 : (Int32 × Int32)) => some u20.2) (fun y => some y) u12))))
def fX6_face_L23 (wmn : Int32) (wwd : Int32) (wwl : (Nat → Int32)) (p1 : Int32) (v5 : Int32) (v6 : Int32) (v7 : Int32) (v8 : Int32) (v9 : Int32) (v10 : (Nat → Int32)) (v11 : (Nat → Int32)) (v12 : (Nat → Int32)) (v13 : (Nat → Int64)) (v14 : (Nat → Int64)) (v15 : (Nat → Int64)) : Option ((Int32 × Int32 × Int32 × Int32 × Int32 × (Nat → Int32) × (Nat → Int32) × (Nat → Int32) × (Nat → Int64) × (Nat → Int64) × (Nat → Int64)) ⊕ ((Int32 × Int32 × Int32 × Int32 × Int32 × (Nat → Int32) × (Nat → Int32) × (Nat → Int32) × (Nat → Int64) × (Nat → Int64) × (Nat → Int64)) ⊕ (Int32 × Int32 × Int32 × Int32 × (Nat → Int32) × (Nat → Int32) × (Nat → Int32) × (Nat → Int64) × (Nat → Int64) × (Nat → Int64)))) :=
  (fX6_power wmn).bind fun (u25 : Int32) => (if u25 ≤ v5 then some (.inr (.inl (v5, v6, v7, v8, v9, v10, v11, v12, v13, v14, v15))) else (fX6_width wwd wmn v7 v8 v9 wwl v10 v11 v12 v13 v14 v15 v5).bind fun (u28 : (Int32 × Int32 × Int32 × Int32 × (Nat → Int32) × (Nat → Int32) × (Nat → Int32) × (Nat → Int64) × (Nat → Int64) × (Nat → Int64))) => (if u28.1 = p1 then (if v6 = 0 then some (.inr (.inr (v5, u28.2.1, u28.2.2.1, u28.2.2.2.1, u28.2.2.2.2.1, u28.2.2.2.2.2.1, u28.2.2.2.2.2.2.1, u28.2.2.2.2.2.2.2.1, u28.2.2.2.2.2.2.2.2.1, u28.2.2.2.2.2.2.2.2.2))) else some (.inl ((v5 + (1 : Int32)), (v6 + (-1 : Int32)), u28.2.1, u28.2.2.1, u28.2.2.2.1, u28.2.2.2.2.1, u28.2.2.2.2.2.1, u28.2.2.2.2.2.2.1, u28.2.2.2.2.2.2.2.1, u28.2.2.2.2.2.2.2.2.1, u28.2.2.2.2.2.2.2.2.2))) else some (.inl ((v5 + (1 : Int32)), v6, u28.2.1, u28.2.2.1, u28.2.2.2.1, u28.2.2.2.2.1, u28.2.2.2.2.2.1, u28.2.2.2.2.2.2.1, u28.2.2.2.2.2.2.2.1, u28.2.2.2.2.2.2.2.2.1, u28.2.2.2.2.2.2.2.2.2))))
def fX6_face (wwd : Int32) (wmn : Int32) (wod : Int32) (wsm : Int32) (wnm : Int32) (wwl : (Nat → Int32)) (wif : (Nat → Int32)) (wev : (Nat → Int32)) (wne : (Nat → Int32)) (wsu : (Nat → Int64)) (wnx : (Nat → Int64)) (wta : (Nat → Int64)) (p1 : Int32) (p2 : Int32) : Option (Int32 × Int32 × Int32 × Int32 × (Nat → Int32) × (Nat → Int32) × (Nat → Int32) × (Nat → Int64) × (Nat → Int64) × (Nat → Int64)) :=
  (fX6_in p1 (0 : Int32) wwd).bind fun (u1 : Int32) => (if u1 = 0 then some ((-1 : Int32), wod, wsm, wnm, wif, wev, wne, wsu, wnx, wta) else (if 0 ≤ p2 then (lp_ (fun (st : (Int32 × Int32 × Int32 × Int32 × Int32 × (Nat → Int32) × (Nat → Int32) × (Nat → Int32) × (Nat → Int64) × (Nat → Int64) × (Nat → Int64))) => fX6_face_L23 wmn wwd wwl p1 st.1 st.2.1 st.2.2.1 st.2.2.2.1 st.2.2.2.2.1 st.2.2.2.2.2.1 st.2.2.2.2.2.2.1 st.2.2.2.2.2.2.2.1 st.2.2.2.2.2.2.2.2.1 st.2.2.2.2.2.2.2.2.2.1 st.2.2.2.2.2.2.2.2.2.2) fu_ ((0 : Int32), p2, wod, wsm, wnm, wif, wev, wne, wsu, wnx, wta)).bind fun (u16 : ((Int32 × Int32 × Int32 × Int32 × Int32 × (Nat → Int32) × (Nat → Int32) × (Nat → Int32) × (Nat → Int64) × (Nat → Int64) × (Nat → Int64)) ⊕ (Int32 × Int32 × Int32 × Int32 × (Nat → Int32) × (Nat → Int32) × (Nat → Int32) × (Nat → Int64) × (Nat → Int64) × (Nat → Int64)))) => Sum.elim (fun (x20 : (Int32 × Int32 × Int32 × Int32 × Int32 × (Nat → Int32) × (Nat → Int32) × (Nat → Int32) × (Nat → Int64) × (Nat → Int64) × (Nat → Int64))) => some ((-1 : Int32), x20.2.2.1, x20.2.2.2.1, x20.2.2.2.2.1, x20.2.2.2.2.2.1, x20.2.2.2.2.2.2.1, x20.2.2.2.2.2.2.2.1, x20.2.2.2.2.2.2.2.2.1, x20.2.2.2.2.2.2.2.2.2.1, x20.2.2.2.2.2.2.2.2.2.2)) (fun y => some y) u16 else some ((-1 : Int32), wod, wsm, wnm, wif, wev, wne, wsu, wnx, wta)))
end
section
/-! numbers of the machine, and loops of the functions -/
theorem lp_all {σ ρ : Type} {body : σ → Option (σ ⊕ ρ)} (I : Nat → σ → Prop) (Q : ρ → Prop) (N : Nat)
    (hstep : ∀ k s, k < N → I k s → (∃ s', body s = some (.inl s') ∧ I (k + 1) s') ∨ ∃ r, body s = some (.inr r) ∧ Q r)
    (hend : ∀ s, I N s → ∃ r, body s = some (.inr r) ∧ Q r) : ∀ (n k : Nat) (s : σ), k ≤ N → N - k < n → I k s → ∃ r, lp_ body n s = some r ∧ Q r := by
  intro n
  induction n with
  | zero => intro k s _ h; omega
  | succ n ih =>
    intro k s hk hn hI
    have leave : (∃ r, body s = some (.inr r) ∧ Q r) → ∃ r, lp_ body (n + 1) s = some r ∧ Q r := by
      rintro ⟨r, h1, h2⟩
      refine ⟨r, ?_, h2⟩
      show (body s).bind _ = some r
      rw [h1]; rfl
    rcases Nat.lt_or_ge k N with hlt | hge
    · rcases hstep k s hlt hI with ⟨s', h1, h2⟩ | h
      · obtain ⟨r, h3, h4⟩ := ih (k + 1) s' hlt (by omega) h2
        refine ⟨r, ?_, h4⟩
        show (body s).bind _ = some r
        rw [h1]; exact h3
      · exact leave h
    · have : k = N := by omega
      subst this
      exact leave (hend s hI)
theorem lp_for {σ ρ : Type} {body : σ → Option (σ ⊕ ρ)} (I : Nat → σ → Prop) (Q : ρ → Prop) (N : Nat) (hN : N < 1000000000) {s : σ} (h0 : I 0 s)
    (hstep : ∀ k s, k < N → I k s → (∃ s', body s = some (.inl s') ∧ I (k + 1) s') ∨ ∃ r, body s = some (.inr r) ∧ Q r)
    (hend : ∀ s, I N s → ∃ r, body s = some (.inr r) ∧ Q r) : ∃ r, lp_ body fu_ s = some r ∧ Q r :=
  lp_all I Q N hstep hend fu_ 0 s (Nat.zero_le _) (by unfold fu_; omega) h0
/-- a loop whose states are known one by one -/
theorem lp_seq {σ ρ : Type} {body : σ → Option (σ ⊕ ρ)} (st : Nat → σ) (N : Nat) (hN : N < 1000000000) {r : ρ}
    (hstep : ∀ k, k < N → body (st k) = some (.inl (st (k + 1)))) (hend : body (st N) = some (.inr r)) : lp_ body fu_ (st 0) = some r := by
  obtain ⟨r', h1, h2⟩ := lp_for (body := body) (fun k s => s = st k) (fun x => x = r) N hN (s := st 0) rfl
    (fun k s hk hs => Or.inl ⟨st (k + 1), by rw [hs]; exact hstep k hk, rfl⟩) (fun s hs => ⟨r, by rw [hs]; exact hend, rfl⟩)
  rw [h1, h2]
theorem ck_yes {α : Type} {c : Prop} [Decidable c] {k : Option α} (h : c) : ck_ c k = k := by unfold ck_; exact if_pos h
theorem in_R_nI {k n : Nat} (h : k < n) (hn : n < 2 ^ 31) : in_R (nI k) n := vp_in_nI h hn
theorem bind_yes {α β : Type} {o : Option α} {a : α} {k : α → Option β} (h : o = some a) : o.bind k = k a := by rw [h]; rfl
def sm_ (z : Int) : Prop := -2147483648 ≤ z ∧ z < 2147483648
def iI_ (z : Int) : Int32 := Int32.ofInt z
theorem iI_toInt {z : Int} (h : sm_ z) : (iI_ z).toInt = z := Int32.toInt_ofInt_of_le h.1 h.2
theorem iI_of (x : Int32) : iI_ x.toInt = x := Int32.ofInt_toInt x
theorem iI_add (a b : Int) : iI_ a + iI_ b = iI_ (a + b) := (Int32.ofInt_add a b).symm
theorem iI_sub (a b : Int) : iI_ a - iI_ b = iI_ (a - b) := (Int32.ofInt_sub a b).symm
theorem iI_mul (a b : Int) : iI_ a * iI_ b = iI_ (a * b) := (Int32.ofInt_mul a b).symm
theorem iI_neg (a : Int) : - iI_ a = iI_ (- a) := (Int32.ofInt_neg a).symm
theorem iI_nat (n : Nat) : iI_ (n : Int) = nI n := Int32.ofInt_eq_ofNat
theorem iI_lt {a b : Int} (ha : sm_ a) (hb : sm_ b) : iI_ a < iI_ b ↔ a < b := by rw [Int32.lt_iff_toInt_lt, iI_toInt ha, iI_toInt hb]
theorem iI_le {a b : Int} (ha : sm_ a) (hb : sm_ b) : iI_ a ≤ iI_ b ↔ a ≤ b := by rw [Int32.le_iff_toInt_le, iI_toInt ha, iI_toInt hb]
theorem iI_eq {a b : Int} (ha : sm_ a) (hb : sm_ b) : iI_ a = iI_ b ↔ a = b := ⟨fun h => by rw [← iI_toInt ha, ← iI_toInt hb, h], fun h => by rw [h]⟩
theorem iI_0 : (0 : Int32) = iI_ 0 := rfl
theorem iI_1 : (1 : Int32) = iI_ 1 := rfl
def sl_ (z : Int) : Prop := -9223372036854775808 ≤ z ∧ z < 9223372036854775808
def iL_ (z : Int) : Int64 := Int64.ofInt z
theorem iL_toInt {z : Int} (h : sl_ z) : (iL_ z).toInt = z := Int64.toInt_ofInt_of_le h.1 h.2
theorem iL_add (a b : Int) : iL_ a + iL_ b = iL_ (a + b) := (Int64.ofInt_add a b).symm
theorem iL_sub (a b : Int) : iL_ a - iL_ b = iL_ (a - b) := (Int64.ofInt_sub a b).symm
theorem iL_mul (a b : Int) : iL_ a * iL_ b = iL_ (a * b) := (Int64.ofInt_mul a b).symm
theorem iL_neg (a : Int) : - iL_ a = iL_ (- a) := (Int64.ofInt_neg a).symm
theorem iL_lt {a b : Int} (ha : sl_ a) (hb : sl_ b) : iL_ a < iL_ b ↔ a < b := by rw [Int64.lt_iff_toInt_lt, iL_toInt ha, iL_toInt hb]
theorem iL_le {a b : Int} (ha : sl_ a) (hb : sl_ b) : iL_ a ≤ iL_ b ↔ a ≤ b := by rw [Int64.le_iff_toInt_le, iL_toInt ha, iL_toInt hb]
theorem iL_eq {a b : Int} (ha : sl_ a) (hb : sl_ b) : iL_ a = iL_ b ↔ a = b := ⟨fun h => by rw [← iL_toInt ha, ← iL_toInt hb, h], fun h => by rw [h]⟩
theorem iI_toL {a : Int} (ha : sm_ a) : (iI_ a).toInt64 = iL_ a := by
  apply Int64.toInt_inj.mp
  rw [iL_toInt ⟨by have := ha.1; omega, by have := ha.2; omega⟩, Int32.toInt_toInt64, iI_toInt ha]
end
section
/-! masks and rows of signs -/
theorem sh_1 : ∀ k : Nat, k < 31 → (1 : Int32) <<< (nI k &&& 31) = nI (2 ^ k) := by
  have h : ∀ k : Fin 31, (1 : Int32) <<< (nI k.val &&& 31) = nI (2 ^ k.val) := by decide +kernel
  exact fun k hk => h ⟨k, hk⟩
theorem nI_bv (n : Nat) : (nI n).toBitVec = BitVec.ofNat 32 n := rfl
theorem nI_or (a b : Nat) : nI a ||| nI b = nI (a ||| b) := by
  apply Int32.toBitVec_inj.mp
  rw [Int32.toBitVec_or, nI_bv, nI_bv, nI_bv]
  exact BitVec.ofNat_or.symm
theorem nI_and (a b : Nat) : nI a &&& nI b = nI (a &&& b) := by
  apply Int32.toBitVec_inj.mp
  rw [Int32.toBitVec_and, nI_bv, nI_bv, nI_bv]
  exact BitVec.ofNat_and.symm
theorem nI_xor (a b : Nat) : nI a ^^^ nI b = nI (a ^^^ b) := by
  apply Int32.toBitVec_inj.mp
  rw [Int32.toBitVec_xor, nI_bv, nI_bv, nI_bv]
  exact BitVec.ofNat_xor.symm
theorem or_add {a k : Nat} (h : a < 2 ^ k) : a ||| 2 ^ k = a + 2 ^ k := by
  rw [Nat.or_comm, Nat.add_comm]
  have := Nat.two_pow_add_eq_or_of_lt (i := k) h 1
  rw [Nat.mul_one] at this
  exact this.symm
/-- the sign of a row at a wall -/
def dg_ (r k : Nat) : Nat := r / 3 ^ k % 3
/-- the walls at which a row has a sign -/
def mk_ : Nat → Nat → Nat → Nat
  | 0, _, _ => 0
  | n + 1, r, s => mk_ n r s + if dg_ r n = s then 2 ^ n else 0
theorem mk_lt (n r s : Nat) : mk_ n r s < 2 ^ n := by
  induction n with
  | zero => simp [mk_]
  | succ n ih =>
    simp only [mk_]
    rw [Nat.pow_succ]
    split <;> omega
theorem f_maskOf {r s : Nat} (hr : r < 2 ^ 31) (hs : s < 3) : fX5_maskOf (nI r) (nI s) = some (nI (mk_ 8 r s)) := by
  have hd : ∀ k, r / 3 ^ k < 2 ^ 31 := fun k => Nat.lt_of_le_of_lt (Nat.div_le_self _ _) hr
  unfold fX5_maskOf
  refine bind_yes (a := (nI 8, nI (r / 3 ^ 8), nI (mk_ 8 r s))) ?_
  have := lp_seq (body := fun (st : (Int32 × Int32 × Int32)) => fX5_maskOf_L7 (nI s) st.1 st.2.1 st.2.2) (fun k => (nI k, nI (r / 3 ^ k), nI (mk_ k r s))) 8 (by decide) (r := (nI 8, nI (r / 3 ^ 8), nI (mk_ 8 r s))) ?_ ?_
  · rw [Nat.pow_zero, Nat.div_one] at this
    exact this
  · intro k hk
    show fX5_maskOf_L7 (nI s) (nI k) (nI (r / 3 ^ k)) (nI (mk_ k r s)) = _
    unfold fX5_maskOf_L7
    rw [if_neg (show ¬ (8 : Int32) ≤ nI k from nI_ge hk (by decide))]
    have e3 : (3 : Int32) = nI 3 := rfl
    have h1 : nI (r / 3 ^ k) - nI (r / 3 ^ k) / (3 : Int32) * (3 : Int32) = nI (dg_ r k) := by rw [e3, pk_rem (hd k) (by decide) (by decide)]; rfl
    have h2 : nI (r / 3 ^ k) / (3 : Int32) = nI (r / 3 ^ (k + 1)) := by rw [e3, pk_div (hd k) (by decide) (by decide), Nat.div_div_eq_div_mul, Nat.pow_succ]
    have h3 : nI k + (1 : Int32) = nI (k + 1) := nI_1 k
    rw [h1, h2, h3]
    have hdl : dg_ r k < 2 ^ 31 := Nat.lt_trans (Nat.mod_lt _ (by decide)) (by decide)
    by_cases hc : dg_ r k = s
    · rw [if_pos (by rw [hc])]
      have : nI (mk_ k r s) ||| ((1 : Int32) <<< (nI k &&& 31)) = nI (mk_ (k + 1) r s) := by
        rw [sh_1 k (by omega), nI_or, or_add (mk_lt k r s)]
        simp only [mk_, if_pos hc]
      rw [this]
    · rw [if_neg (fun h => hc ((nI_eq hdl (by omega)).mp h))]
      have : mk_ (k + 1) r s = mk_ k r s := by simp only [mk_, if_neg hc]; rfl
      rw [this]
  · show fX5_maskOf_L7 (nI s) (nI 8) (nI (r / 3 ^ 8)) (nI (mk_ 8 r s)) = _
    unfold fX5_maskOf_L7
    rw [if_pos (show (8 : Int32) ≤ nI 8 by decide)]
theorem f_parting {r r' : Nat} (hr : r < 2 ^ 31) (hr' : r' < 2 ^ 31) : fX5_parting (nI r) (nI r') = some (nI (mk_ 8 r 2 ^^^ mk_ 8 r' 2)) := by
  unfold fX5_parting
  rw [show (2 : Int32) = nI 2 from rfl, bind_yes (f_maskOf hr (by decide)), bind_yes (f_maskOf hr' (by decide)), nI_xor]
theorem f_power {k : Nat} (hk : k ≤ 19) : fX6_power (nI k) = some (nI (3 ^ k)) := by
  unfold fX6_power
  refine bind_yes (a := (nI k, nI (3 ^ k))) ?_
  refine lp_seq (body := fun (st : (Int32 × Int32)) => fX6_power_L4 (nI k) st.1 st.2) (fun i => (nI i, nI (3 ^ i))) k (by omega) (r := (nI k, nI (3 ^ k))) ?_ ?_
  · intro i hi
    show fX6_power_L4 (nI k) (nI i) (nI (3 ^ i)) = _
    unfold fX6_power_L4
    rw [if_neg (nI_ge hi (by omega)), nI_1, show (3 : Int32) = nI 3 from rfl, pk_mul, Nat.pow_succ]
  · show fX6_power_L4 (nI k) (nI k) (nI (3 ^ k)) = _
    unfold fX6_power_L4
    rw [if_pos (nI_le (Nat.le_refl k) (by omega))]
theorem nI_z {n : Nat} (h0 : 0 < n) (h : n < 2 ^ 31) : ¬ nI n = 0 := nI_ne0 h0 h
theorem f_sign {r k : Nat} (hr : r < 2 ^ 31) (hk : k ≤ 19) : fX6_sign (nI r) (nI k) = some (nI (dg_ r k)) := by
  have h3 : 3 ^ k < 2 ^ 31 := Nat.lt_of_le_of_lt (Nat.pow_le_pow_right (by decide) hk) (by decide)
  have h4 : 0 < 3 ^ k := Nat.pow_pos (by decide)
  unfold fX6_sign
  rw [bind_yes (f_power hk), ck_yes (nI_z h4 h3), pk_div hr h4 h3, show (3 : Int32) = nI 3 from rfl, pk_rem (Nat.lt_of_le_of_lt (Nat.div_le_self _ _) hr) (by decide) (by decide)]
  rfl
end
section
/-! plain facts to paste, each family by itself; over the kit's nI, lN and upd -/
/-! ===== drawers: more things than places ===== -/
theorem fb_holes : ∀ (m n : Nat) (f : Nat → Nat), (∀ i, i < n → f i < m) → (∀ i j, i < j → j < n → f i ≠ f j) → n ≤ m := by
  intro m
  induction m with
  | zero =>
    intro n f h1 _
    rcases Nat.eq_zero_or_pos n with h | h
    · omega
    · exact absurd (h1 0 h) (Nat.not_lt_zero _)
  | succ m ih =>
    intro n f h1 h2
    by_cases hx : ∃ i, i < n ∧ f i = m
    · obtain ⟨a, ha, hfa⟩ := hx
      have hg := ih (n - 1) (fun i => if i < a then f i else f (i + 1)) (by
        intro i hi
        by_cases q : i < a
        · simp only [if_pos q]
          have b1 := h1 i (by omega)
          have b2 := h2 i a q ha
          omega
        · simp only [if_neg q]
          have b1 := h1 (i + 1) (by omega)
          have b2 := h2 a (i + 1) (by omega) (by omega)
          omega) (by
        intro i j hij hj
        by_cases q : i < a
        · by_cases r : j < a
          · simp only [if_pos q, if_pos r]
            exact h2 i j hij (by omega)
          · simp only [if_pos q, if_neg r]
            exact h2 i (j + 1) (by omega) (by omega)
        · have r : ¬ j < a := by omega
          simp only [if_neg q, if_neg r]
          exact h2 (i + 1) (j + 1) (by omega) (by omega))
      omega
    · have hg := ih n f (fun i hi => by
        have b1 := h1 i hi
        have b2 : f i ≠ m := fun e => hx ⟨i, hi, e⟩
        omega) h2
      omega
/-- two of them in one place -/
theorem fb_twice {m n : Nat} {f : Nat → Nat} (h : ∀ i, i < n → f i < m) (hm : m < n) : ∃ i j, i < j ∧ j < n ∧ f i = f j := by
  refine Classical.byContradiction fun hx => ?_
  have := fb_holes m n f h (fun i j hij hj e => hx ⟨i, j, hij, hj, e⟩)
  omega
/-- as many as places, none twice: each place is taken -/
theorem fb_onto {n : Nat} {f : Nat → Nat} (h : ∀ i, i < n → f i < n) (h2 : ∀ i j, i < j → j < n → f i ≠ f j) {y : Nat} (hy : y < n) : ∃ i, i < n ∧ f i = y := by
  refine Classical.byContradiction fun hx => ?_
  have hne : ∀ i, i < n → f i ≠ y := fun i hi e => hx ⟨i, hi, e⟩
  have := fb_holes (n - 1) n (fun i => if f i < y then f i else f i - 1) (by
    intro i hi
    have b1 := h i hi
    have b2 := hne i hi
    by_cases q : f i < y
    · simp only [if_pos q]; omega
    · simp only [if_neg q]; omega) (by
    intro i j hij hj
    have b1 := hne i (by omega)
    have b2 := hne j hj
    have b3 := h2 i j hij hj
    by_cases q : f i < y
    · by_cases r : f j < y
      · simp only [if_pos q, if_pos r]; exact b3
      · simp only [if_pos q, if_neg r]; omega
    · by_cases r : f j < y
      · simp only [if_neg q, if_pos r]; omega
      · simp only [if_neg q, if_neg r]; omega)
  omega
/-! ===== how many places have a property ===== -/
def fb_ct (p : Nat → Bool) : Nat → Nat
  | 0 => 0
  | n + 1 => fb_ct p n + (if p n then 1 else 0)
theorem fb_ct_succ (p : Nat → Bool) (n : Nat) : fb_ct p (n + 1) = fb_ct p n + (if p n then 1 else 0) := rfl
theorem fb_ct_le (p : Nat → Bool) : ∀ n, fb_ct p n ≤ n
  | 0 => Nat.le_refl _
  | n + 1 => by
    have h := fb_ct_le p n
    rw [fb_ct_succ]
    split <;> omega
theorem fb_ct_step (p : Nat → Bool) (m : Nat) : ∀ n, fb_ct p m ≤ fb_ct p (m + n)
  | 0 => Nat.le_refl _
  | n + 1 => by
    have h := fb_ct_step p m n
    show fb_ct p m ≤ fb_ct p (m + n + 1)
    rw [fb_ct_succ]
    omega
theorem fb_ct_mono (p : Nat → Bool) {m n : Nat} (h : m ≤ n) : fb_ct p m ≤ fb_ct p n := by
  have := fb_ct_step p m (n - m)
  rwa [Nat.add_sub_cancel' h] at this
theorem fb_ct_cong {p q : Nat → Bool} : ∀ {n : Nat}, (∀ k, k < n → p k = q k) → fb_ct p n = fb_ct q n
  | 0, _ => rfl
  | n + 1, h => by
    rw [fb_ct_succ, fb_ct_succ, fb_ct_cong (fun k hk => h k (by omega)), h n (by omega)]
/-- one place changed -/
theorem fb_ct_out (p : Nat → Bool) (b : Bool) {i n : Nat} (h : n ≤ i) : fb_ct (fun k => if k = i then b else p k) n = fb_ct p n :=
  fb_ct_cong fun k hk => if_neg (by omega)
theorem fb_ct_upd (p : Nat → Bool) (b : Bool) {i : Nat} : ∀ {n : Nat}, i < n → fb_ct (fun k => if k = i then b else p k) n + (if p i then 1 else 0) = fb_ct p n + (if b then 1 else 0)
  | 0, h => absurd h (Nat.not_lt_zero i)
  | n + 1, h => by
    rw [fb_ct_succ, fb_ct_succ]
    rcases Nat.lt_or_ge i n with q | q
    · have := fb_ct_upd p b q
      have e : (if n = i then b else p n) = p n := if_neg (by omega)
      rw [e]
      omega
    · have e : i = n := by omega
      subst e
      rw [fb_ct_out p b (Nat.le_refl _)]
      simp only [if_true]
      omega
theorem fb_ct_sub {p q : Nat → Bool} : ∀ {n : Nat}, (∀ k, k < n → p k = true → q k = true) → fb_ct p n ≤ fb_ct q n
  | 0, _ => Nat.le_refl _
  | n + 1, h => by
    have h1 := fb_ct_sub (n := n) (p := p) (q := q) (fun k hk => h k (by omega))
    have h2 := h n (by omega)
    rw [fb_ct_succ, fb_ct_succ]
    cases hp : p n <;> cases hq : q n <;> simp_all <;> omega
theorem fb_ct_or {p q : Nat → Bool} : ∀ {n : Nat}, (∀ k, k < n → ¬ (p k = true ∧ q k = true)) → fb_ct (fun k => p k || q k) n = fb_ct p n + fb_ct q n
  | 0, _ => rfl
  | n + 1, h => by
    have h1 := fb_ct_or (n := n) (p := p) (q := q) (fun k hk => h k (by omega))
    have h2 := h n (by omega)
    rw [fb_ct_succ, fb_ct_succ, fb_ct_succ, h1]
    cases hp : p n <;> cases hq : q n <;> simp_all <;> omega
theorem fb_ct_not (p : Nat → Bool) : ∀ n, fb_ct p n + fb_ct (fun k => !p k) n = n
  | 0 => rfl
  | n + 1 => by
    have h := fb_ct_not p n
    rw [fb_ct_succ, fb_ct_succ]
    cases p n <;> simp <;> omega
theorem fb_ct_split (p : Nat → Bool) (m : Nat) : ∀ n, fb_ct p (m + n) = fb_ct p m + fb_ct (fun k => p (m + k)) n
  | 0 => rfl
  | n + 1 => by
    have h := fb_ct_split p m n
    show fb_ct p (m + n + 1) = _
    rw [fb_ct_succ, fb_ct_succ, h, Nat.add_assoc]
theorem fb_ct_zero {p : Nat → Bool} : ∀ {n : Nat}, fb_ct p n = 0 ↔ ∀ k, k < n → p k = false
  | 0 => ⟨fun _ k hk => absurd hk (Nat.not_lt_zero k), fun _ => rfl⟩
  | n + 1 => by
    have h := fb_ct_zero (p := p) (n := n)
    rw [fb_ct_succ]
    constructor
    · intro e k hk
      have e1 : fb_ct p n = 0 := by omega
      rcases Nat.lt_or_ge k n with q | q
      · exact h.mp e1 k q
      · have ek : k = n := by omega
        subst ek
        cases hp : p k
        · rfl
        · simp [hp] at e
    · intro a
      rw [h.mpr (fun k hk => a k (by omega)), a n (by omega)]
      rfl
theorem fb_ct_pos {p : Nat → Bool} {n : Nat} : 0 < fb_ct p n ↔ ∃ k, k < n ∧ p k = true := by
  constructor
  · intro h
    refine Classical.byContradiction fun hx => ?_
    have := fb_ct_zero.mpr (fun k hk => by
      cases hp : p k
      · rfl
      · exact absurd ⟨k, hk, hp⟩ hx : ∀ k, k < n → p k = false)
    omega
  · rintro ⟨k, hk, hp⟩
    rcases Nat.eq_zero_or_pos (fb_ct p n) with e | e
    · have := fb_ct_zero.mp e k hk
      rw [this] at hp
      cases hp
    · exact e
theorem fb_ct_all {p : Nat → Bool} {n : Nat} : fb_ct p n = n ↔ ∀ k, k < n → p k = true := by
  have h := fb_ct_not p n
  constructor
  · intro e k hk
    have z : fb_ct (fun k => !p k) n = 0 := by omega
    have := fb_ct_zero.mp z k hk
    cases hp : p k
    · simp [hp] at this
    · rfl
  · intro a
    have z : fb_ct (fun k => !p k) n = 0 := fb_ct_zero.mpr (fun k hk => by simp [a k hk])
    omega
/-- the k-th place with the property -/
theorem fb_ct_kth {p : Nat → Bool} {k : Nat} : ∀ {n : Nat}, k < fb_ct p n → ∃ i, i < n ∧ p i = true ∧ fb_ct p i = k
  | 0, h => absurd h (Nat.not_lt_zero k)
  | n + 1, h => by
    rcases Nat.lt_or_ge k (fb_ct p n) with q | q
    · obtain ⟨i, h1, h2⟩ := fb_ct_kth q
      exact ⟨i, by omega, h2⟩
    · rw [fb_ct_succ] at h
      cases hp : p n
      · simp [hp] at h; omega
      · simp [hp] at h
        exact ⟨n, by omega, hp, by omega⟩
theorem fb_ct_kth_one {p : Nat → Bool} {i j : Nat} (hi : p i = true) (hj : p j = true) (e : fb_ct p i = fb_ct p j) : i = j := by
  have key : ∀ a b : Nat, a < b → p a = true → fb_ct p a < fb_ct p b := by
    intro a b hab ha
    have h := fb_ct_mono p (show a + 1 ≤ b from hab)
    rw [fb_ct_succ, ha] at h
    simp at h
    omega
  rcases Nat.lt_trichotomy i j with q | q | q
  · have := key i j q hi; omega
  · exact q
  · have := key j i q hj; omega
/-! ===== sums over a range: one place changed, parts, bounds ===== -/
def fb_sm (f : Nat → Nat) : Nat → Nat
  | 0 => 0
  | n + 1 => fb_sm f n + f n
theorem fb_sm_succ (f : Nat → Nat) (n : Nat) : fb_sm f (n + 1) = fb_sm f n + f n := rfl
theorem fb_sm_cong {f g : Nat → Nat} : ∀ {n : Nat}, (∀ k, k < n → f k = g k) → fb_sm f n = fb_sm g n
  | 0, _ => rfl
  | n + 1, h => by rw [fb_sm_succ, fb_sm_succ, fb_sm_cong (fun k hk => h k (by omega)), h n (by omega)]
theorem fb_sm_out (f : Nat → Nat) (v : Nat) {i n : Nat} (h : n ≤ i) : fb_sm (fun k => if k = i then v else f k) n = fb_sm f n :=
  fb_sm_cong fun k hk => if_neg (by omega)
theorem fb_sm_upd (f : Nat → Nat) (v : Nat) {i : Nat} : ∀ {n : Nat}, i < n → fb_sm (fun k => if k = i then v else f k) n + f i = fb_sm f n + v
  | 0, h => absurd h (Nat.not_lt_zero i)
  | n + 1, h => by
    rw [fb_sm_succ, fb_sm_succ]
    rcases Nat.lt_or_ge i n with q | q
    · have := fb_sm_upd f v q
      have e : (if n = i then v else f n) = f n := if_neg (by omega)
      rw [e]
      omega
    · have e : i = n := by omega
      subst e
      rw [fb_sm_out f v (Nat.le_refl _)]
      simp only [if_true]
      omega
theorem fb_sm_add (f g : Nat → Nat) : ∀ n, fb_sm (fun k => f k + g k) n = fb_sm f n + fb_sm g n
  | 0 => rfl
  | n + 1 => by
    have h := fb_sm_add f g n
    rw [fb_sm_succ, fb_sm_succ, fb_sm_succ, h]
    omega
theorem fb_sm_le {f g : Nat → Nat} : ∀ {n : Nat}, (∀ k, k < n → f k ≤ g k) → fb_sm f n ≤ fb_sm g n
  | 0, _ => Nat.le_refl _
  | n + 1, h => by
    have h1 := fb_sm_le (n := n) (f := f) (g := g) (fun k hk => h k (by omega))
    have h2 := h n (by omega)
    rw [fb_sm_succ, fb_sm_succ]
    omega
theorem fb_sm_const (c : Nat) : ∀ n, fb_sm (fun _ => c) n = n * c
  | 0 => by rw [Nat.zero_mul]; rfl
  | n + 1 => by rw [fb_sm_succ, fb_sm_const c n, Nat.succ_mul]
theorem fb_sm_bound {f : Nat → Nat} {c n : Nat} (h : ∀ k, k < n → f k ≤ c) : fb_sm f n ≤ n * c := by
  rw [← fb_sm_const c n]
  exact fb_sm_le h
theorem fb_sm_mono (f : Nat → Nat) (m : Nat) : ∀ n, fb_sm f m ≤ fb_sm f (m + n)
  | 0 => Nat.le_refl _
  | n + 1 => by
    have h := fb_sm_mono f m n
    show fb_sm f m ≤ fb_sm f (m + n + 1)
    rw [fb_sm_succ]
    omega
theorem fb_sm_part (f : Nat → Nat) {i n : Nat} (h : i < n) : fb_sm f i + f i ≤ fb_sm f n := by
  have := fb_sm_mono f (i + 1) (n - (i + 1))
  rw [fb_sm_succ, show i + 1 + (n - (i + 1)) = n by omega] at this
  exact this
theorem fb_sm_split (f : Nat → Nat) (m : Nat) : ∀ n, fb_sm f (m + n) = fb_sm f m + fb_sm (fun k => f (m + k)) n
  | 0 => rfl
  | n + 1 => by
    have h := fb_sm_split f m n
    show fb_sm f (m + n + 1) = _
    rw [fb_sm_succ, fb_sm_succ, h, Nat.add_assoc]
theorem fb_sm_zero {f : Nat → Nat} {n : Nat} (h : fb_sm f n = 0) : ∀ k, k < n → f k = 0 := fun k hk => by
  have := fb_sm_part f hk
  omega
/-- the same over whole numbers -/
def fb_si (f : Nat → Int) : Nat → Int
  | 0 => 0
  | n + 1 => fb_si f n + f n
theorem fb_si_succ (f : Nat → Int) (n : Nat) : fb_si f (n + 1) = fb_si f n + f n := rfl
theorem fb_si_cong {f g : Nat → Int} : ∀ {n : Nat}, (∀ k, k < n → f k = g k) → fb_si f n = fb_si g n
  | 0, _ => rfl
  | n + 1, h => by rw [fb_si_succ, fb_si_succ, fb_si_cong (fun k hk => h k (by omega)), h n (by omega)]
theorem fb_si_out (f : Nat → Int) (v : Int) {i n : Nat} (h : n ≤ i) : fb_si (fun k => if k = i then v else f k) n = fb_si f n :=
  fb_si_cong fun k hk => if_neg (by omega)
theorem fb_si_upd (f : Nat → Int) (v : Int) {i : Nat} : ∀ {n : Nat}, i < n → fb_si (fun k => if k = i then v else f k) n = fb_si f n - f i + v
  | 0, h => absurd h (Nat.not_lt_zero i)
  | n + 1, h => by
    rw [fb_si_succ, fb_si_succ]
    rcases Nat.lt_or_ge i n with q | q
    · have := fb_si_upd f v q
      have e : (if n = i then v else f n) = f n := if_neg (by omega)
      rw [e]
      omega
    · have e : i = n := by omega
      subst e
      rw [fb_si_out f v (Nat.le_refl _)]
      simp only [if_true]
      omega
theorem fb_si_add (f g : Nat → Int) : ∀ n, fb_si (fun k => f k + g k) n = fb_si f n + fb_si g n
  | 0 => rfl
  | n + 1 => by
    have h := fb_si_add f g n
    rw [fb_si_succ, fb_si_succ, fb_si_succ, h]
    omega
theorem fb_si_sub (f g : Nat → Int) : ∀ n, fb_si (fun k => f k - g k) n = fb_si f n - fb_si g n
  | 0 => rfl
  | n + 1 => by
    have h := fb_si_sub f g n
    rw [fb_si_succ, fb_si_succ, fb_si_succ, h]
    omega
theorem fb_si_mul (c : Int) (f : Nat → Int) : ∀ n, fb_si (fun k => c * f k) n = c * fb_si f n
  | 0 => (Int.mul_zero c).symm
  | n + 1 => by
    have h := fb_si_mul c f n
    rw [fb_si_succ, fb_si_succ, h, Int.mul_add]
theorem fb_si_split (f : Nat → Int) (m : Nat) : ∀ n, fb_si f (m + n) = fb_si f m + fb_si (fun k => f (m + k)) n
  | 0 => (Int.add_zero _).symm
  | n + 1 => by
    have h := fb_si_split f m n
    show fb_si f (m + n + 1) = _
    rw [fb_si_succ, fb_si_succ, h, Int.add_assoc]
theorem fb_si_nat (f : Nat → Nat) : ∀ n, fb_si (fun k => (f k : Int)) n = (fb_sm f n : Int)
  | 0 => rfl
  | n + 1 => by
    have h := fb_si_nat f n
    rw [fb_si_succ, fb_sm_succ, h]
    omega
theorem fb_si_bound {f : Nat → Int} {c : Int} (hc : 0 ≤ c) : ∀ {n : Nat}, (∀ k, k < n → -c ≤ f k ∧ f k ≤ c) → -(n * c) ≤ fb_si f n ∧ fb_si f n ≤ n * c
  | 0, _ => by simp [fb_si]
  | n + 1, h => by
    have h1 := fb_si_bound (n := n) (f := f) hc (fun k hk => h k (by omega))
    have h2 := h n (by omega)
    have e : ((n + 1 : Nat) : Int) * c = n * c + c := by rw [Int.natCast_add, Int.add_mul]; simp
    rw [fb_si_succ, e]
    omega
/-! ===== bits of a long that isn't negative ===== -/
theorem fb_andL (a b : Nat) : lN a &&& lN b = lN (a &&& b) := by
  apply Int64.toBitVec_inj.1
  show BitVec.ofNat 64 a &&& BitVec.ofNat 64 b = BitVec.ofNat 64 (a &&& b)
  apply BitVec.eq_of_getLsbD_eq
  intro i hi
  simp [hi]
theorem fb_orL (a b : Nat) : lN a ||| lN b = lN (a ||| b) := by
  apply Int64.toBitVec_inj.1
  show BitVec.ofNat 64 a ||| BitVec.ofNat 64 b = BitVec.ofNat 64 (a ||| b)
  apply BitVec.eq_of_getLsbD_eq
  intro i hi
  simp [hi]
theorem fb_xorL (a b : Nat) : lN a ^^^ lN b = lN (a ^^^ b) := by
  apply Int64.toBitVec_inj.1
  show BitVec.ofNat 64 a ^^^ BitVec.ofNat 64 b = BitVec.ofNat 64 (a ^^^ b)
  apply BitVec.eq_of_getLsbD_eq
  intro i hi
  simp [hi]
theorem fb_xorI (a b : Nat) : nI a ^^^ nI b = nI (a ^^^ b) := by
  apply Int32.toBitVec_inj.1
  show BitVec.ofNat 32 a ^^^ BitVec.ofNat 32 b = BitVec.ofNat 32 (a ^^^ b)
  apply BitVec.eq_of_getLsbD_eq
  intro i hi
  simp [hi]
theorem fb_maskL (n k : Nat) : lN n &&& lN (2 ^ k - 1) = lN (n % 2 ^ k) := by rw [fb_andL, Nat.and_two_pow_sub_one_eq_mod]
theorem fb_or_sumL {a k : Nat} (b : Nat) (h : a < 2 ^ k) : lN (2 ^ k * b) ||| lN a = lN (2 ^ k * b + a) := by rw [fb_orL, Nat.two_pow_add_eq_or_of_lt h]
theorem fb_lN_inj {a b : Nat} (ha : a < 2 ^ 63) (hb : b < 2 ^ 63) : lN a = lN b ↔ a = b := by
  constructor
  · intro h
    have h1 : (BitVec.ofNat 64 a).toNat = (BitVec.ofNat 64 b).toNat := congrArg (fun x : Int64 => x.toBitVec.toNat) h
    rw [BitVec.toNat_ofNat, BitVec.toNat_ofNat, Nat.mod_eq_of_lt (by omega), Nat.mod_eq_of_lt (by omega)] at h1
    exact h1
  · rintro rfl; rfl
theorem fb_bit_nat (n j : Nat) : n &&& 2 ^ j = 0 ↔ n.testBit j = false := by
  constructor
  · intro h
    have h1 : (n &&& 2 ^ j).testBit j = false := by rw [h]; simp
    rw [Nat.testBit_and] at h1
    simpa using h1
  · intro h
    apply Nat.eq_of_testBit_eq
    intro i
    rw [Nat.testBit_and]
    by_cases hi : j = i
    · subst hi; simp [h]
    · first | (simp [Nat.testBit_two_pow, hi]; done) | (simp [Nat.testBit_two_pow_of_ne hi]; done)
/-- one bit of a long -/
theorem fb_bitL {n j : Nat} (hj : j < 63) : lN n &&& lN (2 ^ j) = 0 ↔ n.testBit j = false := by
  have h2 : (2 : Nat) ^ j < 2 ^ 63 := Nat.pow_lt_pow_right (by decide) hj
  have hle : n &&& 2 ^ j ≤ 2 ^ j := Nat.and_le_right
  rw [fb_andL, ← fb_bit_nat, show (0 : Int64) = lN 0 from rfl]
  exact fb_lN_inj (by omega) (by decide)
/-- a bit set, a bit taken off -/
theorem fb_bit_set (n j i : Nat) : (n ||| 2 ^ j).testBit i = (n.testBit i || decide (i = j)) := by
  rw [Nat.testBit_or]
  by_cases h : j = i
  · subst h; simp
  · have h2 : ¬ i = j := fun e => h e.symm
    first | (simp [Nat.testBit_two_pow, h, h2]; done) | (simp [Nat.testBit_two_pow_of_ne h, h2]; done)
theorem fb_bit_flip (n j i : Nat) : (n ^^^ 2 ^ j).testBit i = (n.testBit i ^^ decide (i = j)) := by
  rw [Nat.testBit_xor]
  by_cases h : j = i
  · subst h; simp
  · have h2 : ¬ i = j := fun e => h e.symm
    first | (simp [Nat.testBit_two_pow, h, h2]; done) | (simp [Nat.testBit_two_pow_of_ne h, h2]; done)
/-! ===== a stretch of an array written over by a function ===== -/
def fb_put {α : Type} (f g : Nat → α) (a n : Nat) : Nat → α := fun k => if a ≤ k ∧ k < a + n then g (k - a) else f k
theorem fb_put_0 {α : Type} (f g : Nat → α) (a : Nat) : fb_put f g a 0 = f := funext fun k => if_neg (by omega)
theorem fb_put_in {α : Type} {f g : Nat → α} {a n k : Nat} (h1 : a ≤ k) (h2 : k < a + n) : fb_put f g a n k = g (k - a) := if_pos ⟨h1, h2⟩
theorem fb_put_out {α : Type} {f g : Nat → α} {a n k : Nat} (h : k < a ∨ a + n ≤ k) : fb_put f g a n k = f k := if_neg (by omega)
theorem fb_put_succ (f g : Nat → Int32) (a n : Nat) : upd (fb_put f g a n) (a + n) (g n) = fb_put f g a (n + 1) := by
  funext k
  by_cases h : k = a + n
  · subst h
    simp [upd, fb_put]
  · by_cases h1 : a ≤ k ∧ k < a + n
    · have h2 : a ≤ k ∧ k < a + (n + 1) := by omega
      simp only [upd, fb_put, if_neg h, if_pos h1, if_pos h2]
    · have h2 : ¬ (a ≤ k ∧ k < a + (n + 1)) := by omega
      simp only [upd, fb_put, if_neg h, if_neg h1, if_neg h2]
/-- .. from the far end down -/
theorem fb_put_down (f g : Nat → Int32) {a n m : Nat} (h : m < n) : upd (fb_put f (fun k => g (k + (m + 1))) (a + (m + 1)) (n - (m + 1))) (a + m) (g m) = fb_put f (fun k => g (k + m)) (a + m) (n - m) := by
  funext k
  by_cases h0 : k = a + m
  · subst h0
    simp only [upd, if_true]
    rw [fb_put_in (by omega) (by omega)]
    exact congrArg g (by omega)
  · simp only [upd, if_neg h0]
    by_cases h1 : a + (m + 1) ≤ k ∧ k < a + (m + 1) + (n - (m + 1))
    · rw [fb_put_in h1.1 h1.2, fb_put_in (by omega) (by omega)]
      exact congrArg g (by omega)
    · rw [fb_put_out (by omega), fb_put_out (by omega)]
theorem fb_put_cong {α : Type} {f f2 g g2 : Nat → α} {a n : Nat} (hf : ∀ k, (k < a ∨ a + n ≤ k) → f k = f2 k) (hg : ∀ k, k < n → g k = g2 k) : fb_put f g a n = fb_put f2 g2 a n := by
  funext k
  by_cases h : a ≤ k ∧ k < a + n
  · rw [fb_put_in h.1 h.2, fb_put_in h.1 h.2, hg _ (by omega)]
  · rw [fb_put_out (by omega), fb_put_out (by omega), hf _ (by omega)]
/-! ===== the least, the first, the best so far; that there is one alone ===== -/
theorem fb_first {p : Nat → Prop} [DecidablePred p] : ∀ {n : Nat}, (∃ i, i < n ∧ p i) → ∃ i, i < n ∧ p i ∧ ∀ j, j < i → ¬ p j
  | 0, h => by obtain ⟨i, hi, -⟩ := h; exact absurd hi (Nat.not_lt_zero i)
  | n + 1, h => by
    by_cases q : ∃ i, i < n ∧ p i
    · obtain ⟨i, h1, h2⟩ := fb_first q
      exact ⟨i, by omega, h2⟩
    · obtain ⟨i, h1, h2⟩ := h
      have e : i = n := by
        rcases Nat.lt_or_ge i n with r | r
        · exact absurd ⟨i, r, h2⟩ q
        · omega
      subst e
      exact ⟨i, by omega, h2, fun j hj hp => q ⟨j, hj, hp⟩⟩
theorem fb_first_one {p : Nat → Prop} {i j : Nat} (hi : p i) (hi2 : ∀ k, k < i → ¬ p k) (hj : p j) (hj2 : ∀ k, k < j → ¬ p k) : i = j := by
  rcases Nat.lt_trichotomy i j with q | q | q
  · exact absurd hi (hj2 i q)
  · exact q
  · exact absurd hj (hi2 j q)
theorem fb_last {p : Nat → Prop} [DecidablePred p] : ∀ {n : Nat}, (∃ i, i < n ∧ p i) → ∃ i, i < n ∧ p i ∧ ∀ j, i < j → j < n → ¬ p j
  | 0, h => by obtain ⟨i, hi, -⟩ := h; exact absurd hi (Nat.not_lt_zero i)
  | n + 1, h => by
    by_cases q : p n
    · exact ⟨n, by omega, q, fun j h1 h2 => by omega⟩
    · obtain ⟨i, h1, h2⟩ := h
      have hi : i < n := by
        rcases Nat.lt_or_ge i n with r | r
        · exact r
        · have e : i = n := by omega
          subst e
          exact absurd h2 q
      obtain ⟨i2, a1, a2, a3⟩ := fb_last (n := n) ⟨i, hi, h2⟩
      refine ⟨i2, by omega, a2, fun j b1 b2 => ?_⟩
      rcases Nat.lt_or_ge j n with r | r
      · exact a3 j b1 r
      · have e : j = n := by omega
        subst e
        exact q
/-- the first greatest -/
theorem fb_best (f : Nat → Int) : ∀ {n : Nat}, 0 < n → ∃ i, i < n ∧ (∀ j, j < n → f j ≤ f i) ∧ ∀ j, j < i → f j < f i
  | 0, h => absurd h (Nat.lt_irrefl 0)
  | 1, _ => ⟨0, by omega, fun j hj => by have e : j = 0 := by omega
                                         subst e; exact Int.le_refl _, fun j hj => absurd hj (Nat.not_lt_zero j)⟩
  | n + 2, _ => by
    obtain ⟨i, h1, h2, h3⟩ := fb_best f (n := n + 1) (by omega)
    by_cases q : f i < f (n + 1)
    · refine ⟨n + 1, by omega, fun j hj => ?_, fun j hj => ?_⟩
      · rcases Nat.lt_or_ge j (n + 1) with r | r
        · have := h2 j r; omega
        · have e : j = n + 1 := by omega
          subst e; exact Int.le_refl _
      · have := h2 j hj; omega
    · refine ⟨i, by omega, fun j hj => ?_, h3⟩
      rcases Nat.lt_or_ge j (n + 1) with r | r
      · exact h2 j r
      · have e : j = n + 1 := by omega
        subst e; omega
theorem fb_best_one {f : Nat → Int} {n i j : Nat} (hi : i < n) (hi2 : ∀ k, k < n → f k ≤ f i) (hi3 : ∀ k, k < i → f k < f i) (hj : j < n) (hj2 : ∀ k, k < n → f k ≤ f j) (hj3 : ∀ k, k < j → f k < f j) : i = j := by
  rcases Nat.lt_trichotomy i j with q | q | q
  · have a := hj3 i q
    have b := hi2 j hj
    omega
  · exact q
  · have a := hi3 j q
    have b := hj2 i hi
    omega
/-- the first least -/
theorem fb_low (f : Nat → Int) {n : Nat} (h : 0 < n) : ∃ i, i < n ∧ (∀ j, j < n → f i ≤ f j) ∧ ∀ j, j < i → f i < f j := by
  obtain ⟨i, h1, h2, h3⟩ := fb_best (fun k => -f k) h
  exact ⟨i, h1, fun j hj => by have := h2 j hj; omega, fun j hj => by have := h3 j hj; omega⟩
/-! ===== signed ints as whole numbers, within bounds ===== -/
theorem fb_rng (x : Int32) : -2147483648 ≤ x.toInt ∧ x.toInt < 2147483648 := by
  have h1 := Int32.le_toInt x
  have h2 := Int32.toInt_lt x
  omega
theorem fb_bmod {z : Int} (h1 : -2147483648 ≤ z) (h2 : z < 2147483648) : z.bmod (2 ^ 32) = z := by
  rw [Int.bmod_eq_of_le (by omega) (by omega)]
theorem fb_addI {x y : Int32} (h1 : -2147483648 ≤ x.toInt + y.toInt) (h2 : x.toInt + y.toInt < 2147483648) : (x + y).toInt = x.toInt + y.toInt := by
  rw [Int32.toInt_add, fb_bmod h1 h2]
theorem fb_subI {x y : Int32} (h1 : -2147483648 ≤ x.toInt - y.toInt) (h2 : x.toInt - y.toInt < 2147483648) : (x - y).toInt = x.toInt - y.toInt := by
  rw [Int32.toInt_sub, fb_bmod h1 h2]
theorem fb_mulI {x y : Int32} (h1 : -2147483648 ≤ x.toInt * y.toInt) (h2 : x.toInt * y.toInt < 2147483648) : (x * y).toInt = x.toInt * y.toInt := by
  rw [Int32.toInt_mul, fb_bmod h1 h2]
theorem fb_negI {x : Int32} (h : x.toInt ≠ -2147483648) : (-x).toInt = -x.toInt := by
  have := fb_rng x
  rw [Int32.toInt_neg, fb_bmod (by omega) (by omega)]
theorem fb_ofI {z : Int} (h1 : -2147483648 ≤ z) (h2 : z < 2147483648) : (Int32.ofInt z).toInt = z := by
  rw [Int32.toInt_ofInt, fb_bmod h1 h2]
theorem fb_asI (x : Int32) : Int32.ofInt x.toInt = x := Int32.ofInt_toInt x
theorem fb_rngL (x : Int64) : -9223372036854775808 ≤ x.toInt ∧ x.toInt < 9223372036854775808 := by
  have h1 := Int64.le_toInt x
  have h2 := Int64.toInt_lt x
  omega
theorem fb_bmodL {z : Int} (h1 : -9223372036854775808 ≤ z) (h2 : z < 9223372036854775808) : z.bmod (2 ^ 64) = z := by
  rw [Int.bmod_eq_of_le (by omega) (by omega)]
theorem fb_addL {x y : Int64} (h1 : -9223372036854775808 ≤ x.toInt + y.toInt) (h2 : x.toInt + y.toInt < 9223372036854775808) : (x + y).toInt = x.toInt + y.toInt := by
  rw [Int64.toInt_add, fb_bmodL h1 h2]
theorem fb_subL {x y : Int64} (h1 : -9223372036854775808 ≤ x.toInt - y.toInt) (h2 : x.toInt - y.toInt < 9223372036854775808) : (x - y).toInt = x.toInt - y.toInt := by
  rw [Int64.toInt_sub, fb_bmodL h1 h2]
theorem fb_mulL {x y : Int64} (h1 : -9223372036854775808 ≤ x.toInt * y.toInt) (h2 : x.toInt * y.toInt < 9223372036854775808) : (x * y).toInt = x.toInt * y.toInt := by
  rw [Int64.toInt_mul, fb_bmodL h1 h2]
/-! ===== cuts of what is narrow already ===== -/
theorem fb_byte {x : Int32} (h1 : -128 ≤ x.toInt) (h2 : x.toInt < 128) : x.toInt8.toInt32 = x := by
  apply Int32.toInt_inj.1
  rw [Int8.toInt_toInt32, Int32.toInt_toInt8, Int.bmod_eq_of_le (by omega) (by omega)]
theorem fb_short {x : Int32} (h1 : -32768 ≤ x.toInt) (h2 : x.toInt < 32768) : x.toInt16.toInt32 = x := by
  apply Int32.toInt_inj.1
  rw [Int16.toInt_toInt32, Int32.toInt_toInt16, Int.bmod_eq_of_le (by omega) (by omega)]
theorem fb_byte_rng (x : Int32) : -128 ≤ x.toInt8.toInt32.toInt ∧ x.toInt8.toInt32.toInt < 128 := by
  rw [Int8.toInt_toInt32]
  have h1 := Int8.le_toInt x.toInt8
  have h2 := Int8.toInt_lt x.toInt8
  omega
theorem fb_short_rng (x : Int32) : -32768 ≤ x.toInt16.toInt32.toInt ∧ x.toInt16.toInt32.toInt < 32768 := by
  rw [Int16.toInt_toInt32]
  have h1 := Int16.le_toInt x.toInt16
  have h2 := Int16.toInt_lt x.toInt16
  omega
theorem fb_byte_twice (x : Int32) : x.toInt8.toInt32.toInt8.toInt32 = x.toInt8.toInt32 := fb_byte (fb_byte_rng x).1 (fb_byte_rng x).2
theorem fb_short_twice (x : Int32) : x.toInt16.toInt32.toInt16.toInt32 = x.toInt16.toInt32 := fb_short (fb_short_rng x).1 (fb_short_rng x).2
theorem fb_char {n : Nat} (h : n < 65536) : (nI n).toUInt32.toUInt16.toUInt32.toInt32 = nI n := by
  apply Int32.toBitVec_inj.1
  apply BitVec.eq_of_toNat_eq
  have e1 : (nI n).toBitVec.toNat = n := by
    show (BitVec.ofNat 32 n).toNat = n
    rw [BitVec.toNat_ofNat, Nat.mod_eq_of_lt (by omega)]
  have e2 : ((nI n).toUInt32.toUInt16.toUInt32).toNat = n := by
    rw [UInt16.toNat_toUInt32, UInt32.toNat_toUInt16]
    show (nI n).toBitVec.toNat % 2 ^ 16 = n
    rw [e1, Nat.mod_eq_of_lt (by omega)]
  rw [e1]
  exact e2
/-! ===== Int32 by its bits: bt x i ===== -/
def bt (x : Int32) (i : Nat) : Bool := x.toBitVec.getLsbD i
theorem b_ext {x y : Int32} (h : ∀ i, i < 32 → bt x i = bt y i) : x = y := Int32.toBitVec_inj.mp (BitVec.eq_of_getLsbD_eq (fun i hi => h i hi))
theorem b_or (x y : Int32) (i : Nat) : bt (x ||| y) i = (bt x i || bt y i) := by unfold bt; rw [Int32.toBitVec_or, BitVec.getLsbD_or]
theorem b_and (x y : Int32) (i : Nat) : bt (x &&& y) i = (bt x i && bt y i) := by unfold bt; rw [Int32.toBitVec_and, BitVec.getLsbD_and]
theorem b_xor (x y : Int32) (i : Nat) : bt (x ^^^ y) i = (bt x i ^^ bt y i) := by unfold bt; rw [Int32.toBitVec_xor, BitVec.getLsbD_xor]
theorem b_big {x : Int32} {i : Nat} (h : 32 ≤ i) : bt x i = false := BitVec.getLsbD_of_ge _ _ h
theorem b_255 (i : Nat) : bt 255 i = decide (i < 8) := by
  rcases Nat.lt_or_ge i 32 with h | h
  · exact (by decide +kernel : ∀ i, i < 32 → bt 255 i = decide (i < 8)) i h
  · rw [b_big h, decide_eq_false (by omega)]
theorem b_65535 (i : Nat) : bt 65535 i = decide (i < 16) := by
  rcases Nat.lt_or_ge i 32 with h | h
  · exact (by decide +kernel : ∀ i, i < 32 → bt 65535 i = decide (i < 16)) i h
  · rw [b_big h, decide_eq_false (by omega)]
theorem b_m1 : ∀ i, i < 32 → bt (-1) i = true := by decide +kernel
theorem b_0 (i : Nat) : bt 0 i = false := BitVec.getLsbD_zero
theorem s_l : ∀ n, n < 32 → ((nI n &&& 31).toBitVec.smod 32).toNat = n := by decide +kernel
theorem s_u : ∀ n, n < 32 → (((nI n).toUInt32 &&& Int32.toUInt32 31).toBitVec % 32).toNat = n := by decide +kernel
theorem b_shl (n : Nat) (hn : n < 32) (x : Int32) {i : Nat} (hi : i < 32) : bt (x <<< (nI n &&& 31)) i = (decide (n ≤ i) && bt x (i - n)) := by
  unfold bt
  rw [Int32.toBitVec_shiftLeft]
  show (x.toBitVec <<< ((nI n &&& 31).toBitVec.smod 32).toNat).getLsbD i = _
  rw [s_l n hn, BitVec.getLsbD_shiftLeft]
  rcases Nat.lt_or_ge i n with h | h
  · simp [h, Nat.not_le.mpr h]
  · simp [hi, h, Nat.not_lt.mpr h]
theorem b_ushr (n : Nat) (hn : n < 32) (x : Int32) (i : Nat) : bt ((x.toUInt32 >>> ((nI n).toUInt32 &&& Int32.toUInt32 31)).toInt32) i = bt x (n + i) := by
  show (x.toUInt32 >>> ((nI n).toUInt32 &&& Int32.toUInt32 31)).toBitVec.getLsbD i = x.toUInt32.toBitVec.getLsbD (n + i)
  rw [UInt32.toBitVec_shiftRight]
  show (x.toUInt32.toBitVec >>> (((nI n).toUInt32 &&& Int32.toUInt32 31).toBitVec % 32).toNat).getLsbD i = _
  rw [s_u n hn, BitVec.getLsbD_ushiftRight]
theorem b_sshr (n : Nat) (hn : n < 32) (x : Int32) {i : Nat} (hi : i < 32) : bt (x >>> (nI n &&& 31)) i = if n + i < 32 then bt x (n + i) else bt x 31 := by
  unfold bt
  rw [Int32.toBitVec_shiftRight]
  show (x.toBitVec.sshiftRight ((nI n &&& 31).toBitVec.smod 32).toNat).getLsbD i = _
  rw [s_l n hn, BitVec.getLsbD_sshiftRight, BitVec.msb_eq_getLsbD_last]
  simp [hi]
theorem b_shl8 (x : Int32) {i : Nat} (hi : i < 32) : bt (x <<< ((8 : Int32) &&& 31)) i = (decide (8 ≤ i) && bt x (i - 8)) := b_shl 8 (by omega) x hi
theorem b_shl16 (x : Int32) {i : Nat} (hi : i < 32) : bt (x <<< ((16 : Int32) &&& 31)) i = (decide (16 ≤ i) && bt x (i - 16)) := b_shl 16 (by omega) x hi
theorem b_shl24 (x : Int32) {i : Nat} (hi : i < 32) : bt (x <<< ((24 : Int32) &&& 31)) i = (decide (24 ≤ i) && bt x (i - 24)) := b_shl 24 (by omega) x hi
theorem b_sshr8 (x : Int32) {i : Nat} (hi : i < 32) : bt (x >>> ((8 : Int32) &&& 31)) i = if 8 + i < 32 then bt x (8 + i) else bt x 31 := b_sshr 8 (by omega) x hi
/-! ===== Int32 as a set of bits: test, set ===== -/
def nf_M (m : Int32) : Nat := 4294967296 - m.toBitVec.toNat
theorem nf_sh : ∀ l, l < 32 → ((1 : Int32) <<< (nI l &&& 31)).toBitVec = BitVec.twoPow 32 l := by decide +kernel
theorem nf_sl : ∀ l, l < 32 → (((nI l).toUInt32 &&& Int32.toUInt32 31).toBitVec % 32).toNat = l := by decide +kernel
theorem nf_tp : ∀ l, l < 32 → BitVec.twoPow 32 l ≠ 0#32 := by decide +kernel
end
section
/-! rows of signs and masks out of functions -/
def rn_ (s : Nat → Nat) : Nat → Nat
  | 0 => 0
  | n + 1 => rn_ s n + s n * 3 ^ n
theorem rn_lt {s : Nat → Nat} : ∀ {n : Nat}, (∀ k, k < n → s k ≤ 2) → rn_ s n < 3 ^ n := by
  intro n
  induction n with
  | zero => intro _; simp [rn_]
  | succ n ih =>
    intro h
    have h1 := ih (fun k hk => h k (by omega))
    have h2 := h n (by omega)
    have h3 : s n * 3 ^ n ≤ 2 * 3 ^ n := Nat.mul_le_mul_right _ h2
    simp only [rn_]
    rw [Nat.pow_succ]
    omega
theorem rn_cg {s t : Nat → Nat} : ∀ {n : Nat}, (∀ k, k < n → s k = t k) → rn_ s n = rn_ t n := by
  intro n
  induction n with
  | zero => intro _; rfl
  | succ n ih =>
    intro h
    simp only [rn_]
    rw [ih (fun k hk => h k (by omega)), h n (by omega)]
theorem dg_add (r t : Nat) {k n : Nat} (h : k < n) : dg_ (r + t * 3 ^ n) k = dg_ r k := by
  obtain ⟨j, rfl⟩ : ∃ j, n = k + 1 + j := ⟨n - (k + 1), by omega⟩
  unfold dg_
  have e : r + t * 3 ^ (k + 1 + j) = r + (3 * (t * 3 ^ j)) * 3 ^ k := by
    rw [Nat.pow_add, Nat.pow_succ]
    congr 1
    grind
  rw [e, Nat.add_mul_div_right _ _ (Nat.pow_pos (by decide)), Nat.add_mul_mod_self_left]
theorem dg_top {r t n : Nat} (hr : r < 3 ^ n) (ht : t ≤ 2) : dg_ (r + t * 3 ^ n) n = t := by
  unfold dg_
  rw [Nat.add_mul_div_right _ _ (Nat.pow_pos (by decide)), Nat.div_eq_of_lt hr, Nat.zero_add]
  omega
theorem dg_high {r n k : Nat} (hr : r < 3 ^ n) (h : n ≤ k) : dg_ r k = 0 := by
  unfold dg_
  rw [Nat.div_eq_of_lt (Nat.lt_of_lt_of_le hr (Nat.pow_le_pow_right (by decide) h))]
theorem dg_le (r k : Nat) : dg_ r k ≤ 2 := by
  have := Nat.mod_lt (r / 3 ^ k) (show 0 < 3 by decide)
  unfold dg_
  omega
theorem dg_rn {s : Nat → Nat} : ∀ {n : Nat}, (∀ k, k < n → s k ≤ 2) → ∀ k, k < n → dg_ (rn_ s n) k = s k := by
  intro n
  induction n with
  | zero => intro _ k hk; omega
  | succ n ih =>
    intro h k hk
    simp only [rn_]
    rcases (show k < n ∨ k = n by omega) with q | rfl
    · rw [dg_add _ _ q]; exact ih (fun k hk => h k (by omega)) k q
    · exact dg_top (rn_lt (fun j hj => h j (by omega))) (h k (by omega))
theorem rn_mod (r : Nat) : ∀ n, rn_ (dg_ r) n = r % 3 ^ n := by
  intro n
  induction n with
  | zero => simp [rn_, Nat.mod_one]
  | succ n ih =>
    simp only [rn_]
    rw [ih, Nat.mod_pow_succ, Nat.mul_comm (3 ^ n)]
    rfl
theorem rn_dg {r n : Nat} (h : r < 3 ^ n) : rn_ (dg_ r) n = r := by rw [rn_mod, Nat.mod_eq_of_lt h]
theorem dg_ext {r r' n : Nat} (h : r < 3 ^ n) (h' : r' < 3 ^ n) (hd : ∀ k, k < n → dg_ r k = dg_ r' k) : r = r' := by
  rw [← rn_dg h, ← rn_dg h', rn_cg hd]
theorem rn_mix (f g : Nat → Nat) : ∀ n, rn_ (fun k => f k + 2 * g k) n = rn_ f n + 2 * rn_ g n := by
  intro n
  induction n with
  | zero => rfl
  | succ n ih => simp only [rn_]; rw [ih]; grind
theorem rn_pad {f : Nat → Nat} {n : Nat} : ∀ j, (∀ k, n ≤ k → f k = 0) → rn_ f (n + j) = rn_ f n := by
  intro j h
  induction j with
  | zero => rfl
  | succ j ih =>
    show rn_ f (n + j) + f (n + j) * 3 ^ (n + j) = _
    rw [h (n + j) (by omega), ih]; simp
theorem rn_pad' {f : Nat → Nat} {n m : Nat} (hm : n ≤ m) (h : ∀ k, n ≤ k → f k = 0) : rn_ f m = rn_ f n := by
  have := rn_pad (f := f) (n := n) (m - n) h
  rwa [show n + (m - n) = m by omega] at this
/-- a mask out of a function -/
def bn_ (b : Nat → Bool) : Nat → Nat
  | 0 => 0
  | n + 1 => bn_ b n + if b n = true then 2 ^ n else 0
theorem bn_lt (b : Nat → Bool) : ∀ n, bn_ b n < 2 ^ n := by
  intro n
  induction n with
  | zero => simp [bn_]
  | succ n ih =>
    simp only [bn_]
    rw [Nat.pow_succ]
    split <;> omega
theorem bn_lt8 (b : Nat → Bool) {n : Nat} (h : n ≤ 8) : bn_ b n < 256 := Nat.lt_of_lt_of_le (bn_lt b n) (Nat.pow_le_pow_right (n := 2) (j := 8) (by decide) h)
theorem bn_cg {a b : Nat → Bool} : ∀ {n : Nat}, (∀ k, k < n → a k = b k) → bn_ a n = bn_ b n := by
  intro n
  induction n with
  | zero => intro _; rfl
  | succ n ih =>
    intro h
    simp only [bn_]
    rw [ih (fun k hk => h k (by omega)), h n (by omega)]
theorem bn_bit (b : Nat → Bool) : ∀ n k, (bn_ b n).testBit k = (decide (k < n) && b k) := by
  intro n
  induction n with
  | zero => intro k; simp [bn_]
  | succ n ih =>
    intro k
    simp only [bn_]
    by_cases hb : b n = true
    · rw [if_pos hb, ← or_add (bn_lt b n), Nat.testBit_or, ih k, Nat.testBit_two_pow]
      rcases (show k < n ∨ k = n ∨ n < k by omega) with q | rfl | q
      · have : ¬ n = k := by omega
        simp [q, this, show k < n + 1 by omega]
      · simp [hb]
      · have h1 : ¬ k < n := by omega
        have h2 : ¬ k < n + 1 := by omega
        have h3 : ¬ n = k := by omega
        simp [h1, h2, h3]
    · rw [if_neg hb, Nat.add_zero, ih k]
      have hb' : b n = false := by simpa using hb
      rcases (show k < n ∨ k = n ∨ n < k by omega) with q | rfl | q
      · simp [q, show k < n + 1 by omega]
      · simp [hb']
      · have h1 : ¬ k < n := by omega
        have h2 : ¬ k < n + 1 := by omega
        simp [h1, h2]
theorem lt_bit {h n k : Nat} (hh : h < 2 ^ n) (hk : h.testBit k = true) : k < n := by
  refine Classical.byContradiction fun q => ?_
  rw [Nat.testBit_lt_two_pow (Nat.lt_of_lt_of_le hh (Nat.pow_le_pow_right (by decide) (by omega)))] at hk
  cases hk
theorem bn_of {h n : Nat} (hh : h < 2 ^ n) : bn_ (fun k => h.testBit k) n = h := by
  apply Nat.eq_of_testBit_eq
  intro k
  rw [bn_bit]
  by_cases q : k < n
  · simp [q]
  · have : h.testBit k = false := by
      cases e : h.testBit k with
      | false => rfl
      | true => exact absurd (lt_bit hh e) q
    simp [this]
theorem mk_bn (r s : Nat) : ∀ n, mk_ n r s = bn_ (fun k => decide (dg_ r k = s)) n := by
  intro n
  induction n with
  | zero => rfl
  | succ n ih =>
    simp only [mk_, bn_, ih]
    by_cases h : dg_ r n = s <;> simp [h]
theorem bn_pad {b : Nat → Bool} {n m : Nat} (hm : n ≤ m) (h : ∀ k, n ≤ k → b k = false) : bn_ b m = bn_ b n := by
  apply Nat.eq_of_testBit_eq
  intro k
  rw [bn_bit, bn_bit]
  rcases (show k < n ∨ n ≤ k by omega) with q | q
  · simp [q, show k < m by omega]
  · simp [h k q]
theorem mk_dig {r n s : Nat} (hn : n ≤ 8) (hr : r < 3 ^ n) (hs : 0 < s) : mk_ 8 r s = bn_ (fun k => decide (dg_ r k = s)) n := by
  rw [mk_bn]
  refine bn_pad hn (fun k hk => ?_)
  rw [dg_high hr hk]
  simp; omega
theorem bn_zero {b : Nat → Bool} {n : Nat} : bn_ b n = 0 ↔ ∀ k, k < n → b k = false := by
  constructor
  · intro h k hk
    have := bn_bit b n k
    rw [h, Nat.zero_testBit] at this
    simp [hk] at this
    exact this
  · intro h
    apply Nat.eq_of_testBit_eq
    intro k
    rw [bn_bit, Nat.zero_testBit]
    by_cases q : k < n
    · simp [h k q]
    · simp [q]
theorem bn_all (n : Nat) : bn_ (fun _ => true) n = 2 ^ n - 1 := by
  apply Nat.eq_of_testBit_eq
  intro k
  rw [bn_bit, Nat.testBit_two_pow_sub_one]
  simp
theorem bn_eq {a b : Nat → Bool} {n : Nat} : bn_ a n = bn_ b n ↔ ∀ k, k < n → a k = b k := by
  constructor
  · intro h k hk
    have h1 := bn_bit a n k
    have h2 := bn_bit b n k
    rw [h, h2] at h1
    simp [hk] at h1
    exact h1.symm
  · exact bn_cg
theorem bn_and (a b : Nat → Bool) (n : Nat) : bn_ a n &&& bn_ b n = bn_ (fun k => a k && b k) n := by
  apply Nat.eq_of_testBit_eq
  intro k
  rw [Nat.testBit_and, bn_bit, bn_bit, bn_bit]
  cases decide (k < n) <;> simp
theorem bn_or (a b : Nat → Bool) (n : Nat) : bn_ a n ||| bn_ b n = bn_ (fun k => a k || b k) n := by
  apply Nat.eq_of_testBit_eq
  intro k
  rw [Nat.testBit_or, bn_bit, bn_bit, bn_bit]
  cases decide (k < n) <;> simp
theorem bn_xor (a b : Nat → Bool) (n : Nat) : bn_ a n ^^^ bn_ b n = bn_ (fun k => a k ^^ b k) n := by
  apply Nat.eq_of_testBit_eq
  intro k
  rw [Nat.testBit_xor, bn_bit, bn_bit, bn_bit]
  cases decide (k < n) <;> simp
/-- one mask without another -/
theorem nI_andn (a b : Nat) : nI a &&& (nI b ^^^ (-1 : Int32)) = nI (a ^^^ (a &&& b)) := by
  rw [← nI_xor, ← nI_and]
  apply b_ext
  intro i hi
  rw [b_and, b_xor, b_xor, b_and, b_m1 i hi]
  cases bt (nI a) i <;> cases bt (nI b) i <;> rfl
theorem bn_andn (a b : Nat → Bool) (n : Nat) : nI (bn_ a n) &&& (nI (bn_ b n) ^^^ (-1 : Int32)) = nI (bn_ (fun k => a k && !b k) n) := by
  rw [nI_andn, bn_and, bn_xor]
  congr 1
  refine bn_cg (fun k _ => ?_)
  cases a k <;> cases b k <;> rfl
theorem nI_all {n : Nat} (h : n ≤ 8) : ((1 : Int32) <<< (nI n &&& 31)) - (1 : Int32) = nI (2 ^ n - 1) := by
  rw [sh_1 n (by omega), show (1 : Int32) = nI 1 from rfl, pk_sub (Nat.pow_pos (by decide))]
/-- signs, packed: the walls that the place is on, and 256 times those that it is above -/
def sp_ (s : Nat → Nat) (n : Nat) : Nat := bn_ (fun k => decide (s k = 1)) n + 256 * bn_ (fun k => decide (s k = 2)) n
theorem sp_lt {s : Nat → Nat} {n : Nat} (h : n ≤ 8) : sp_ s n < 65536 := by
  have h1 := bn_lt8 (fun k => decide (s k = 1)) h
  have h2 := bn_lt8 (fun k => decide (s k = 2)) h
  unfold sp_
  omega
theorem f_onMask {s : Nat → Nat} {n : Nat} (h : n ≤ 8) : fX5_onMask (nI (sp_ s n)) = some (nI (bn_ (fun k => decide (s k = 1)) n)) := by
  unfold fX5_onMask
  have h1 := bn_lt8 (fun k => decide (s k = 1)) h
  rw [pk_andN (m := 255) (Nat.lt_trans (sp_lt h) (by decide)) 8 (by decide)]
  unfold sp_
  rw [show (2 : Nat) ^ 8 = 256 from rfl, Nat.add_mul_mod_self_left, Nat.mod_eq_of_lt h1]
theorem f_aboveMask {s : Nat → Nat} {n : Nat} (h : n ≤ 8) : fX5_aboveMask (nI (sp_ s n)) = some (nI (bn_ (fun k => decide (s k = 2)) n)) := by
  unfold fX5_aboveMask
  have h1 := bn_lt8 (fun k => decide (s k = 1)) h
  have h2 := bn_lt8 (fun k => decide (s k = 2)) h
  have h3 := sp_lt (s := s) h
  rw [pk_shrN (Nat.lt_trans h3 (by decide)) ((8 : Int32) &&& 31) 8 (by decide), pk_andN (m := 255) (Nat.lt_of_le_of_lt (Nat.div_le_self _ _) (Nat.lt_trans h3 (by decide))) 8 (by decide)]
  unfold sp_
  rw [show (2 : Nat) ^ 8 = 256 from rfl, Nat.add_mul_div_left _ _ (by decide), Nat.div_eq_of_lt h1, Nat.zero_add, Nat.mod_eq_of_lt h2]
/-- the sum of the powers of three at a heap's walls -/
def th_ (h : Nat) : Nat := rn_ (fun k => if h.testBit k = true then 1 else 0) 8
theorem th_lt (h : Nat) : th_ h < 6561 := rn_lt (n := 8) (fun k _ => by split <;> omega)
def TH_ (vth : Nat → Int32) : Prop := ∀ h, h < 256 → vth h = nI (th_ h)
theorem sp_row {s : Nat → Nat} {n : Nat} (h : n ≤ 8) (hs : ∀ k, k < n → s k ≤ 2) : th_ (bn_ (fun k => decide (s k = 1)) n) + 2 * th_ (bn_ (fun k => decide (s k = 2)) n) = rn_ s n := by
  unfold th_
  rw [← rn_mix]
  rw [rn_pad' (n := n) h (fun k hk => by
    have q : ¬ k < n := by omega
    simp [bn_bit, q])]
  refine rn_cg (fun k hk => ?_)
  have := hs k hk
  simp only [bn_bit]
  rcases (show s k = 0 ∨ s k = 1 ∨ s k = 2 by omega) with q | q | q <;> simp [hk, q]
theorem f_rowOf {vth : Nat → Int32} (hT : TH_ vth) {s : Nat → Nat} {n : Nat} (h : n ≤ 8) (hs : ∀ k, k < n → s k ≤ 2) : fX3_rowOf vth (nI (sp_ s n)) = some (nI (rn_ s n)) := by
  have h1 := bn_lt8 (fun k => decide (s k = 1)) h
  have h2 := bn_lt8 (fun k => decide (s k = 2)) h
  unfold fX3_rowOf
  rw [bind_yes (f_onMask h), ck_yes (in_R_nI h1 (by decide)), bind_yes (f_aboveMask h), ck_yes (in_R_nI h2 (by decide)), nI_clamp (Nat.lt_trans h1 (by decide)), nI_clamp (Nat.lt_trans h2 (by decide)), hT _ h1, hT _ h2, show (2 : Int32) = nI 2 from rfl, pk_mul, nI_add, sp_row h hs]
theorem rn_6561 {s : Nat → Nat} {n : Nat} (h : n ≤ 8) (hs : ∀ k, k < n → s k ≤ 2) : rn_ s n < 6561 := Nat.lt_of_lt_of_le (rn_lt hs) (Nat.pow_le_pow_right (n := 3) (j := 8) (by decide) h)
theorem p3_6561 {n : Nat} (h : n ≤ 8) : 3 ^ n ≤ 6561 := Nat.pow_le_pow_right (n := 3) (j := 8) (by decide) h
end
section
/-! signs, arrows: the class's planes as whole numbers -/
def ab_ (z : Int) (B : Nat) : Prop := z.natAbs ≤ B
theorem ab_mul {x y : Int} {A B : Nat} (h : ab_ x A) (h' : ab_ y B) : ab_ (x * y) (A * B) := by
  unfold ab_ at *
  rw [Int.natAbs_mul]
  exact Nat.mul_le_mul h h'
theorem ab_add {x y : Int} {A B : Nat} (h : ab_ x A) (h' : ab_ y B) : ab_ (x + y) (A + B) := by unfold ab_ at *; omega
theorem ab_sub {x y : Int} {A B : Nat} (h : ab_ x A) (h' : ab_ y B) : ab_ (x - y) (A + B) := by unfold ab_ at *; omega
theorem ab_neg {x : Int} {A : Nat} (h : ab_ x A) : ab_ (- x) A := by unfold ab_ at *; omega
theorem ab_mono {x : Int} {A B : Nat} (h : ab_ x A) (hAB : A ≤ B) : ab_ x B := Nat.le_trans h hAB
theorem ab_sm {x : Int} {A : Nat} (h : ab_ x A) (hA : A < 2147483648) : sm_ x := by unfold ab_ at h; unfold sm_; omega
theorem ab_sl {x : Int} {A : Nat} (h : ab_ x A) (hA : A < 9223372036854775808) : sl_ x := by unfold ab_ at h; unfold sl_; omega
/-- a wall's numbers are small -/
def bw_ (w : Wl_) : Prop := ab_ w.1 9 ∧ ab_ w.2.1 9 ∧ ab_ w.2.2.1 9 ∧ ab_ w.2.2.2 99
/-- the plane at a place of the class's rows -/
def gC_ (va vb vc ve : Nat → Int32) (k : Nat) : Wl_ := ((va k).toInt, (vb k).toInt, (vc k).toInt, (ve k).toInt)
theorem gC_a (va vb vc ve : Nat → Int32) (k : Nat) : va k = iI_ (gC_ va vb vc ve k).1 := (iI_of _).symm
theorem gC_b (va vb vc ve : Nat → Int32) (k : Nat) : vb k = iI_ (gC_ va vb vc ve k).2.1 := (iI_of _).symm
theorem gC_c (va vb vc ve : Nat → Int32) (k : Nat) : vc k = iI_ (gC_ va vb vc ve k).2.2.1 := (iI_of _).symm
theorem gC_e (va vb vc ve : Nat → Int32) (k : Nat) : ve k = iI_ (gC_ va vb vc ve k).2.2.2 := (iI_of _).symm
def sz_ (z : Int) : Nat := if z = 0 then 1 else if z ≤ 0 then 0 else 2
theorem sz_le (z : Int) : sz_ z ≤ 2 := by unfold sz_; split <;> (try split) <;> omega
theorem sg_int (z : Int) : sg_ (z : Rat) = sz_ z := by
  unfold sz_
  by_cases h0 : z = 0
  · rw [if_pos h0]; exact sg_zero (rI_zero.mpr h0)
  · rw [if_neg h0]
    by_cases h1 : z ≤ 0
    · rw [if_pos h1]; exact sg_neg (rI_neg.mpr (by omega))
    · rw [if_neg h1]; exact sg_pos (rI_pos.mpr (by omega))
/-- how far x, y, z is above a wall, t times -/
def ov_ (w : Wl_) (x y z t : Int) : Int := w.1 * x + w.2.1 * y + w.2.2.1 * z - w.2.2.2 * t
theorem ov_dr (w : Wl_) (x y z : Int) : ((ov_ w x y z 0 : Int) : Rat) = dr_ w ((x : Rat), (y : Rat), (z : Rat)) := by
  simp only [ov_, dr_, Rat.intCast_add, Rat.intCast_sub, Rat.intCast_mul]; grind
theorem sp_or (s : Nat → Nat) {k : Nat} (hk : k ≤ 8) : sp_ s k = 2 ^ 8 * bn_ (fun j => decide (s j = 2)) k ||| bn_ (fun j => decide (s j = 1)) k := by
  rw [← Nat.two_pow_add_eq_or_of_lt (bn_lt8 _ hk)]
  unfold sp_
  omega
theorem sp_on {s : Nat → Nat} {k : Nat} (hk : k < 8) (h : s k = 1) : sp_ s k ||| 2 ^ k = sp_ s (k + 1) := by
  rw [sp_or s (by omega), sp_or s (by omega), Nat.or_assoc, or_add (bn_lt _ k)]
  simp only [bn_, h]
  simp
theorem sp_ab {s : Nat → Nat} {k : Nat} (hk : k < 8) (h : s k = 2) : sp_ s k ||| 2 ^ (k + 8) = sp_ s (k + 1) := by
  rw [sp_or s (by omega), sp_or s (by omega), Nat.or_comm, ← Nat.or_assoc]
  simp only [bn_, h]
  simp only [decide_true, if_true, show decide (2 = 1) = false from rfl]
  have e : 2 ^ (k + 8) ||| 2 ^ 8 * bn_ (fun j => decide (s j = 2)) k = 2 ^ 8 * (bn_ (fun j => decide (s j = 2)) k + 2 ^ k) := by
    rw [← or_add (bn_lt _ k), Nat.mul_comm (2 ^ 8), Nat.mul_comm (2 ^ 8), ← Nat.shiftLeft_eq, ← Nat.shiftLeft_eq, Nat.shiftLeft_or_distrib, Nat.or_comm, Nat.shiftLeft_eq (2 ^ k), ← Nat.pow_add]
  rw [e]
  simp
theorem sp_no {s : Nat → Nat} {k : Nat} (h : s k = 0) : sp_ s (k + 1) = sp_ s k := by
  unfold sp_
  simp [bn_, h]
theorem f_signs {va vb vc ve : Nat → Int32} {n : Nat} (hn : n ≤ 8) {x y z t : Int} (hb : ∀ k, k < n → sm_ (ov_ (gC_ va vb vc ve k) x y z t)) :
    fX3_signs (nI n) va vb vc ve (iI_ x) (iI_ y) (iI_ z) (iI_ t) = some (nI (sp_ (fun k => sz_ (ov_ (gC_ va vb vc ve k) x y z t)) n)) := by
  generalize hs : (fun k => sz_ (ov_ (gC_ va vb vc ve k) x y z t)) = s
  have hsk : ∀ k, s k = sz_ (ov_ (gC_ va vb vc ve k) x y z t) := fun k => by rw [← hs]
  unfold fX3_signs
  refine bind_yes (a := (nI n, nI (sp_ s n))) ?_
  refine lp_seq (body := fun (st : (Int32 × Int32)) => fX3_signs_L6 (nI n) va (iI_ x) vb (iI_ y) vc (iI_ z) ve (iI_ t) st.1 st.2) (fun k => (nI k, nI (sp_ s k))) n (by omega) (r := (nI n, nI (sp_ s n))) ?_ ?_
  · intro k hk
    show fX3_signs_L6 (nI n) va (iI_ x) vb (iI_ y) vc (iI_ z) ve (iI_ t) (nI k) (nI (sp_ s k)) = _
    unfold fX3_signs_L6
    have hR : in_R (nI k) 11 := in_R_nI (by omega) (by decide)
    rw [if_neg (nI_ge hk (by omega)), ck_yes hR, ck_yes hR, ck_yes hR, ck_yes hR, nI_clamp (by omega)]
    rw [gC_a va vb vc ve k, gC_b va vb vc ve k, gC_c va vb vc ve k, gC_e va vb vc ve k, iI_mul, iI_mul, iI_mul, iI_mul, iI_add, iI_add, iI_sub]
    show nm_ (iI_ (ov_ (gC_ va vb vc ve k) x y z t)) _ = _
    unfold nm_
    have h0 := hb k hk
    have hz : sm_ 0 := by unfold sm_; omega
    have e1 : (iI_ (ov_ (gC_ va vb vc ve k) x y z t) = 0) ↔ ov_ (gC_ va vb vc ve k) x y z t = 0 := iI_eq h0 hz
    have e2 : (iI_ (ov_ (gC_ va vb vc ve k) x y z t) ≤ 0) ↔ ov_ (gC_ va vb vc ve k) x y z t ≤ 0 := iI_le h0 hz
    have hq := hsk k
    unfold sz_ at hq
    by_cases c0 : ov_ (gC_ va vb vc ve k) x y z t = 0
    · rw [if_pos c0] at hq
      simp only [e1.mpr c0, if_true]
      rw [sh_1 k (by omega), nI_or, sp_on (by omega) hq, nI_1]
    · rw [if_neg c0] at hq
      simp only [e1, if_neg c0]
      by_cases c1 : ov_ (gC_ va vb vc ve k) x y z t ≤ 0
      · rw [if_pos c1] at hq
        simp only [e2, if_pos c1]
        rw [nI_1, sp_no hq]
      · rw [if_neg c1] at hq
        simp only [e2, if_neg c1]
        rw [show nI k + (8 : Int32) = nI (k + 8) from nI_add k 8, sh_1 (k + 8) (by omega), nI_or, sp_ab (by omega) hq, nI_1]
  · show fX3_signs_L6 (nI n) va (iI_ x) vb (iI_ y) vc (iI_ z) ve (iI_ t) (nI n) (nI (sp_ s n)) = _
    unfold fX3_signs_L6
    rw [if_pos (nI_le (Nat.le_refl n) (by omega))]
/-- the way along two planes, in whole numbers -/
def ci_ (x y : Wl_) : Int × Int × Int := (x.2.1 * y.2.2.1 - x.2.2.1 * y.2.1, x.2.2.1 * y.1 - x.1 * y.2.2.1, x.1 * y.2.1 - x.2.1 * y.1)
theorem cx_ci (x y : Wl_) : cx_ x y = (((ci_ x y).1 : Rat), ((ci_ x y).2.1 : Rat), ((ci_ x y).2.2 : Rat)) := by
  simp only [cx_, ci_, Rat.intCast_sub, Rat.intCast_mul]
theorem ci_0 (x y : Wl_) : cx_ x y = o3_ ↔ (ci_ x y).1 = 0 ∧ (ci_ x y).2.1 = 0 ∧ (ci_ x y).2.2 = 0 := by
  rw [cx_ci]
  simp only [o3_, Prod.mk.injEq, rI_zero]
/-- how fast a way leads up over a plane -/
def cl_ (w : Wl_) (v : Int × Int × Int) : Int := w.1 * v.1 + w.2.1 * v.2.1 + w.2.2.1 * v.2.2
theorem cl_dr (w : Wl_) (v : Int × Int × Int) : ((cl_ w v : Int) : Rat) = dr_ w ((v.1 : Rat), (v.2.1 : Rat), (v.2.2 : Rat)) := by
  simp only [cl_, dr_, Rat.intCast_add, Rat.intCast_mul]
theorem cl_cx (w x y : Wl_) : ((cl_ w (ci_ x y) : Int) : Rat) = dr_ w (cx_ x y) := by rw [cl_dr, ← cx_ci]
theorem ab_ci {x y : Wl_} (hx : bw_ x) (hy : bw_ y) : ab_ (ci_ x y).1 162 ∧ ab_ (ci_ x y).2.1 162 ∧ ab_ (ci_ x y).2.2 162 := by
  obtain ⟨a1, a2, a3, -⟩ := hx
  obtain ⟨b1, b2, b3, -⟩ := hy
  exact ⟨ab_sub (ab_mul a2 b3) (ab_mul a3 b2), ab_sub (ab_mul a3 b1) (ab_mul a1 b3), ab_sub (ab_mul a1 b2) (ab_mul a2 b1)⟩
theorem ab_cl {w : Wl_} {v : Int × Int × Int} {B : Nat} (hw : bw_ w) (h1 : ab_ v.1 B) (h2 : ab_ v.2.1 B) (h3 : ab_ v.2.2 B) : ab_ (cl_ w v) (27 * B) := by
  obtain ⟨a1, a2, a3, -⟩ := hw
  exact ab_mono (ab_add (ab_add (ab_mul a1 h1) (ab_mul a2 h2)) (ab_mul a3 h3)) (by omega)
theorem f_cross {va vb vc : Nat → Int32} (ve : Nat → Int32) {j : Nat} (hj : j < 11) (x y z : Int) :
    fX0_crossWith va vb vc (iI_ x) (iI_ y) (iI_ z) (nI j) = some (iI_ (y * (gC_ va vb vc ve j).2.2.1 - z * (gC_ va vb vc ve j).2.1), iI_ (z * (gC_ va vb vc ve j).1 - x * (gC_ va vb vc ve j).2.2.1), iI_ (x * (gC_ va vb vc ve j).2.1 - y * (gC_ va vb vc ve j).1)) := by
  have hR : in_R (nI j) 11 := in_R_nI hj (by decide)
  unfold fX0_crossWith
  rw [ck_yes hR, ck_yes hR, ck_yes hR, nI_clamp (by omega)]
  unfold fX0_set
  show some _ = some _
  rw [gC_a va vb vc ve j, gC_b va vb vc ve j, gC_c va vb vc ve j]
  simp only [iI_mul, iI_sub]
theorem f_along {va vb vc : Nat → Int32} (ve : Nat → Int32) {i j : Nat} (hi : i < 11) (hj : j < 11) :
    fX0_alongBoth va vb vc (nI i) (nI j) = some (iI_ (ci_ (gC_ va vb vc ve i) (gC_ va vb vc ve j)).1, iI_ (ci_ (gC_ va vb vc ve i) (gC_ va vb vc ve j)).2.1, iI_ (ci_ (gC_ va vb vc ve i) (gC_ va vb vc ve j)).2.2) := by
  have hR : in_R (nI i) 11 := in_R_nI hi (by decide)
  unfold fX0_alongBoth
  rw [ck_yes hR, ck_yes hR, ck_yes hR, nI_clamp (by omega)]
  unfold fX0_set
  show (fX0_crossWith va vb vc (va i) (vb i) (vc i) (nI j)).bind _ = _
  rw [gC_a va vb vc ve i, gC_b va vb vc ve i, gC_c va vb vc ve i, bind_yes (f_cross ve hj _ _ _)]
  rfl
theorem f_climb {va vb vc : Nat → Int32} (ve : Nat → Int32) {j : Nat} (hj : j < 11) (x y z : Int) :
    fX0_climb va vb vc (iI_ x) (iI_ y) (iI_ z) (nI j) = some (iI_ (cl_ (gC_ va vb vc ve j) (x, y, z))) := by
  have hR : in_R (nI j) 11 := in_R_nI hj (by decide)
  unfold fX0_climb
  rw [ck_yes hR, ck_yes hR, ck_yes hR, nI_clamp (by omega), gC_a va vb vc ve j, gC_b va vb vc ve j, gC_c va vb vc ve j, iI_mul, iI_mul, iI_mul, iI_add, iI_add]
  rfl
theorem f_nothing {x y z : Int} (hx : sm_ x) (hy : sm_ y) (hz : sm_ z) : fX0_isNothing (iI_ x) (iI_ y) (iI_ z) = some (if x = 0 ∧ y = 0 ∧ z = 0 then 1 else 0) := by
  have h0 : sm_ 0 := by unfold sm_; omega
  have e1 : (iI_ x = 0) ↔ x = 0 := iI_eq hx h0
  have e2 : (iI_ y = 0) ↔ y = 0 := iI_eq hy h0
  have e3 : (iI_ z = 0) ↔ z = 0 := iI_eq hz h0
  unfold fX0_isNothing
  simp only [e1, e2, e3]
  by_cases c1 : x = 0 <;> by_cases c2 : y = 0 <;> by_cases c3 : z = 0 <;> simp [c1, c2, c3]
/-- the planes that cross: walls, and the three axis planes behind them -/
def ix_ (n i : Nat) : Nat := if i < n then i else 8 + (i - n)
theorem f_indexOf {n i : Nat} (hn : n ≤ 8) (hi : i < n + 3) : fX3_indexOf (nI n) (nI i) = some (nI (ix_ n i)) := by
  unfold fX3_indexOf ix_
  by_cases h : i < n
  · rw [if_neg (nI_ge h (by omega)), if_pos h]
  · rw [if_pos (nI_le (show n ≤ i by omega) (by omega)), if_neg h, show (8 : Int32) + nI i = nI (8 + i) from nI_add 8 i, pk_sub (show n ≤ 8 + i by omega), show (10 : Int32) = nI 10 from rfl, if_neg (nI_nlt (show 8 + i - n ≤ 10 by omega) (by omega)), show 8 + i - n = 8 + (i - n) by omega]
theorem ix_lt {n i : Nat} (hn : n ≤ 8) (hi : i < n + 3) : ix_ n i < 11 := by unfold ix_; split <;> omega
end
section
/-! the class's ranks of all heaps -/
def hS_ (G : Nat → Wl_) (h : Nat) : Wl_ → Prop := fun x => ∃ k, h.testBit k = true ∧ x = G k
theorem rk_inv0 {X : Wl_ → Prop} (h : rk_ X = 0) : ¬ ∃ x, X x := by
  intro hx
  unfold rk_ at h
  by_cases h3 : R3_ X
  · rw [if_pos h3] at h; cases h
  · rw [if_neg h3] at h
    by_cases h2 : R2_ X
    · rw [if_pos h2] at h; cases h
    · rw [if_neg h2, if_pos hx] at h; cases h
theorem rk_inv1 {X : Wl_ → Prop} (h : rk_ X = 1) : (∃ x, X x) ∧ ¬ R2_ X := by
  unfold rk_ at h
  by_cases h3 : R3_ X
  · rw [if_pos h3] at h; cases h
  · rw [if_neg h3] at h
    by_cases h2 : R2_ X
    · rw [if_pos h2] at h; cases h
    · rw [if_neg h2] at h
      by_cases hx : ∃ x, X x
      · exact ⟨hx, h2⟩
      · rw [if_neg hx] at h; cases h
theorem rk_inv2 {X : Wl_ → Prop} (h : rk_ X = 2) : R2_ X ∧ ¬ R3_ X := by
  unfold rk_ at h
  by_cases h3 : R3_ X
  · rw [if_pos h3] at h; cases h
  · rw [if_neg h3] at h
    by_cases h2 : R2_ X
    · exact ⟨h2, h3⟩
    · rw [if_neg h2] at h
      by_cases hx : ∃ x, X x
      · rw [if_pos hx] at h; cases h
      · rw [if_neg hx] at h; cases h
theorem rk_inv3 {X : Wl_ → Prop} (h : rk_ X = 3) : R3_ X := by
  refine Classical.byContradiction fun h3 => ?_
  unfold rk_ at h
  rw [if_neg h3] at h
  by_cases h2 : R2_ X
  · rw [if_pos h2] at h; cases h
  · rw [if_neg h2] at h
    by_cases hx : ∃ x, X x
    · rw [if_pos hx] at h; cases h
    · rw [if_neg hx] at h; cases h
theorem par_tr {x w w' : Wl_} (hn : nv_ x ≠ o3_) (h : cx_ x w = o3_) (h' : cx_ x w' = o3_) : cx_ w w' = o3_ := by
  refine Classical.byContradiction fun hc => ?_
  obtain ⟨a, b, ha, hb, hab⟩ := ways_2 x
  obtain ⟨t, rfl⟩ := along_cx (par_2 h hn ha) (par_2 h' hn ha) hc
  obtain ⟨s, rfl⟩ := along_cx (par_2 h hn hb) (par_2 h' hn hb) hc
  apply hab
  simp only [mu_]
  refine ⟨?_, ?_, ?_⟩ <;> grind
section RA
variable {X : Wl_ → Prop} {z : Wl_}
theorem rk_add0 (h : rk_ X = 0) : rk_ (fun x => X x ∨ x = z) = 1 := by
  have hX := rk_inv0 h
  have h2 : ¬ R2_ (fun x => X x ∨ x = z) := by
    rintro ⟨x, y, hx, hy, hc⟩
    rcases hx with hx | rfl
    · exact hX ⟨x, hx⟩
    · rcases hy with hy | rfl
      · exact hX ⟨y, hy⟩
      · exact hc (cx_self _)
  exact rk_1 ⟨z, Or.inr rfl⟩ h2 (fun h3 => h2 (R3_R2 h3))
theorem rk_add1 (h : rk_ X = 1) {x : Wl_} (hx : X x) (hn : nv_ x ≠ o3_) (hc : cx_ x z = o3_) : rk_ (fun w => X w ∨ w = z) = 1 := by
  obtain ⟨_, h2⟩ := rk_inv1 h
  have hall : ∀ w, (X w ∨ w = z) → cx_ x w = o3_ := by
    rintro w (hw | rfl)
    · exact Classical.byContradiction fun q => h2 ⟨x, w, hx, hw, q⟩
    · exact hc
  have h2' : ¬ R2_ (fun w => X w ∨ w = z) := by
    rintro ⟨a, b, ha, hb, hab⟩
    exact hab (par_tr hn (hall a ha) (hall b hb))
  exact rk_1 ⟨z, Or.inr rfl⟩ h2' (fun h3 => h2' (R3_R2 h3))
theorem rk_add1' (h : rk_ X = 1) {x : Wl_} (hx : X x) (hn : nv_ x ≠ o3_) (hc : cx_ x z ≠ o3_) : rk_ (fun w => X w ∨ w = z) = 2 := by
  obtain ⟨_, h2⟩ := rk_inv1 h
  refine rk_2 ⟨x, z, Or.inl hx, Or.inr rfl, hc⟩ ?_
  have hall : ∀ w, (X w ∨ w = z) → dr_ w (cx_ x z) = 0 := by
    rintro w (hw | rfl)
    · exact par_2 (Classical.byContradiction fun q => h2 ⟨x, w, hx, hw, q⟩) hn (dr_cx1 _ _)
    · exact dr_cx2 _ _
  rintro ⟨a, b, c, ha, hb, hcc, hd⟩
  exact hd (one_way hc (hall a ha) (hall b hb) (hall c hcc))
theorem rk_add2 (h : rk_ X = 2) {x y : Wl_} (hx : X x) (hy : X y) (hc : cx_ x y ≠ o3_) (hz : dr_ z (cx_ x y) = 0) : rk_ (fun w => X w ∨ w = z) = 2 := by
  obtain ⟨_, h3⟩ := rk_inv2 h
  refine rk_2 ⟨x, y, Or.inl hx, Or.inl hy, hc⟩ ?_
  have hall : ∀ w, (X w ∨ w = z) → dr_ w (cx_ x y) = 0 := by
    rintro w (hw | rfl)
    · exact flat_all h3 hx hy hw hc (dr_cx1 _ _) (dr_cx2 _ _)
    · exact hz
  rintro ⟨a, b, c, ha, hb, hcc, hd⟩
  exact hd (one_way hc (hall a ha) (hall b hb) (hall c hcc))
theorem rk_add2' {x y : Wl_} (hx : X x) (hy : X y) (hz : dr_ z (cx_ x y) ≠ 0) : rk_ (fun w => X w ∨ w = z) = 3 :=
  rk_3 ⟨x, y, z, Or.inl hx, Or.inl hy, Or.inr rfl, hz⟩
theorem rk_add3 (h : rk_ X = 3) : rk_ (fun w => X w ∨ w = z) = 3 := by
  obtain ⟨x, y, w, hx, hy, hw, hd⟩ := rk_inv3 h
  exact rk_3 ⟨x, y, w, Or.inl hx, Or.inl hy, Or.inl hw, hd⟩
end RA
theorem bit_more {h k : Nat} (hh : h < 2 ^ k) (j : Nat) : (h + 2 ^ k).testBit j = (h.testBit j || decide (j = k)) := by rw [← or_add hh, fb_bit_set]
theorem hS_more {G : Nat → Wl_} {h k : Nat} (hh : h < 2 ^ k) : rk_ (hS_ G (h + 2 ^ k)) = rk_ (fun x => hS_ G h x ∨ x = G k) := by
  refine rk_cg (fun x => ?_)
  constructor
  · rintro ⟨j, hj, rfl⟩
    rw [bit_more hh] at hj
    rcases Bool.or_eq_true_iff.mp hj with q | q
    · exact Or.inl ⟨j, q, rfl⟩
    · rw [of_decide_eq_true q]; exact Or.inr rfl
  · rintro (⟨j, hj, rfl⟩ | rfl)
    · exact ⟨j, by rw [bit_more hh, hj]; rfl, rfl⟩
    · exact ⟨k, by rw [bit_more hh]; simp, rfl⟩
/-- what the rows of ranks and keys hold of a heap -/
def KV_ (G : Nat → Wl_) (h : Nat) (r x y z : Int32) : Prop :=
  r = nI (rk_ (hS_ G h)) ∧
  (rk_ (hS_ G h) = 1 → ∃ j, h.testBit j = true ∧ x = iI_ (G j).1 ∧ y = iI_ (G j).2.1 ∧ z = iI_ (G j).2.2.1) ∧
  (rk_ (hS_ G h) = 2 → ∃ i j, h.testBit i = true ∧ h.testBit j = true ∧ cx_ (G i) (G j) ≠ o3_ ∧ x = iI_ (ci_ (G i) (G j)).1 ∧ y = iI_ (ci_ (G i) (G j)).2.1 ∧ z = iI_ (ci_ (G i) (G j)).2.2)
theorem f_crossC {va vb vc : Nat → Int32} (ve : Nat → Int32) {i j : Nat} (hj : j < 11) :
    fX0_crossWith va vb vc (iI_ (gC_ va vb vc ve i).1) (iI_ (gC_ va vb vc ve i).2.1) (iI_ (gC_ va vb vc ve i).2.2.1) (nI j) = some (iI_ (ci_ (gC_ va vb vc ve i) (gC_ va vb vc ve j)).1, iI_ (ci_ (gC_ va vb vc ve i) (gC_ va vb vc ve j)).2.1, iI_ (ci_ (gC_ va vb vc ve i) (gC_ va vb vc ve j)).2.2) := f_cross ve hj _ _ _
theorem f_rankWith {va vb vc ve vrk vkx vky vkz : Nat → Int32} {h k : Nat} (hk : k < 8) (hh : h < 2 ^ k) (hb : ∀ j, j ≤ k → bw_ (gC_ va vb vc ve j)) (hn : ∀ j, j ≤ k → nv_ (gC_ va vb vc ve j) ≠ o3_)
    (hV : KV_ (gC_ va vb vc ve) h (vrk h) (vkx h) (vky h) (vkz h)) :
    ∃ r x y z, fX2_rankWith va vb vc vrk vkx vky vkz (nI h) (nI k) = some (upd vrk (h + 2 ^ k) r, upd vkx (h + 2 ^ k) x, upd vky (h + 2 ^ k) y, upd vkz (h + 2 ^ k) z, x, y, z) ∧ KV_ (gC_ va vb vc ve) (h + 2 ^ k) r x y z := by
  have h256 : h + 2 ^ k < 256 := by
    have : 2 ^ (k + 1) ≤ 2 ^ 8 := Nat.pow_le_pow_right (by decide) (by omega)
    rw [Nat.pow_succ] at this
    omega
  have hR : in_R (nI h) 256 := in_R_nI (by omega) (by decide)
  have hRk : in_R (nI k) 11 := in_R_nI (by omega) (by decide)
  have hRm : in_R (nI (h + 2 ^ k)) 256 := in_R_nI h256 (by decide)
  have hor : nI h ||| ((1 : Int32) <<< (nI k &&& 31)) = nI (h + 2 ^ k) := by rw [sh_1 k (by omega), nI_or, or_add hh]
  unfold fX2_rankWith
  rw [ck_yes hR, ck_yes hR, ck_yes hR, ck_yes hR, hor]
  simp only [nI_clamp (show h < 2 ^ 31 by omega), nI_clamp (show k < 2 ^ 31 by omega), nI_clamp (show h + 2 ^ k < 2 ^ 31 by omega)]
  unfold fX0_set
  simp only [Option.bind_some]
  obtain ⟨hr, hk1, hk2⟩ := hV
  have hle := rk_le3 (hS_ (gC_ va vb vc ve) h)
  have hmore := hS_more (G := gC_ va vb vc ve) hh
  generalize hg : rk_ (hS_ (gC_ va vb vc ve) h) = g at *
  have hbit : ∀ j, h.testBit j = true → j ≤ k := fun j hj => Nat.le_of_lt (lt_bit hh hj)
  have hup : ∀ j, h.testBit j = true → (h + 2 ^ k).testBit j = true := fun j hj => by rw [bit_more hh, hj]; rfl
  have hkk : (h + 2 ^ k).testBit k = true := by rw [bit_more hh]; simp
  rw [hr]
  rcases (show g = 0 ∨ g = 1 ∨ g = 2 ∨ g = 3 by omega) with rfl | rfl | rfl | rfl
  · rw [if_pos (show nI 0 = 0 from rfl), ck_yes hRk, ck_yes hRk, ck_yes hRk]
    rw [Option.bind_some, ck_yes hRm, ck_yes hRm, ck_yes hRm, ck_yes hRm]
    have e := hmore.trans (rk_add0 (z := gC_ va vb vc ve k) hg)
    refine ⟨_, _, _, _, rfl, ?_, ?_, ?_⟩
    · rw [e]; rfl
    · intro _; exact ⟨k, hkk, gC_a va vb vc ve k, gC_b va vb vc ve k, gC_c va vb vc ve k⟩
    · intro q; rw [e] at q; cases q
  · rw [if_neg (show ¬ nI 1 = 0 by decide), if_pos (show nI 1 = 1 from rfl)]
    obtain ⟨j, hj, ex, ey, ez⟩ := hk1 rfl
    have hX : hS_ (gC_ va vb vc ve) h (gC_ va vb vc ve j) := ⟨j, hj, rfl⟩
    have hbj := hb j (hbit j hj)
    have hbk := hb k (Nat.le_refl k)
    have hab := ab_ci hbj hbk
    rw [ex, ey, ez, bind_yes (f_crossC ve (by omega))]
    rw [bind_yes (f_nothing (ab_sm hab.1 (by decide)) (ab_sm hab.2.1 (by decide)) (ab_sm hab.2.2 (by decide)))]
    by_cases hc : cx_ (gC_ va vb vc ve j) (gC_ va vb vc ve k) = o3_
    · have h0 := (ci_0 _ _).mp hc
      rw [if_pos (show _ ∧ _ ∧ _ from h0), if_neg (show ¬ (1 : Int32) = 0 by decide), ck_yes hR, ck_yes hR, ck_yes hR]
      rw [Option.bind_some, ck_yes hRm, ck_yes hRm, ck_yes hRm, ck_yes hRm]
      have e := hmore.trans (rk_add1 (z := gC_ va vb vc ve k) hg hX (hn j (hbit j hj)) hc)
      refine ⟨_, _, _, _, rfl, ?_, ?_, ?_⟩
      · rw [e]
      · intro _; exact ⟨j, hup j hj, rfl, rfl, rfl⟩
      · intro q; rw [e] at q; cases q
    · have h0 : ¬ _ := fun q => hc ((ci_0 _ _).mpr q)
      rw [if_neg (show ¬ (_ ∧ _ ∧ _) from h0), if_pos rfl]
      rw [Option.bind_some, ck_yes hRm, ck_yes hRm, ck_yes hRm, ck_yes hRm]
      have e := hmore.trans (rk_add1' (z := gC_ va vb vc ve k) hg hX (hn j (hbit j hj)) hc)
      refine ⟨_, _, _, _, rfl, ?_, ?_, ?_⟩
      · rw [e]; rfl
      · intro q; rw [e] at q; cases q
      · intro _; exact ⟨j, k, hup j hj, hkk, hc, rfl, rfl, rfl⟩
  · rw [if_neg (show ¬ nI 2 = 0 by decide), if_neg (show ¬ nI 2 = 1 by decide), if_pos (show nI 2 = 2 from rfl)]
    obtain ⟨i, j, hi, hj, hc, ex, ey, ez⟩ := hk2 rfl
    have hX : hS_ (gC_ va vb vc ve) h (gC_ va vb vc ve i) := ⟨i, hi, rfl⟩
    have hY : hS_ (gC_ va vb vc ve) h (gC_ va vb vc ve j) := ⟨j, hj, rfl⟩
    have hab := ab_ci (hb i (hbit i hi)) (hb j (hbit j hj))
    have hcl := ab_sm (ab_cl (v := ci_ (gC_ va vb vc ve i) (gC_ va vb vc ve j)) (hb k (Nat.le_refl k)) hab.1 hab.2.1 hab.2.2) (by decide)
    rw [ex, ey, ez, bind_yes (f_climb ve (by omega) _ _ _)]
    have hz0 : sm_ 0 := by unfold sm_; omega
    have e0 : (iI_ (cl_ (gC_ va vb vc ve k) (ci_ (gC_ va vb vc ve i) (gC_ va vb vc ve j))) = 0) ↔ cl_ (gC_ va vb vc ve k) (ci_ (gC_ va vb vc ve i) (gC_ va vb vc ve j)) = 0 := iI_eq hcl hz0
    by_cases c0 : cl_ (gC_ va vb vc ve k) (ci_ (gC_ va vb vc ve i) (gC_ va vb vc ve j)) = 0
    · rw [if_pos (e0.mpr c0)]
      rw [Option.bind_some, ck_yes hRm, ck_yes hRm, ck_yes hRm, ck_yes hRm]
      have e := hmore.trans (rk_add2 (z := gC_ va vb vc ve k) hg hX hY hc (by rw [← cl_cx]; exact rI_zero.mpr c0))
      refine ⟨_, _, _, _, rfl, ?_, ?_, ?_⟩
      · rw [e]
      · intro q; rw [e] at q; cases q
      · intro _; exact ⟨i, j, hup i hi, hup j hj, hc, rfl, rfl, rfl⟩
    · rw [if_neg (fun q => c0 (e0.mp q))]
      rw [Option.bind_some, ck_yes hRm, ck_yes hRm, ck_yes hRm, ck_yes hRm]
      have e := hmore.trans (rk_add2' (z := gC_ va vb vc ve k) hX hY (by rw [← cl_cx]; exact fun q => c0 (rI_zero.mp q)))
      refine ⟨_, _, _, _, rfl, ?_, ?_, ?_⟩
      · rw [e]; rfl
      · intro q; rw [e] at q; cases q
      · intro q; rw [e] at q; cases q
  · rw [if_neg (show ¬ nI 3 = 0 by decide), if_neg (show ¬ nI 3 = 1 by decide), if_neg (show ¬ nI 3 = 2 by decide)]
    rw [Option.bind_some, ck_yes hRm, ck_yes hRm, ck_yes hRm, ck_yes hRm]
    have e := hmore.trans (rk_add3 (z := gC_ va vb vc ve k) hg)
    refine ⟨_, _, _, _, rfl, ?_, ?_, ?_⟩
    · rw [e]
    · intro q; rw [e] at q; cases q
    · intro q; rw [e] at q; cases q
theorem KV_0 (G : Nat → Wl_) (x y z : Int32) : KV_ G 0 0 x y z := by
  have e : rk_ (hS_ G 0) = 0 := by
    have h0 : ¬ ∃ x, hS_ G 0 x := by rintro ⟨x, k, hk, _⟩; simp at hk
    have h2 : ¬ R2_ (hS_ G 0) := fun h => h0 (R2_ex h)
    exact rk_0 h0 h2 (fun h3 => h2 (R3_R2 h3))
  refine ⟨by rw [e]; rfl, fun q => ?_, fun q => ?_⟩
  · rw [e] at q; cases q
  · rw [e] at q; cases q
theorem f_rankAnew {va vb vc ve vrk vkx vky vkz : Nat → Int32} {k0x k0y k0z : Int32} {n : Nat} (hn8 : n ≤ 8) (hb : ∀ j, j < n → bw_ (gC_ va vb vc ve j)) (hn : ∀ j, j < n → nv_ (gC_ va vb vc ve j) ≠ o3_) (h0 : vrk 0 = 0) :
    ∃ r, fX2_rankAnew (nI n) va vb vc vrk vkx vky vkz k0x k0y k0z = some r ∧ ∀ h, h < 2 ^ n → KV_ (gC_ va vb vc ve) h (r.1 h) (r.2.1 h) (r.2.2.1 h) (r.2.2.2.1 h) := by
  unfold fX2_rankAnew
  have hlp := lp_for (body := fun (st : (Int32 × (Nat → Int32) × (Nat → Int32) × (Nat → Int32) × (Nat → Int32) × Int32 × Int32 × Int32)) => fX2_rankAnew_L2 (nI n) va vb vc st.1 st.2.1 st.2.2.1 st.2.2.2.1 st.2.2.2.2.1 st.2.2.2.2.2.1 st.2.2.2.2.2.2.1 st.2.2.2.2.2.2.2)
    (fun k st => st.1 = nI k ∧ ∀ h, h < 2 ^ k → KV_ (gC_ va vb vc ve) h (st.2.1 h) (st.2.2.1 h) (st.2.2.2.1 h) (st.2.2.2.2.1 h))
    (fun st => ∀ h, h < 2 ^ n → KV_ (gC_ va vb vc ve) h (st.2.1 h) (st.2.2.1 h) (st.2.2.2.1 h) (st.2.2.2.2.1 h)) n (by omega) (s := ((0 : Int32), vrk, vkx, vky, vkz, k0x, k0y, k0z))
    ⟨rfl, fun h hh => by
      have : h = 0 := by simp at hh; exact hh
      subst this
      show KV_ _ 0 (vrk 0) _ _ _
      rw [h0]; exact KV_0 _ _ _ _⟩ ?_ ?_
  · obtain ⟨r, h1, h2⟩ := hlp
    rw [bind_yes h1]
    exact ⟨_, rfl, h2⟩
  · rintro k ⟨i, rk, kx, ky, kz, x, y, z⟩ hk ⟨hi, hI⟩
    dsimp only at hi hI ⊢
    subst hi
    unfold fX2_rankAnew_L2
    rw [if_neg (nI_ge hk (by omega))]
    left
    have hlp := lp_for (body := fun (st : (Int32 × (Nat → Int32) × (Nat → Int32) × (Nat → Int32) × (Nat → Int32) × Int32 × Int32 × Int32)) => fX2_rankAnew_L15 (nI k) va vb vc st.1 st.2.1 st.2.2.1 st.2.2.2.1 st.2.2.2.2.1 st.2.2.2.2.2.1 st.2.2.2.2.2.2.1 st.2.2.2.2.2.2.2)
      (fun j st => st.1 = nI j ∧ ∀ h, h < 2 ^ k + j → KV_ (gC_ va vb vc ve) h (st.2.1 h) (st.2.2.1 h) (st.2.2.2.1 h) (st.2.2.2.2.1 h))
      (fun st => ∀ h, h < 2 ^ (k + 1) → KV_ (gC_ va vb vc ve) h (st.2.1 h) (st.2.2.1 h) (st.2.2.2.1 h) (st.2.2.2.2.1 h)) (2 ^ k) (by
        have : 2 ^ k ≤ 2 ^ 8 := Nat.pow_le_pow_right (by decide) (by omega)
        omega) (s := ((0 : Int32), rk, kx, ky, kz, x, y, z)) ⟨rfl, hI⟩ ?_ ?_
    · obtain ⟨r, h1, h2⟩ := hlp
      rw [bind_yes h1]
      exact ⟨_, rfl, nI_1 k, h2⟩
    · rintro j ⟨i, rk, kx, ky, kz, x, y, z⟩ hj ⟨hi, hI⟩
      dsimp only at hi hI ⊢
      subst hi
      unfold fX2_rankAnew_L15
      have h28 : 2 ^ k ≤ 2 ^ 8 := Nat.pow_le_pow_right (by decide) (by omega)
      rw [sh_1 k (by omega), if_neg (nI_ge hj (by omega))]
      left
      obtain ⟨r, x', y', z', e, hV⟩ := f_rankWith (va := va) (vb := vb) (vc := vc) (ve := ve) (vrk := rk) (vkx := kx) (vky := ky) (vkz := kz) (h := j) (k := k) (by omega) hj (fun i hi => hb i (by omega)) (fun i hi => hn i (by omega)) (hI j (by omega))
      rw [bind_yes e]
      refine ⟨_, rfl, nI_1 j, ?_⟩
      intro h hh
      dsimp only
      rcases (show h = j + 2 ^ k ∨ h < 2 ^ k + j by omega) with rfl | q
      · rw [pk_us, pk_us, pk_us, pk_us]; exact hV
      · have ne : h ≠ j + 2 ^ k := by omega
        rw [pk_un ne, pk_un ne, pk_un ne, pk_un ne]; exact hI h q
    · rintro ⟨i, rk, kx, ky, kz, x, y, z⟩ ⟨hi, hI⟩
      dsimp only at hi hI ⊢
      subst hi
      unfold fX2_rankAnew_L15
      have h28 : 2 ^ k ≤ 2 ^ 8 := Nat.pow_le_pow_right (by decide) (by omega)
      rw [sh_1 k (by omega), if_pos (nI_le (Nat.le_refl _) (by omega))]
      refine ⟨_, rfl, fun h hh => hI h ?_⟩
      rw [Nat.pow_succ] at hh
      omega
  · rintro ⟨i, rk, kx, ky, kz, x, y, z⟩ ⟨hi, hI⟩
    dsimp only at hi hI ⊢
    subst hi
    unfold fX2_rankAnew_L2
    rw [if_pos (nI_le (Nat.le_refl _) (by omega))]
    exact ⟨_, rfl, hI⟩
end
section
/-! places, their rows, how many faces -/
def wl_ (G : Nat → Wl_) : Nat → List Wl_
  | 0 => []
  | n + 1 => G n :: wl_ G n
theorem wl_mem {G : Nat → Wl_} {x : Wl_} : ∀ {n : Nat}, x ∈ wl_ G n ↔ ∃ k, k < n ∧ x = G k := by
  intro n
  induction n with
  | zero => simp [wl_]
  | succ n ih =>
    simp only [wl_, List.mem_cons, ih]
    constructor
    · rintro (rfl | ⟨k, hk, rfl⟩)
      · exact ⟨n, by omega, rfl⟩
      · exact ⟨k, by omega, rfl⟩
    · rintro ⟨k, hk, rfl⟩
      rcases (show k = n ∨ k < n by omega) with rfl | q
      · exact Or.inl rfl
      · exact Or.inr ⟨k, q, rfl⟩
theorem wl_len (G : Nat → Wl_) : ∀ n, (wl_ G n).length = n := by
  intro n
  induction n with
  | zero => rfl
  | succ n ih => simp [wl_, ih]
theorem wl_get {G : Nat → Wl_} {n k : Nat} (h : k < n) : G k ∈ wl_ G n := wl_mem.mpr ⟨k, h, rfl⟩
/-- the signs of a place -/
def sn_ (G : Nat → Wl_) (p : V3_) : Nat → Nat := fun k => sg_ (ev_ (G k) p)
theorem sg_le (r : Rat) : sg_ r ≤ 2 := by unfold sg_; split <;> (try split) <;> omega
theorem sn_le (G : Nat → Wl_) (p : V3_) (k : Nat) : sn_ G p k ≤ 2 := sg_le _
/-- the row of a place -/
def rp_ (G : Nat → Wl_) (n : Nat) (p : V3_) : Nat := rn_ (sn_ G p) n
theorem rp_lt (G : Nat → Wl_) (n : Nat) (p : V3_) : rp_ G n p < 3 ^ n := rn_lt (fun k _ => sn_le G p k)
theorem rp_dg (G : Nat → Wl_) {n k : Nat} (p : V3_) (h : k < n) : dg_ (rp_ G n p) k = sg_ (ev_ (G k) p) := dg_rn (fun k _ => sn_le G p k) k h
theorem rp_6561 (G : Nat → Wl_) {n : Nat} (h : n ≤ 8) (p : V3_) : rp_ G n p < 6561 := Nat.lt_of_lt_of_le (rp_lt G n p) (p3_6561 h)
theorem rp_eq {G : Nat → Wl_} {n : Nat} {p q : V3_} : rp_ G n p = rp_ G n q ↔ RE_ (wl_ G n) p q := by
  constructor
  · intro h x hx
    obtain ⟨k, hk, rfl⟩ := wl_mem.mp hx
    rw [← rp_dg G p hk, ← rp_dg G q hk, h]
  · intro h
    exact rn_cg (fun k hk => h _ (wl_get hk))
/-- a row is a face's -/
def Fa_ (G : Nat → Wl_) (n r : Nat) : Prop := ∃ p, r = rp_ G n p
theorem Fa_lt {G : Nat → Wl_} {n r : Nat} (h : Fa_ G n r) : r < 3 ^ n := by obtain ⟨p, rfl⟩ := h; exact rp_lt G n p
theorem Fa_iff {G : Nat → Wl_} {n r : Nat} : Fa_ G n r ↔ r < 3 ^ n ∧ ∃ p, ∀ k, k < n → sg_ (ev_ (G k) p) = dg_ r k := by
  constructor
  · rintro ⟨p, rfl⟩; exact ⟨rp_lt G n p, p, fun k hk => (rp_dg G p hk).symm⟩
  · rintro ⟨h, p, hp⟩
    exact ⟨p, dg_ext h (rp_lt G n p) (fun k hk => by rw [rp_dg G p hk, hp k hk])⟩
/-- three stretches of a sum -/
theorem sm_3 (f : Nat → Nat) (m : Nat) : fb_sm f (m * 3) = fb_sm f m + fb_sm (fun r => f (r + 1 * m)) m + fb_sm (fun r => f (r + 2 * m)) m := by
  rw [show m * 3 = m + (m + m) by omega, fb_sm_split, fb_sm_split]
  have e1 : fb_sm (fun k => f (m + k)) m = fb_sm (fun r => f (r + 1 * m)) m := fb_sm_cong (fun k _ => by rw [Nat.one_mul, Nat.add_comm])
  have e2 : fb_sm (fun k => f (m + (m + k))) m = fb_sm (fun r => f (r + 2 * m)) m := fb_sm_cong (fun k _ => by congr 1; omega)
  rw [e1, e2]
  omega
theorem fc_sum (G : Nat → Wl_) : ∀ (m : Nat) (L : List (Wl_ × Nat)), fb_sm (fun r => iN_ (∃ p, (∀ k, k < m → sg_ (ev_ (G k) p) = dg_ r k) ∧ S3_ L p)) (3 ^ m) = fc_ [] (wl_ G m) L := by
  intro m
  induction m with
  | zero =>
    intro L
    show 0 + iN_ _ = iN_ (F3_ [] L)
    rw [Nat.zero_add]
    refine iN_cg ⟨fun ⟨p, _, h⟩ => ⟨p, fun w hw => (by cases hw), h⟩, fun ⟨p, _, h⟩ => ⟨p, fun k hk => by omega, h⟩⟩
  | succ m ih =>
    intro L
    show _ = fc_ [] (G m :: wl_ G m) L
    simp only [fc_]
    rw [← ih, ← ih, ← ih, Nat.pow_succ, sm_3]
    have step : ∀ (t : Nat), t ≤ 2 → ∀ r, r < 3 ^ m → iN_ (∃ p, (∀ k, k < m + 1 → sg_ (ev_ (G k) p) = dg_ (r + t * 3 ^ m) k) ∧ S3_ L p) = iN_ (∃ p, (∀ k, k < m → sg_ (ev_ (G k) p) = dg_ r k) ∧ S3_ ((G m, t) :: L) p) := by
      intro t ht r hr
      refine iN_cg ⟨?_, ?_⟩
      · rintro ⟨p, h1, h2⟩
        refine ⟨p, fun k hk => ?_, S3_cons.mpr ⟨?_, h2⟩⟩
        · rw [h1 k (by omega), dg_add _ _ hk]
        · have := h1 m (by omega)
          rw [dg_top hr ht] at this
          exact (sg_s3 ht).mp this
      · rintro ⟨p, h1, h2⟩
        obtain ⟨h3, h4⟩ := S3_cons.mp h2
        refine ⟨p, fun k hk => ?_, h4⟩
        rcases (show k < m ∨ k = m by omega) with q | rfl
        · rw [h1 k q, dg_add _ _ q]
        · rw [dg_top hr ht]; exact (sg_s3 ht).mpr h3
    have e0 : fb_sm (fun r => iN_ (∃ p, (∀ k, k < m + 1 → sg_ (ev_ (G k) p) = dg_ r k) ∧ S3_ L p)) (3 ^ m) = fb_sm (fun r => iN_ (∃ p, (∀ k, k < m → sg_ (ev_ (G k) p) = dg_ r k) ∧ S3_ ((G m, 0) :: L) p)) (3 ^ m) :=
      fb_sm_cong (fun r hr => by have := step 0 (by omega) r hr; rw [Nat.zero_mul, Nat.add_zero] at this; exact this)
    rw [e0]
    congr 1
    · congr 1
      exact fb_sm_cong (fun r hr => step 1 (by omega) r hr)
    · exact fb_sm_cong (fun r hr => step 2 (by omega) r hr)
theorem Fa_577 (G : Nat → Wl_) {n : Nat} (h : n ≤ 8) : fb_sm (fun r => iN_ (Fa_ G n r)) (3 ^ n) ≤ 577 := by
  have h1 := fc_577 (wl_ G n) (by rw [wl_len]; exact h)
  rw [← fc_sum] at h1
  refine Nat.le_trans (Nat.le_of_eq ?_) h1
  refine fb_sm_cong (fun r hr => iN_cg ?_)
  rw [Fa_iff]
  exact ⟨fun ⟨_, p, hp⟩ => ⟨p, hp, fun x hx => by cases hx⟩, fun ⟨p, hp, _⟩ => ⟨hr, p, hp⟩⟩
/-- marks on faces alone are at most 577; fewer while one face has none -/
theorem ct_faces {G : Nat → Wl_} {n : Nat} (h : n ≤ 8) {m : Nat → Bool} (hm : ∀ r, r < 6561 → m r = true → Fa_ G n r) : fb_ct m 6561 ≤ 577 := by
  have e1 : fb_ct m 6561 = fb_ct m (3 ^ n) := by
    have h3 := p3_6561 h
    rw [show 6561 = 3 ^ n + (6561 - 3 ^ n) by omega, fb_ct_split]
    have : fb_ct (fun k => m (3 ^ n + k)) (6561 - 3 ^ n) = 0 := fb_ct_zero.mpr (fun k hk => by
      cases e : m (3 ^ n + k) with
      | false => rfl
      | true => have := Fa_lt (hm _ (by omega) e); omega)
    omega
  have e2 : ∀ N, N ≤ 6561 → fb_ct m N ≤ fb_sm (fun r => iN_ (Fa_ G n r)) N := by
    intro N
    induction N with
    | zero => intro _; exact Nat.le_refl _
    | succ N ih =>
      intro hN
      have := ih (by omega)
      rw [fb_ct_succ, fb_sm_succ]
      cases e : m N with
      | false => simp; omega
      | true => simp only [if_true]; rw [iN_1 (hm N (by omega) e)]; omega
  rw [e1]
  exact Nat.le_trans (e2 _ (p3_6561 h)) (Fa_577 G h)
theorem ct_less {G : Nat → Wl_} {n : Nat} (h : n ≤ 8) {m : Nat → Bool} (hm : ∀ r, r < 6561 → m r = true → Fa_ G n r) {r0 : Nat} (h0 : m r0 = false) (hF : Fa_ G n r0) : fb_ct m 6561 < 577 := by
  have hr0 : r0 < 6561 := Nat.lt_of_lt_of_le (Fa_lt hF) (p3_6561 h)
  have := ct_faces h (m := fun k => if k = r0 then true else m k) (fun r hr hrt => by
    by_cases q : r = r0
    · rw [q]; exact hF
    · simp only [if_neg q] at hrt; exact hm r hr hrt)
  have e := fb_ct_upd m true hr0
  simp only [h0, Bool.false_eq_true, if_false, if_true] at e
  omega
end
section
/-! marks on rows; a place is reached -/
def mkd_ (vmk : Nat → Int32) (r : Nat) : Bool := bt (vmk (r / 32)) (r % 32)
theorem b_1 : ∀ i, i < 32 → bt 1 i = decide (i = 0) := by decide +kernel
theorem one_bit (y : Int32) : (y &&& 1 = 1) ↔ bt y 0 = true := by
  constructor
  · intro h
    have := congrArg (fun x => bt x 0) h
    simp only [b_and, b_1 0 (by decide)] at this
    simpa using this
  · intro h
    apply b_ext
    intro i hi
    rw [b_and, b_1 i hi]
    by_cases q : i = 0
    · subst q; rw [h]; rfl
    · simp [q]
theorem f_isMarked (vmk : Nat → Int32) {r : Nat} (hr : r < 6561) : fX1_isMarked vmk (nI r) = some (if mkd_ vmk r = true then 1 else 0) := by
  unfold fX1_isMarked
  have h1 : nI r >>> ((5 : Int32) &&& 31) = nI (r / 32) := pk_shrN (by omega) _ 5 (by decide)
  have h2 : nI r &&& (31 : Int32) = nI (r % 32) := pk_andN (by omega) 5 (by decide)
  rw [h1, h2, ck_yes (in_R_nI (show r / 32 < 206 by omega) (by decide)), nI_clamp (by omega)]
  have h3 := one_bit (((vmk (r / 32)).toUInt32 >>> ((nI (r % 32)).toUInt32 &&& Int32.toUInt32 31)).toInt32)
  rw [b_ushr (r % 32) (by omega)] at h3
  simp only [h3, Nat.add_zero]
  unfold mkd_
  split <;> simp [*]
theorem mkd_upd (vmk : Nat → Int32) (r r' : Nat) : mkd_ (upd vmk (r / 32) (vmk (r / 32) ||| ((1 : Int32) <<< (nI (r % 32) &&& 31)))) r' = if r' = r then true else mkd_ vmk r' := by
  unfold mkd_
  by_cases hq : r' / 32 = r / 32
  · rw [hq, pk_us, b_or, b_shl (r % 32) (by omega) 1 (by omega), b_1 _ (by omega)]
    by_cases hr : r' = r
    · subst hr; simp
    · rw [if_neg hr]
      have h1 : ¬ (r % 32 ≤ r' % 32 ∧ r' % 32 - r % 32 = 0) := by omega
      by_cases h2 : r % 32 ≤ r' % 32
      · have h3 : ¬ r' % 32 - r % 32 = 0 := fun q => h1 ⟨h2, q⟩
        simp [h3]
      · simp [h2]
  · rw [pk_un hq, if_neg (fun q => hq (by rw [q]))]
/-- the rows that are found so far: each is a place's; the queue, and the heaps that have a face's walls -/
def CS_ (G : Nat → Wl_) (n fo : Nat) (cm mk re : Nat → Int32) : Prop :=
  fo = fb_ct (mkd_ mk) 6561 ∧
  (∀ r, r < 6561 → mkd_ mk r = true → Fa_ G n r) ∧
  (∀ i, i < fo → ∃ p, re i = nI (sp_ (sn_ G p) n) ∧ mkd_ mk (rp_ G n p) = true) ∧
  (∀ p, mkd_ mk (rp_ G n p) = true → ∃ i, i < fo ∧ re i = nI (sp_ (sn_ G p) n)) ∧
  (∀ h, h < 256 → (cm h = 0 ∨ cm h = 1) ∧ (cm h = 1 ↔ ∃ r, r < 6561 ∧ mkd_ mk r = true ∧ mk_ 8 r 1 = h))
theorem CS_577 {G : Nat → Wl_} {n fo : Nat} {cm mk re : Nat → Int32} (hn : n ≤ 8) (h : CS_ G n fo cm mk re) : fo ≤ 577 := by
  rw [h.1]; exact ct_faces hn h.2.1
theorem sn_cg {G : Nat → Wl_} {n : Nat} {p q : V3_} (h : rp_ G n p = rp_ G n q) : sp_ (sn_ G p) n = sp_ (sn_ G q) n := by
  have hk : ∀ k, k < n → sn_ G p k = sn_ G q k := fun k hk => by
    have := congrArg (fun r => dg_ r k) h
    simp only [rp_dg G p hk, rp_dg G q hk] at this
    exact this
  unfold sp_
  rw [bn_cg (fun k q => by rw [hk k q]), bn_cg (a := fun k => decide (sn_ G p k = 2)) (fun k q => by rw [hk k q])]
theorem on_row {G : Nat → Wl_} {n : Nat} (hn : n ≤ 8) (p : V3_) : mk_ 8 (rp_ G n p) 1 = bn_ (fun k => decide (sn_ G p k = 1)) n := by
  rw [mk_dig hn (rp_lt G n p) (by decide)]
  exact bn_cg (fun k hk => by rw [rp_dg G p hk]; rfl)
theorem f_reach {G : Nat → Wl_} {n fo : Nat} {vth cm mk re : Nat → Int32} (hn : n ≤ 8) (hT : TH_ vth) (h : CS_ G n fo cm mk re) (p : V3_) :
    ∃ fo' cm' mk' re', fX1_reach (nI fo) vth cm mk re (nI (sp_ (sn_ G p) n)) = some (nI fo', cm', mk', re') ∧ CS_ G n fo' cm' mk' re' ∧ mkd_ mk' (rp_ G n p) = true ∧ (∀ r, mkd_ mk r = true → mkd_ mk' r = true) ∧ fo ≤ fo' ∧ ∀ i, i < fo → re' i = re i := by
  have hr := rp_6561 G hn p
  unfold fX1_reach
  have hrow : fX3_rowOf vth (nI (sp_ (sn_ G p) n)) = some (nI (rp_ G n p)) := f_rowOf hT hn (fun k _ => sn_le G p k)
  rw [bind_yes hrow, bind_yes (f_isMarked mk hr)]
  by_cases hm : mkd_ mk (rp_ G n p) = true
  · rw [if_pos hm, if_neg (show ¬ (1 : Int32) = 0 by decide)]
    exact ⟨fo, cm, mk, re, rfl, h, hm, fun r h => h, Nat.le_refl _, fun _ _ => rfl⟩
  · have hm' : mkd_ mk (rp_ G n p) = false := by simpa using hm
    have hlt : fo < 577 := by rw [h.1]; exact ct_less hn h.2.1 hm' ⟨p, rfl⟩
    have hbl := bn_lt8 (fun k => decide (sn_ G p k = 1)) hn
    have h1 : nI (rp_ G n p) >>> ((5 : Int32) &&& 31) = nI (rp_ G n p / 32) := pk_shrN (by omega) _ 5 (by decide)
    have h2 : nI (rp_ G n p) &&& (31 : Int32) = nI (rp_ G n p % 32) := pk_andN (by omega) 5 (by decide)
    have hR : in_R (nI (rp_ G n p / 32)) 206 := in_R_nI (show rp_ G n p / 32 < 206 by omega) (by decide)
    rw [if_neg hm, if_pos rfl, if_pos (show nI fo < 577 from nI_lt (a := fo) (b := 577) hlt (by decide)), h1, h2, ck_yes hR, ck_yes hR, ck_yes (in_R_nI hlt (by decide)), bind_yes (f_onMask hn), ck_yes (in_R_nI hbl (by decide)), nI_clamp (by omega), nI_clamp (by omega), nI_clamp (by omega), nI_1]
    refine ⟨fo + 1, _, _, _, rfl, ?_, ?_, ?_, by omega, ?_⟩
    · refine ⟨?_, ?_, ?_, ?_, ?_⟩
      · rw [show mkd_ (upd mk (rp_ G n p / 32) (mk (rp_ G n p / 32) ||| ((1 : Int32) <<< (nI (rp_ G n p % 32) &&& 31)))) = fun r' => if r' = rp_ G n p then true else mkd_ mk r' from funext (fun r' => mkd_upd mk _ r')]
        have e := fb_ct_upd (mkd_ mk) true hr
        simp only [hm', Bool.false_eq_true, if_false, if_true] at e
        have := h.1
        omega
      · intro r hr' hrt
        rw [mkd_upd] at hrt
        by_cases q : r = rp_ G n p
        · exact ⟨p, q⟩
        · rw [if_neg q] at hrt; exact h.2.1 r hr' hrt
      · intro i hi
        rcases (show i = fo ∨ i < fo by omega) with rfl | q
        · exact ⟨p, pk_us, by rw [mkd_upd, if_pos rfl]⟩
        · obtain ⟨p', e1, e2⟩ := h.2.2.1 i q
          refine ⟨p', by rw [pk_un (show i ≠ fo by omega)]; exact e1, ?_⟩
          rw [mkd_upd, e2]; simp
      · intro p' hp'
        rw [mkd_upd] at hp'
        by_cases q : rp_ G n p' = rp_ G n p
        · exact ⟨fo, by omega, by rw [pk_us, sn_cg q]⟩
        · rw [if_neg q] at hp'
          obtain ⟨i, hi, e⟩ := h.2.2.2.1 p' hp'
          exact ⟨i, by omega, by rw [pk_un (show i ≠ fo by omega)]; exact e⟩
      · intro g hg
        obtain ⟨c1, c2⟩ := h.2.2.2.2 g hg
        by_cases q : g = bn_ (fun k => decide (sn_ G p k = 1)) n
        · rw [q, pk_us]
          refine ⟨Or.inr rfl, fun _ => ⟨rp_ G n p, hr, by rw [mkd_upd, if_pos rfl], on_row hn p⟩, fun _ => rfl⟩
        · rw [pk_un q]
          refine ⟨c1, ?_, ?_⟩
          · intro hc
            obtain ⟨r, e1, e2, e3⟩ := c2.mp hc
            exact ⟨r, e1, by rw [mkd_upd, e2]; simp, e3⟩
          · rintro ⟨r, e1, e2, e3⟩
            rw [mkd_upd] at e2
            by_cases q2 : r = rp_ G n p
            · subst q2; rw [on_row hn] at e3; exact absurd e3.symm q
            · rw [if_neg q2] at e2; exact c2.mpr ⟨r, e1, e2, e3⟩
    · rw [mkd_upd, if_pos rfl]
    · intro r hrt; rw [mkd_upd, hrt]; simp
    · intro i hi; exact pk_un (by omega)
end
section
/-! lines and corners of the planes -/
def MO_ (fo : Nat) (mk re : Nat → Int32) (fo' : Nat) (mk' re' : Nat → Int32) : Prop := (∀ r, mkd_ mk r = true → mkd_ mk' r = true) ∧ fo ≤ fo' ∧ ∀ i, i < fo → re' i = re i
theorem MO_refl (fo : Nat) (mk re : Nat → Int32) : MO_ fo mk re fo mk re := ⟨fun _ h => h, Nat.le_refl _, fun _ _ => rfl⟩
theorem MO_trans {f1 f2 f3 : Nat} {m1 m2 m3 r1 r2 r3 : Nat → Int32} (h : MO_ f1 m1 r1 f2 m2 r2) (h' : MO_ f2 m2 r2 f3 m3 r3) : MO_ f1 m1 r1 f3 m3 r3 :=
  ⟨fun r q => h'.1 r (h.1 r q), Nat.le_trans h.2.1 h'.2.1, fun i hi => by rw [h'.2.2 i (Nat.lt_of_lt_of_le hi h.2.1), h.2.2 i hi]⟩
theorem sp_cg {s t : Nat → Nat} {n : Nat} (h : ∀ k, k < n → s k = t k) : sp_ s n = sp_ t n := by
  unfold sp_
  rw [bn_cg (fun k q => by rw [h k q]), bn_cg (a := fun k => decide (s k = 2)) (fun k q => by rw [h k q])]
theorem ov_cor {x y z w : Wl_} (h : dt_ x y z ≠ 0) (t : Int) :
    ((ov_ w (t * x.2.2.2 * (ci_ y z).1 + t * y.2.2.2 * (ci_ z x).1 + t * z.2.2.2 * (ci_ x y).1) (t * x.2.2.2 * (ci_ y z).2.1 + t * y.2.2.2 * (ci_ z x).2.1 + t * z.2.2.2 * (ci_ x y).2.1) (t * x.2.2.2 * (ci_ y z).2.2 + t * y.2.2.2 * (ci_ z x).2.2 + t * z.2.2.2 * (ci_ x y).2.2) (t * cl_ z (ci_ x y)) : Int) : Rat) = ((t : Rat) * dt_ x y z) * ev_ w (cor_ x y z) := by
  have h1 := cor_dr x y z w h
  have h2 := cl_cx z x y
  have e1 := cx_ci y z
  have e2 := cx_ci z x
  have e3 := cx_ci x y
  simp only [ov_, Rat.intCast_sub, Rat.intCast_add, Rat.intCast_mul]
  rw [h2]
  unfold ev_
  rw [show dr_ z (cx_ x y) = dt_ x y z from rfl]
  have k1 : dr_ w (cx_ y z) = w.1 * ((ci_ y z).1 : Rat) + w.2.1 * ((ci_ y z).2.1 : Rat) + w.2.2.1 * ((ci_ y z).2.2 : Rat) := by rw [e1]; rfl
  have k2 : dr_ w (cx_ z x) = w.1 * ((ci_ z x).1 : Rat) + w.2.1 * ((ci_ z x).2.1 : Rat) + w.2.2.1 * ((ci_ z x).2.2 : Rat) := by rw [e2]; rfl
  have k3 : dr_ w (cx_ x y) = w.1 * ((ci_ x y).1 : Rat) + w.2.1 * ((ci_ x y).2.1 : Rat) + w.2.2.1 * ((ci_ x y).2.2 : Rat) := by rw [e3]; rfl
  rw [k1, k2, k3] at h1
  clear k1 k2 k3 e1 e2 e3 h2
  grind
theorem sz_cor {x y z w : Wl_} (h : dt_ x y z ≠ 0) {t : Int} (ht : t = 1 ∧ 0 ≤ cl_ z (ci_ x y) ∨ t = -1 ∧ cl_ z (ci_ x y) < 0) :
    sz_ (ov_ w (t * x.2.2.2 * (ci_ y z).1 + t * y.2.2.2 * (ci_ z x).1 + t * z.2.2.2 * (ci_ x y).1) (t * x.2.2.2 * (ci_ y z).2.1 + t * y.2.2.2 * (ci_ z x).2.1 + t * z.2.2.2 * (ci_ x y).2.1) (t * x.2.2.2 * (ci_ y z).2.2 + t * y.2.2.2 * (ci_ z x).2.2 + t * z.2.2.2 * (ci_ x y).2.2) (t * cl_ z (ci_ x y))) = sg_ (ev_ w (cor_ x y z)) := by
  rw [← sg_int, ov_cor h]
  apply sg_scale
  have h2 : ((cl_ z (ci_ x y) : Int) : Rat) = dt_ x y z := cl_cx z x y
  have h3 : cl_ z (ci_ x y) ≠ 0 := fun q => h (by rw [← h2, q]; rfl)
  rw [← h2]
  rcases ht with ⟨rfl, h4⟩ | ⟨rfl, h4⟩
  · have := rI_pos.mpr (show 0 < cl_ z (ci_ x y) by omega)
    simpa using this
  · have := rI_neg.mpr h4
    rw [show ((-1 : Int) : Rat) = -1 from rfl]
    grind
section CR
variable {va vb vc ve vth : Nat → Int32} {n : Nat}
theorem f_noteCorner (hn : n ≤ 8) (hT : TH_ vth) (hb : ∀ k, k < n → bw_ (gC_ va vb vc ve k)) {i j k : Nat} (hi : i < 11) (hj : j < 11) (hk : k < 11) (bi : bw_ (gC_ va vb vc ve i)) (bj : bw_ (gC_ va vb vc ve j)) (bk : bw_ (gC_ va vb vc ve k))
    {fo : Nat} {cm mk re : Nat → Int32} (h : CS_ (gC_ va vb vc ve) n fo cm mk re) (k2x k2y k2z k3x k3y k3z : Int32) :
    ∃ fo' cm' mk' re' q1 q2 q3 q4 q5 q6, fX1_noteCorner (nI n) (nI fo) va vb vc ve vth cm mk re (iI_ (ci_ (gC_ va vb vc ve i) (gC_ va vb vc ve j)).1) (iI_ (ci_ (gC_ va vb vc ve i) (gC_ va vb vc ve j)).2.1) (iI_ (ci_ (gC_ va vb vc ve i) (gC_ va vb vc ve j)).2.2) k2x k2y k2z k3x k3y k3z (nI i) (nI j) (nI k) = some (nI fo', cm', mk', re', q1, q2, q3, q4, q5, q6) ∧
      CS_ (gC_ va vb vc ve) n fo' cm' mk' re' ∧ MO_ fo mk re fo' mk' re' ∧ (dt_ (gC_ va vb vc ve i) (gC_ va vb vc ve j) (gC_ va vb vc ve k) ≠ 0 → mkd_ mk' (rp_ (gC_ va vb vc ve) n (cor_ (gC_ va vb vc ve i) (gC_ va vb vc ve j) (gC_ va vb vc ve k))) = true) := by
  have ij := ab_ci bi bj
  have jk := ab_ci bj bk
  have ki := ab_ci bk bi
  have hcl := ab_cl (v := ci_ (gC_ va vb vc ve i) (gC_ va vb vc ve j)) bk ij.1 ij.2.1 ij.2.2
  have hcs := ab_sm hcl (by decide)
  have hz0 : sm_ 0 := by unfold sm_; omega
  have hdt : ((cl_ (gC_ va vb vc ve k) (ci_ (gC_ va vb vc ve i) (gC_ va vb vc ve j)) : Int) : Rat) = dt_ (gC_ va vb vc ve i) (gC_ va vb vc ve j) (gC_ va vb vc ve k) := cl_cx _ _ _
  unfold fX1_noteCorner
  rw [bind_yes (f_climb ve hk _ _ _)]
  have e0 : (iI_ (cl_ (gC_ va vb vc ve k) ((ci_ (gC_ va vb vc ve i) (gC_ va vb vc ve j)).1, (ci_ (gC_ va vb vc ve i) (gC_ va vb vc ve j)).2.1, (ci_ (gC_ va vb vc ve i) (gC_ va vb vc ve j)).2.2)) = 0) ↔ cl_ (gC_ va vb vc ve k) (ci_ (gC_ va vb vc ve i) (gC_ va vb vc ve j)) = 0 := iI_eq hcs hz0
  by_cases c0 : cl_ (gC_ va vb vc ve k) (ci_ (gC_ va vb vc ve i) (gC_ va vb vc ve j)) = 0
  · rw [if_pos (e0.mpr c0)]
    refine ⟨fo, cm, mk, re, _, _, _, _, _, _, rfl, h, MO_refl _ _ _, fun hd => ?_⟩
    rw [c0] at hdt
    exact absurd hdt.symm hd
  · rw [if_neg (fun q => c0 (e0.mp q)), bind_yes (f_along ve hj hk), bind_yes (f_along ve hk hi)]
    have hd : dt_ (gC_ va vb vc ve i) (gC_ va vb vc ve j) (gC_ va vb vc ve k) ≠ 0 := by rw [← hdt]; exact fun q => c0 (rI_zero.mp q)
    obtain ⟨t, ht, htab, hturn⟩ : ∃ t : Int, (t = 1 ∧ 0 ≤ cl_ (gC_ va vb vc ve k) (ci_ (gC_ va vb vc ve i) (gC_ va vb vc ve j)) ∨ t = -1 ∧ cl_ (gC_ va vb vc ve k) (ci_ (gC_ va vb vc ve i) (gC_ va vb vc ve j)) < 0) ∧ ab_ t 1 ∧ (if 0 ≤ iI_ (cl_ (gC_ va vb vc ve k) ((ci_ (gC_ va vb vc ve i) (gC_ va vb vc ve j)).1, (ci_ (gC_ va vb vc ve i) (gC_ va vb vc ve j)).2.1, (ci_ (gC_ va vb vc ve i) (gC_ va vb vc ve j)).2.2)) then some (1 : Int32) else some (-1 : Int32)) = some (iI_ t) := by
      have e1 : (0 ≤ iI_ (cl_ (gC_ va vb vc ve k) ((ci_ (gC_ va vb vc ve i) (gC_ va vb vc ve j)).1, (ci_ (gC_ va vb vc ve i) (gC_ va vb vc ve j)).2.1, (ci_ (gC_ va vb vc ve i) (gC_ va vb vc ve j)).2.2))) ↔ 0 ≤ cl_ (gC_ va vb vc ve k) (ci_ (gC_ va vb vc ve i) (gC_ va vb vc ve j)) := iI_le hz0 hcs
      by_cases c1 : 0 ≤ cl_ (gC_ va vb vc ve k) (ci_ (gC_ va vb vc ve i) (gC_ va vb vc ve j))
      · exact ⟨1, Or.inl ⟨rfl, c1⟩, by unfold ab_; decide, by rw [if_pos (e1.mpr c1)]; rfl⟩
      · exact ⟨-1, Or.inr ⟨rfl, by omega⟩, by unfold ab_; decide, by rw [if_neg (fun q => c1 (e1.mp q))]; rfl⟩
    rw [bind_yes hturn, ck_yes (in_R_nI hi (by decide)), ck_yes (in_R_nI hj (by decide)), ck_yes (in_R_nI hk (by decide))]
    simp only [nI_clamp (show i < 2 ^ 31 by omega), nI_clamp (show j < 2 ^ 31 by omega), nI_clamp (show k < 2 ^ 31 by omega)]
    rw [gC_e va vb vc ve i, gC_e va vb vc ve j, gC_e va vb vc ve k]
    unfold nm_
    simp only [iI_mul, iI_add]
    have bx : ∀ {a b c : Int}, ab_ a 162 → ab_ b 162 → ab_ c 162 → ab_ (t * (gC_ va vb vc ve i).2.2.2 * a + t * (gC_ va vb vc ve j).2.2.2 * b + t * (gC_ va vb vc ve k).2.2.2 * c) 48114 := by
      intro a b c ha hb hc
      exact ab_mono (ab_add (ab_add (ab_mul (ab_mul htab bi.2.2.2) ha) (ab_mul (ab_mul htab bj.2.2.2) hb)) (ab_mul (ab_mul htab bk.2.2.2) hc)) (by decide)
    have hs := f_signs (va := va) (vb := vb) (vc := vc) (ve := ve) hn
      (x := t * (gC_ va vb vc ve i).2.2.2 * (ci_ (gC_ va vb vc ve j) (gC_ va vb vc ve k)).1 + t * (gC_ va vb vc ve j).2.2.2 * (ci_ (gC_ va vb vc ve k) (gC_ va vb vc ve i)).1 + t * (gC_ va vb vc ve k).2.2.2 * (ci_ (gC_ va vb vc ve i) (gC_ va vb vc ve j)).1)
      (y := t * (gC_ va vb vc ve i).2.2.2 * (ci_ (gC_ va vb vc ve j) (gC_ va vb vc ve k)).2.1 + t * (gC_ va vb vc ve j).2.2.2 * (ci_ (gC_ va vb vc ve k) (gC_ va vb vc ve i)).2.1 + t * (gC_ va vb vc ve k).2.2.2 * (ci_ (gC_ va vb vc ve i) (gC_ va vb vc ve j)).2.1)
      (z := t * (gC_ va vb vc ve i).2.2.2 * (ci_ (gC_ va vb vc ve j) (gC_ va vb vc ve k)).2.2 + t * (gC_ va vb vc ve j).2.2.2 * (ci_ (gC_ va vb vc ve k) (gC_ va vb vc ve i)).2.2 + t * (gC_ va vb vc ve k).2.2.2 * (ci_ (gC_ va vb vc ve i) (gC_ va vb vc ve j)).2.2)
      (t := t * cl_ (gC_ va vb vc ve k) (ci_ (gC_ va vb vc ve i) (gC_ va vb vc ve j))) (by
        intro m hm
        obtain ⟨w1, w2, w3, w4⟩ := hb m hm
        exact ab_sm (ab_sub (ab_add (ab_add (ab_mul w1 (bx jk.1 ki.1 ij.1)) (ab_mul w2 (bx jk.2.1 ki.2.1 ij.2.1))) (ab_mul w3 (bx jk.2.2 ki.2.2 ij.2.2))) (ab_mul w4 (ab_mul htab hcl))) (by decide))
    rw [sp_cg (t := sn_ (gC_ va vb vc ve) (cor_ (gC_ va vb vc ve i) (gC_ va vb vc ve j) (gC_ va vb vc ve k))) (fun m _ => sz_cor hd ht)] at hs
    obtain ⟨fo', cm', mk', re', e, hC, hM, hMo, hfo, hre⟩ := f_reach hn hT h (cor_ (gC_ va vb vc ve i) (gC_ va vb vc ve j) (gC_ va vb vc ve k))
    rw [bind_yes hs, bind_yes e]
    exact ⟨fo', cm', mk', re', _, _, _, _, _, _, rfl, hC, ⟨hMo, hfo, hre⟩, fun _ => hM⟩
/-- the walls over which a way leads with a sign -/
def lm_ (G : Nat → Wl_) (n : Nat) (v : V3_) (c : Nat) : Nat := bn_ (fun k => decide (sg_ (dr_ (G k) v) = c)) n
theorem f_noteLine (hn : n ≤ 8) (hb : ∀ k, k < n → bw_ (gC_ va vb vc ve k)) {x y : Wl_} (bx : bw_ x) (byy : bw_ y) {li : Nat} (hl : li < 55) (la lb : Nat → Int32) :
    (∃ k, k < n ∧ dr_ (gC_ va vb vc ve k) (cx_ x y) ≠ 0) ∧ fX1_noteLine (nI n) (nI li) va vb vc ve la lb (iI_ (ci_ x y).1) (iI_ (ci_ x y).2.1) (iI_ (ci_ x y).2.2) = some (nI (li + 1), upd la li (nI (lm_ (gC_ va vb vc ve) n (cx_ x y) 2)), upd lb li (nI (lm_ (gC_ va vb vc ve) n (cx_ x y) 0))) ∨
    (¬ ∃ k, k < n ∧ dr_ (gC_ va vb vc ve k) (cx_ x y) ≠ 0) ∧ fX1_noteLine (nI n) (nI li) va vb vc ve la lb (iI_ (ci_ x y).1) (iI_ (ci_ x y).2.1) (iI_ (ci_ x y).2.2) = some (nI li, la, lb) := by
  have ij := ab_ci bx byy
  have hs := f_signs (va := va) (vb := vb) (vc := vc) (ve := ve) hn (x := (ci_ x y).1) (y := (ci_ x y).2.1) (z := (ci_ x y).2.2) (t := 0) (by
    intro m hm
    obtain ⟨w1, w2, w3, w4⟩ := hb m hm
    exact ab_sm (ab_sub (ab_add (ab_add (ab_mul w1 ij.1) (ab_mul w2 ij.2.1)) (ab_mul w3 ij.2.2)) (ab_mul w4 (show ab_ 0 0 from Nat.le_refl _))) (by decide))
  rw [sp_cg (t := fun k => sg_ (dr_ (gC_ va vb vc ve k) (cx_ x y))) (fun m _ => by rw [← sg_int, ov_dr, ← cx_ci])] at hs
  unfold fX1_noteLine
  rw [show iI_ 0 = (0 : Int32) from rfl] at hs
  rw [bind_yes hs, bind_yes (f_onMask hn), bind_yes (f_aboveMask hn), nI_all hn]
  have hbl := bn_lt8 (fun k => decide (sg_ (dr_ (gC_ va vb vc ve k) (cx_ x y)) = 1)) hn
  have h2n : 2 ^ n ≤ 256 := Nat.pow_le_pow_right (n := 2) (j := 8) (by decide) hn
  have e1 : (nI (bn_ (fun k => decide (sg_ (dr_ (gC_ va vb vc ve k) (cx_ x y)) = 1)) n) = nI (2 ^ n - 1)) ↔ ∀ k, k < n → decide (sg_ (dr_ (gC_ va vb vc ve k) (cx_ x y)) = 1) = true := by
    rw [nI_eq (by omega) (by omega), ← bn_all, bn_eq]
  by_cases c : ∃ k, k < n ∧ dr_ (gC_ va vb vc ve k) (cx_ x y) ≠ 0
  · refine Or.inl ⟨c, ?_⟩
    obtain ⟨k, hk, hd⟩ := c
    rw [if_neg (fun q => hd (sg_eq1.mp (of_decide_eq_true (e1.mp q k hk)))), if_pos (show nI li < 55 from nI_lt (a := li) (b := 55) hl (by decide)), ck_yes (in_R_nI hl (by decide)), ck_yes (in_R_nI hl (by decide)), nI_clamp (by omega), nI_1, ← bn_all, bn_andn, bn_andn]
    have : bn_ (fun k => (true && !decide (sg_ (dr_ (gC_ va vb vc ve k) (cx_ x y)) = 1)) && !decide (sg_ (dr_ (gC_ va vb vc ve k) (cx_ x y)) = 2)) n = lm_ (gC_ va vb vc ve) n (cx_ x y) 0 := by
      refine bn_cg (fun m _ => ?_)
      have := sg_le (dr_ (gC_ va vb vc ve m) (cx_ x y))
      generalize sg_ (dr_ (gC_ va vb vc ve m) (cx_ x y)) = g at *
      rcases (show g = 0 ∨ g = 1 ∨ g = 2 by omega) with rfl | rfl | rfl <;> rfl
    rw [this]
    rfl
  · refine Or.inr ⟨c, ?_⟩
    rw [if_pos (e1.mpr (fun k hk => decide_eq_true (sg_eq1.mpr (Classical.byContradiction fun q => c ⟨k, hk, q⟩))))]
end CR
end
section
/-! all pairs and triples of planes -/
def pc_ (M : Nat) : Nat → Nat
  | 0 => 0
  | i + 1 => pc_ M i + (M - (i + 1))
theorem pc_55 : ∀ M : Fin 12, ∀ i : Fin 12, pc_ M.val (i.val + 1) ≤ 55 := by decide +kernel
section C2
variable {va vb vc ve vth : Nat → Int32} {n : Nat}
theorem f_L96 (hn : n ≤ 8) (hT : TH_ vth) (hP : ∀ i, i < n + 3 → bw_ (gC_ va vb vc ve (ix_ n i))) {M i j : Nat} (hM : M ≤ n + 3) (hij : i < j) (hj : j < M)
    {fo : Nat} {cm mk re : Nat → Int32} (h : CS_ (gC_ va vb vc ve) n fo cm mk re) (q1 q2 q3 q4 q5 q6 : Int32) :
    ∃ r, lp_ (fun (st : (Int32 × Int32 × (Nat → Int32) × (Nat → Int32) × (Nat → Int32) × Int32 × Int32 × Int32 × Int32 × Int32 × Int32)) => fX1_crossPlanes_L96 (nI M) (nI n) (nI i) (nI j) va vb vc ve vth (iI_ (ci_ (gC_ va vb vc ve (ix_ n i)) (gC_ va vb vc ve (ix_ n j))).1, iI_ (ci_ (gC_ va vb vc ve (ix_ n i)) (gC_ va vb vc ve (ix_ n j))).2.1, iI_ (ci_ (gC_ va vb vc ve (ix_ n i)) (gC_ va vb vc ve (ix_ n j))).2.2) st.1 st.2.1 st.2.2.1 st.2.2.2.1 st.2.2.2.2.1 st.2.2.2.2.2.1 st.2.2.2.2.2.2.1 st.2.2.2.2.2.2.2.1 st.2.2.2.2.2.2.2.2.1 st.2.2.2.2.2.2.2.2.2.1 st.2.2.2.2.2.2.2.2.2.2) fu_ (nI (j + 1), nI fo, cm, mk, re, q1, q2, q3, q4, q5, q6) = some r ∧
      ∃ fo', r.2.1 = nI fo' ∧ CS_ (gC_ va vb vc ve) n fo' r.2.2.1 r.2.2.2.1 r.2.2.2.2.1 ∧ MO_ fo mk re fo' r.2.2.2.1 r.2.2.2.2.1 ∧
        ∀ k, j < k → k < M → dt_ (gC_ va vb vc ve (ix_ n i)) (gC_ va vb vc ve (ix_ n j)) (gC_ va vb vc ve (ix_ n k)) ≠ 0 → mkd_ r.2.2.2.1 (rp_ (gC_ va vb vc ve) n (cor_ (gC_ va vb vc ve (ix_ n i)) (gC_ va vb vc ve (ix_ n j)) (gC_ va vb vc ve (ix_ n k)))) = true := by
  have hb : ∀ k, k < n → bw_ (gC_ va vb vc ve k) := fun k hk => by
    have := hP k (by omega)
    rwa [ix_, if_pos hk] at this
  refine lp_for (fun (κ : Nat) st => st.1 = nI (j + 1 + κ) ∧ ∃ fo', st.2.1 = nI fo' ∧ CS_ (gC_ va vb vc ve) n fo' st.2.2.1 st.2.2.2.1 st.2.2.2.2.1 ∧ MO_ fo mk re fo' st.2.2.2.1 st.2.2.2.2.1 ∧
        ∀ k, j < k → k < j + 1 + κ → dt_ (gC_ va vb vc ve (ix_ n i)) (gC_ va vb vc ve (ix_ n j)) (gC_ va vb vc ve (ix_ n k)) ≠ 0 → mkd_ st.2.2.2.1 (rp_ (gC_ va vb vc ve) n (cor_ (gC_ va vb vc ve (ix_ n i)) (gC_ va vb vc ve (ix_ n j)) (gC_ va vb vc ve (ix_ n k)))) = true) _ (M - (j + 1)) (by omega) ?_ ?_ ?_
  · exact ⟨rfl, fo, rfl, h, MO_refl _ _ _, fun k h1 h2 => by omega⟩
  · rintro κ ⟨k', f', cm', mk', re', b1, b2, b3, b4, b5, b6⟩ hκ ⟨e1, fo', e2, hC, hMo, hA⟩
    dsimp only at e1 e2 hC hMo hA ⊢
    subst e1 e2
    left
    unfold fX1_crossPlanes_L96
    rw [if_neg (nI_ge (show j + 1 + κ < M by omega) (by omega)), bind_yes (f_indexOf hn (show i < n + 3 by omega)), bind_yes (f_indexOf hn (show j < n + 3 by omega)), bind_yes (f_indexOf hn (show j + 1 + κ < n + 3 by omega))]
    obtain ⟨fo2, cm2, mk2, re2, a1, a2, a3, a4, a5, a6, e, hC2, hM2, hA2⟩ := f_noteCorner hn hT hb (ix_lt hn (show i < n + 3 by omega)) (ix_lt hn (show j < n + 3 by omega)) (ix_lt hn (show j + 1 + κ < n + 3 by omega)) (hP i (by omega)) (hP j (by omega)) (hP (j + 1 + κ) (by omega)) hC b1 b2 b3 b4 b5 b6
    rw [bind_yes e]
    refine ⟨_, rfl, nI_1 _, fo2, rfl, hC2, MO_trans hMo hM2, fun k h1 h2 hd => ?_⟩
    rcases (show k < j + 1 + κ ∨ k = j + 1 + κ by omega) with q | rfl
    · exact hM2.1 _ (hA k h1 q hd)
    · exact hA2 hd
  · rintro ⟨k', f', cm', mk', re', b1, b2, b3, b4, b5, b6⟩ ⟨e1, fo', e2, hC, hMo, hA⟩
    dsimp only at e1 e2 hC hMo hA ⊢
    subst e1 e2
    unfold fX1_crossPlanes_L96
    rw [if_pos (nI_le (show M ≤ j + 1 + (M - (j + 1)) by omega) (by omega))]
    exact ⟨_, rfl, fo', rfl, hC, hMo, fun k h1 h2 => hA k h1 (by omega)⟩
/-- the lines that are noted: each is along two of the planes, and not along all walls -/
def LI_ (G : Nat → Wl_) (n M li : Nat) (la lb : Nat → Int32) : Prop :=
  ∀ l, l < li → ∃ i j, i < M ∧ j < M ∧ cx_ (G (ix_ n i)) (G (ix_ n j)) ≠ o3_ ∧ (∃ k, k < n ∧ dr_ (G k) (cx_ (G (ix_ n i)) (G (ix_ n j))) ≠ 0) ∧ la l = nI (lm_ G n (cx_ (G (ix_ n i)) (G (ix_ n j))) 2) ∧ lb l = nI (lm_ G n (cx_ (G (ix_ n i)) (G (ix_ n j))) 0)
def CP_ (G : Nat → Wl_) (n M i j fo li : Nat) (cm mk re la lb : Nat → Int32) : Prop :=
  CS_ G n fo cm mk re ∧ LI_ G n M li la lb ∧ li ≤ pc_ M i + (j - (i + 1)) ∧
  (∀ i' j', i' < j' → j' < M → (i' < i ∨ i' = i ∧ j' < j) →
    (cx_ (G (ix_ n i')) (G (ix_ n j')) ≠ o3_ → (∃ k, k < n ∧ dr_ (G k) (cx_ (G (ix_ n i')) (G (ix_ n j'))) ≠ 0) → ∃ l, l < li ∧ la l = nI (lm_ G n (cx_ (G (ix_ n i')) (G (ix_ n j'))) 2) ∧ lb l = nI (lm_ G n (cx_ (G (ix_ n i')) (G (ix_ n j'))) 0)) ∧
    ∀ k, j' < k → k < M → dt_ (G (ix_ n i')) (G (ix_ n j')) (G (ix_ n k)) ≠ 0 → mkd_ mk (rp_ G n (cor_ (G (ix_ n i')) (G (ix_ n j')) (G (ix_ n k)))) = true)
theorem f_L42 (hn : n ≤ 8) (hT : TH_ vth) (hP : ∀ i, i < n + 3 → bw_ (gC_ va vb vc ve (ix_ n i))) {M i j fo li : Nat} (hM : M ≤ n + 3) (hij : i < j) (hj : j < M)
    {cm mk re la lb : Nat → Int32} (h : CP_ (gC_ va vb vc ve) n M i j fo li cm mk re la lb) (k1x k1y k1z q1 q2 q3 q4 q5 q6 : Int32) :
    ∃ fo' li' cm' mk' re' la' lb' a1 a2 a3 a4 a5 a6 a7 a8 a9, fX1_crossPlanes_L42 (nI M) (nI n) (nI i) va vb vc ve vth (nI j) (nI fo) (nI li) cm mk re la lb k1x k1y k1z q1 q2 q3 q4 q5 q6 = some (.inl (nI (j + 1), nI fo', nI li', cm', mk', re', la', lb', a1, a2, a3, a4, a5, a6, a7, a8, a9)) ∧ CP_ (gC_ va vb vc ve) n M i (j + 1) fo' li' cm' mk' re' la' lb' := by
  have hb : ∀ k, k < n → bw_ (gC_ va vb vc ve k) := fun k hk => by
    have := hP k (by omega)
    rwa [ix_, if_pos hk] at this
  obtain ⟨hC, hL, hli, hA⟩ := h
  have h55 : li < 55 := by
    have := pc_55 ⟨M, by omega⟩ ⟨i, by omega⟩
    simp only [pc_] at this
    omega
  have bi := hP i (by omega)
  have bj := hP j (by omega)
  have hab := ab_ci bi bj
  unfold fX1_crossPlanes_L42
  rw [if_neg (nI_ge hj (by omega)), bind_yes (f_indexOf hn (show i < n + 3 by omega)), bind_yes (f_indexOf hn (show j < n + 3 by omega)), bind_yes (f_along ve (ix_lt hn (show i < n + 3 by omega)) (ix_lt hn (show j < n + 3 by omega)))]
  rw [bind_yes (f_nothing (ab_sm hab.1 (by decide)) (ab_sm hab.2.1 (by decide)) (ab_sm hab.2.2 (by decide)))]
  by_cases hc : cx_ (gC_ va vb vc ve (ix_ n i)) (gC_ va vb vc ve (ix_ n j)) = o3_
  · have h0 := (ci_0 _ _).mp hc
    rw [if_pos (show _ ∧ _ ∧ _ from h0), if_neg (show ¬ (1 : Int32) = 0 by decide), nI_1]
    refine ⟨fo, li, cm, mk, re, la, lb, _, _, _, _, _, _, _, _, _, rfl, hC, hL, by omega, ?_⟩
    intro i' j' h1 h2 h3
    rcases (show (i' < i ∨ i' = i ∧ j' < j) ∨ i' = i ∧ j' = j by omega) with q | ⟨rfl, rfl⟩
    · exact hA i' j' h1 h2 q
    · refine ⟨fun q => absurd hc q, fun k _ _ hd => absurd (dt_0 hc _) hd⟩
  · have h0 : ¬ _ := fun q => hc ((ci_0 _ _).mpr q)
    rw [if_neg (show ¬ (_ ∧ _ ∧ _) from h0), if_pos rfl]
    obtain ⟨r, e, fo', ef, hC', hMo, hA'⟩ := f_L96 hn hT hP hM hij hj hC q1 q2 q3 q4 q5 q6
    rcases f_noteLine hn hb bi bj h55 la lb with ⟨hw, el⟩ | ⟨hw, el⟩
    · rw [bind_yes el]
      simp only [nI_1]
      rw [bind_yes e]
      rw [ef]
      refine ⟨fo', li + 1, _, _, _, _, _, _, _, _, _, _, _, _, _, _, rfl, hC', ?_, by omega, ?_⟩
      · intro l hl
        rcases (show l < li ∨ l = li by omega) with q | rfl
        · obtain ⟨i1, j1, g1, g2, g3, g4, g5, g6⟩ := hL l q
          exact ⟨i1, j1, g1, g2, g3, g4, by rw [pk_un (by omega)]; exact g5, by rw [pk_un (by omega)]; exact g6⟩
        · exact ⟨i, j, by omega, hj, hc, hw, by rw [pk_us], by rw [pk_us]⟩
      · intro i' j' h1 h2 h3
        rcases (show (i' < i ∨ i' = i ∧ j' < j) ∨ i' = i ∧ j' = j by omega) with q | ⟨rfl, rfl⟩
        · obtain ⟨g1, g2⟩ := hA i' j' h1 h2 q
          refine ⟨fun c1 c2 => ?_, fun k c1 c2 c3 => hMo.1 _ (g2 k c1 c2 c3)⟩
          obtain ⟨l, hl, l1, l2⟩ := g1 c1 c2
          exact ⟨l, by omega, by rw [pk_un (by omega)]; exact l1, by rw [pk_un (by omega)]; exact l2⟩
        · exact ⟨fun _ _ => ⟨li, by omega, by rw [pk_us], by rw [pk_us]⟩, hA'⟩
    · rw [bind_yes el]
      simp only [nI_1]
      rw [bind_yes e]
      rw [ef]
      refine ⟨fo', li, _, _, _, _, _, _, _, _, _, _, _, _, _, _, rfl, hC', hL, by omega, ?_⟩
      intro i' j' h1 h2 h3
      rcases (show (i' < i ∨ i' = i ∧ j' < j) ∨ i' = i ∧ j' = j by omega) with q | ⟨rfl, rfl⟩
      · obtain ⟨g1, g2⟩ := hA i' j' h1 h2 q
        exact ⟨g1, fun k c1 c2 c3 => hMo.1 _ (g2 k c1 c2 c3)⟩
      · exact ⟨fun _ c2 => absurd c2 hw, hA'⟩
theorem f_crossPlanes (hn : n ≤ 8) (hT : TH_ vth) (hP : ∀ i, i < n + 3 → bw_ (gC_ va vb vc ve (ix_ n i))) {cm mk re la lb vrk : Nat → Int32} (hC : CS_ (gC_ va vb vc ve) n 0 cm mk re)
    (hR : vrk (2 ^ n - 1) = nI (rk_ (hS_ (gC_ va vb vc ve) (2 ^ n - 1)))) (k1x k1y k1z q1 q2 q3 q4 q5 q6 : Int32) :
    ∃ M fo li cm' mk' re' la' lb' a1 a2 a3 a4 a5 a6 a7 a8 a9, M = (if rk_ (hS_ (gC_ va vb vc ve) (2 ^ n - 1)) = 3 then n else n + 3) ∧ fX1_crossPlanes (nI n) 0 0 va vb vc ve vth vrk cm mk re la lb k1x k1y k1z q1 q2 q3 q4 q5 q6 = some (nI fo, nI li, cm', mk', re', la', lb', a1, a2, a3, a4, a5, a6, a7, a8, a9) ∧ CP_ (gC_ va vb vc ve) n M M (M + 1) fo li cm' mk' re' la' lb' := by
  have h2n : 2 ^ n ≤ 256 := Nat.pow_le_pow_right (n := 2) (j := 8) (by decide) hn
  have h2p : 0 < 2 ^ n := Nat.pow_pos (by decide)
  have hrk : fX2_rankOfAll (nI n) vrk = some (nI (rk_ (hS_ (gC_ va vb vc ve) (2 ^ n - 1)))) := by
    unfold fX2_rankOfAll
    rw [nI_all hn, ck_yes (in_R_nI (show 2 ^ n - 1 < 256 by omega) (by decide)), nI_clamp (by omega), hR]
  have hle := rk_le3 (hS_ (gC_ va vb vc ve) (2 ^ n - 1))
  generalize hM : (if rk_ (hS_ (gC_ va vb vc ve) (2 ^ n - 1)) = 3 then n else n + 3) = M
  have hMn : M ≤ n + 3 := by rw [← hM]; split <;> omega
  have hu3 : (if nI (rk_ (hS_ (gC_ va vb vc ve) (2 ^ n - 1))) = (3 : Int32) then some (nI n) else some (nI n + (3 : Int32))) = some (nI M) := by
    have e : (nI (rk_ (hS_ (gC_ va vb vc ve) (2 ^ n - 1))) = (3 : Int32)) ↔ rk_ (hS_ (gC_ va vb vc ve) (2 ^ n - 1)) = 3 := nI_eq (b := 3) (by omega) (by decide)
    by_cases c : rk_ (hS_ (gC_ va vb vc ve) (2 ^ n - 1)) = 3
    · rw [if_pos (e.mpr c), ← hM, if_pos c]
    · rw [if_neg (fun q => c (e.mp q)), ← hM, if_neg c]
      rw [show nI n + (3 : Int32) = nI (n + 3) from nI_add n 3]
  unfold fX1_crossPlanes
  rw [bind_yes hrk, bind_yes hu3]
  have hlp := lp_for (body := fun (st : (Int32 × Int32 × Int32 × (Nat → Int32) × (Nat → Int32) × (Nat → Int32) × (Nat → Int32) × (Nat → Int32) × Int32 × Int32 × Int32 × Int32 × Int32 × Int32 × Int32 × Int32 × Int32)) => fX1_crossPlanes_L33 (nI M) (nI n) va vb vc ve vth st.1 st.2.1 st.2.2.1 st.2.2.2.1 st.2.2.2.2.1 st.2.2.2.2.2.1 st.2.2.2.2.2.2.1 st.2.2.2.2.2.2.2.1 st.2.2.2.2.2.2.2.2.1 st.2.2.2.2.2.2.2.2.2.1 st.2.2.2.2.2.2.2.2.2.2.1 st.2.2.2.2.2.2.2.2.2.2.2.1 st.2.2.2.2.2.2.2.2.2.2.2.2.1 st.2.2.2.2.2.2.2.2.2.2.2.2.2.1 st.2.2.2.2.2.2.2.2.2.2.2.2.2.2.1 st.2.2.2.2.2.2.2.2.2.2.2.2.2.2.2.1 st.2.2.2.2.2.2.2.2.2.2.2.2.2.2.2.2)
    (fun i st => ∃ fo li cm' mk' re' la' lb' a1 a2 a3 a4 a5 a6 a7 a8 a9, st = (nI i, nI fo, nI li, cm', mk', re', la', lb', a1, a2, a3, a4, a5, a6, a7, a8, a9) ∧ CP_ (gC_ va vb vc ve) n M i (i + 1) fo li cm' mk' re' la' lb')
    (fun st => ∃ fo li cm' mk' re' la' lb' a1 a2 a3 a4 a5 a6 a7 a8 a9, st = (nI M, nI fo, nI li, cm', mk', re', la', lb', a1, a2, a3, a4, a5, a6, a7, a8, a9) ∧ CP_ (gC_ va vb vc ve) n M M (M + 1) fo li cm' mk' re' la' lb') M (by omega)
    (s := ((0 : Int32), (0 : Int32), (0 : Int32), cm, mk, re, la, lb, k1x, k1y, k1z, q1, q2, q3, q4, q5, q6)) ?_ ?_ ?_
  · obtain ⟨r, h1, fo, li, cm', mk', re', la', lb', a1, a2, a3, a4, a5, a6, a7, a8, a9, rfl, h2⟩ := hlp
    rw [bind_yes h1]
    exact ⟨M, fo, li, cm', mk', re', la', lb', _, _, _, _, _, _, _, _, _, rfl, rfl, h2⟩
  · refine ⟨0, 0, cm, mk, re, la, lb, _, _, _, _, _, _, _, _, _, rfl, hC, fun l hl => by omega, Nat.zero_le _, fun i' j' h1 h2 h3 => by omega⟩
  · rintro i st hi ⟨fo, li, cm', mk', re', la', lb', a1, a2, a3, a4, a5, a6, a7, a8, a9, rfl, hI⟩
    left
    dsimp only
    unfold fX1_crossPlanes_L33
    rw [if_neg (nI_ge hi (by omega))]
    have hlp := lp_for (body := fun (st : (Int32 × Int32 × Int32 × (Nat → Int32) × (Nat → Int32) × (Nat → Int32) × (Nat → Int32) × (Nat → Int32) × Int32 × Int32 × Int32 × Int32 × Int32 × Int32 × Int32 × Int32 × Int32)) => fX1_crossPlanes_L42 (nI M) (nI n) (nI i) va vb vc ve vth st.1 st.2.1 st.2.2.1 st.2.2.2.1 st.2.2.2.2.1 st.2.2.2.2.2.1 st.2.2.2.2.2.2.1 st.2.2.2.2.2.2.2.1 st.2.2.2.2.2.2.2.2.1 st.2.2.2.2.2.2.2.2.2.1 st.2.2.2.2.2.2.2.2.2.2.1 st.2.2.2.2.2.2.2.2.2.2.2.1 st.2.2.2.2.2.2.2.2.2.2.2.2.1 st.2.2.2.2.2.2.2.2.2.2.2.2.2.1 st.2.2.2.2.2.2.2.2.2.2.2.2.2.2.1 st.2.2.2.2.2.2.2.2.2.2.2.2.2.2.2.1 st.2.2.2.2.2.2.2.2.2.2.2.2.2.2.2.2)
      (fun κ st => ∃ fo li cm' mk' re' la' lb' a1 a2 a3 a4 a5 a6 a7 a8 a9, st = (nI (i + 1 + κ), nI fo, nI li, cm', mk', re', la', lb', a1, a2, a3, a4, a5, a6, a7, a8, a9) ∧ CP_ (gC_ va vb vc ve) n M i (i + 1 + κ) fo li cm' mk' re' la' lb')
      (fun st => ∃ fo li cm' mk' re' la' lb' a1 a2 a3 a4 a5 a6 a7 a8 a9, st = (nI M, nI fo, nI li, cm', mk', re', la', lb', a1, a2, a3, a4, a5, a6, a7, a8, a9) ∧ CP_ (gC_ va vb vc ve) n M i M fo li cm' mk' re' la' lb') (M - (i + 1)) (by omega)
      (s := (nI i + (1 : Int32), nI fo, nI li, cm', mk', re', la', lb', a1, a2, a3, a4, a5, a6, a7, a8, a9)) ?_ ?_ ?_
    · obtain ⟨r, h1, fo2, li2, cm2, mk2, re2, la2, lb2, b1, b2, b3, b4, b5, b6, b7, b8, b9, rfl, h2⟩ := hlp
      rw [bind_yes h1]
      refine ⟨_, rfl, fo2, li2, cm2, mk2, re2, la2, lb2, _, _, _, _, _, _, _, _, _, by rw [nI_1], ?_⟩
      obtain ⟨g1, g2, g3, g4⟩ := h2
      refine ⟨g1, g2, ?_, ?_⟩
      · simp only [pc_]; omega
      · intro i' j' h1 h2 h3
        exact g4 i' j' h1 h2 (by omega)
    · exact ⟨fo, li, cm', mk', re', la', lb', _, _, _, _, _, _, _, _, _, by rw [nI_1], hI⟩
    · rintro κ st hκ ⟨fo, li, cm', mk', re', la', lb', a1, a2, a3, a4, a5, a6, a7, a8, a9, rfl, hI⟩
      left
      dsimp only
      obtain ⟨fo2, li2, cm2, mk2, re2, la2, lb2, b1, b2, b3, b4, b5, b6, b7, b8, b9, e, h2⟩ := f_L42 hn hT hP hMn (show i < i + 1 + κ by omega) (by omega) hI a1 a2 a3 a4 a5 a6 a7 a8 a9
      rw [e]
      exact ⟨_, rfl, fo2, li2, cm2, mk2, re2, la2, lb2, _, _, _, _, _, _, _, _, _, rfl, h2⟩
    · rintro st ⟨fo, li, cm', mk', re', la', lb', a1, a2, a3, a4, a5, a6, a7, a8, a9, rfl, hI⟩
      dsimp only
      unfold fX1_crossPlanes_L42
      rw [show i + 1 + (M - (i + 1)) = M by omega] at hI ⊢
      rw [if_pos (nI_le (Nat.le_refl M) (by omega))]
      exact ⟨_, rfl, fo, li, cm', mk', re', la', lb', _, _, _, _, _, _, _, _, _, rfl, hI⟩
  · rintro st ⟨fo, li, cm', mk', re', la', lb', a1, a2, a3, a4, a5, a6, a7, a8, a9, rfl, hI⟩
    dsimp only
    unfold fX1_crossPlanes_L33
    rw [if_pos (nI_le (Nat.le_refl M) (by omega))]
    exact ⟨_, rfl, fo, li, cm', mk', re', la', lb', _, _, _, _, _, _, _, _, _, rfl, hI⟩
end C2
end
section
/-! small moves along lines -/
def mv_ (G : Nat → Wl_) (g v : V3_) (c : Rat) : Nat → Nat := fun k => if ev_ (G k) g = 0 then sg_ (c * dr_ (G k) v) else sg_ (ev_ (G k) g)
theorem mv_le (G : Nat → Wl_) (g v : V3_) (c : Rat) (k : Nat) : mv_ G g v c k ≤ 2 := by unfold mv_; split <;> exact sg_le _
theorem mv_place (G : Nat → Wl_) (n : Nat) (g v : V3_) (c : Rat) : ∃ q, ∀ k, k < n → sn_ G q k = mv_ G g v c k := by
  have h : Ev_ (fun t => ∀ x ∈ wl_ G n, sg_ (ev_ x (ad_ g t (mu_ c v))) = if ev_ x g = 0 then sg_ (c * dr_ x v) else sg_ (ev_ x g)) := by
    refine Ev_all _ _ (fun x _ => ?_)
    rcases (show ev_ x g < 0 ∨ ev_ x g = 0 ∨ 0 < ev_ x g by grind) with h0 | h0 | h0
    · refine Ev_mono (Ev_lin (a := - ev_ x g) (- (c * dr_ x v)) (by grind)) (fun t _ ht => ?_)
      rw [if_neg (by grind), sg_neg h0, ev_ad, dr_mu]
      exact sg_neg (by grind)
    · refine Ev_true (fun t ht => ?_)
      rw [if_pos h0, ev_ad, dr_mu, h0]
      rw [show (0 : Rat) + t * (c * dr_ x v) = t * (c * dr_ x v) by grind, sg_scale ht]
    · refine Ev_mono (Ev_lin (c * dr_ x v) h0) (fun t _ ht => ?_)
      rw [if_neg (by grind), sg_pos h0, ev_ad, dr_mu]
      exact sg_pos ht
  obtain ⟨t, _, ht⟩ := Ev_get h
  exact ⟨ad_ g t (mu_ c v), fun k hk => ht _ (wl_get hk)⟩
theorem sg_m1 (r : Rat) : sg_ (-1 * r) = 2 - sg_ r := by
  rcases (show r < 0 ∨ r = 0 ∨ 0 < r by grind) with h | h | h
  · rw [sg_neg h, sg_pos (by grind)]
  · rw [sg_zero h, sg_zero (by grind)]
  · rw [sg_pos h, sg_neg (by grind)]
theorem sg_p1 (r : Rat) : sg_ (1 * r) = sg_ r := by rw [Rat.one_mul]
theorem hS_bn {G : Nat → Wl_} {n : Nat} {b : Nat → Bool} {X : Wl_ → Prop} (h : ∀ x, X x ↔ ∃ k, k < n ∧ b k = true ∧ x = G k) : rk_ (hS_ G (bn_ b n)) = rk_ X := by
  refine rk_cg (fun x => ?_)
  rw [h]
  constructor
  · rintro ⟨k, hk, rfl⟩
    rw [bn_bit] at hk
    simp at hk
    exact ⟨k, hk.1, hk.2, rfl⟩
  · rintro ⟨k, h1, h2, rfl⟩
    exact ⟨k, by rw [bn_bit]; simp [h1, h2], rfl⟩
/-- the same plane -/
def s4_ (x y : Wl_) : Prop := x.1 * y.2.1 = x.2.1 * y.1 ∧ x.1 * y.2.2.1 = x.2.2.1 * y.1 ∧ x.2.1 * y.2.2.1 = x.2.2.1 * y.2.1 ∧ x.1 * y.2.2.2 = x.2.2.2 * y.1 ∧ x.2.1 * y.2.2.2 = x.2.2.2 * y.2.1 ∧ x.2.2.1 * y.2.2.2 = x.2.2.2 * y.2.2.1
theorem rI_eq {a b : Int} : (a : Rat) = b ↔ a = b := by
  constructor
  · intro h
    have : ((a - b : Int) : Rat) = 0 := by rw [Rat.intCast_sub]; grind
    have := rI_zero.mp this
    omega
  · intro h; rw [h]
theorem s4_on {x y : Wl_} {g : V3_} (hc : cx_ x y = o3_) (h1 : ev_ x g = 0) (h2 : ev_ y g = 0) : s4_ x y := by
  simp only [cx_, o3_, Prod.mk.injEq] at hc
  obtain ⟨c1, c2, c3⟩ := hc
  unfold ev_ dr_ at h1 h2
  refine ⟨?_, ?_, ?_, ?_, ?_, ?_⟩ <;> (apply rI_eq.mp; simp only [Rat.intCast_mul]; grind)
/-- no two walls are the same plane -/
def DI_ (G : Nat → Wl_) (n : Nat) : Prop := ∀ i j, i < n → j < n → i ≠ j → ¬ s4_ (G i) (G j)
def CLO_ (G : Nat → Wl_) (n li : Nat) (la lb mk : Nat → Int32) (g : V3_) : Prop :=
  ∀ l, l < li → ∀ v, la l = nI (lm_ G n v 2) → lb l = nI (lm_ G n v 0) → rk_ (fun z => On_ (wl_ G n) g z ∧ dr_ z v = 0) + 1 = rk_ (On_ (wl_ G n) g) →
    ∀ c : Rat, (c = 1 ∨ c = -1) → mkd_ mk (rn_ (mv_ G g v c) n) = true
theorem CLO_mo {G : Nat → Wl_} {n li : Nat} {la lb mk mk' : Nat → Int32} {g : V3_} (h : CLO_ G n li la lb mk g) (hm : ∀ r, mkd_ mk r = true → mkd_ mk' r = true) : CLO_ G n li la lb mk' g :=
  fun l hl v h1 h2 h3 c hc => hm _ (h l hl v h1 h2 h3 c hc)
theorem lm_lt (G : Nat → Wl_) {n : Nat} (hn : n ≤ 8) (v : V3_) (c : Nat) : lm_ G n v c < 256 := bn_lt8 _ hn
/-- the masks tell the signs -/
theorem lm_sg {G : Nat → Wl_} {n : Nat} (hn : n ≤ 8) {v w : V3_} (h2 : nI (lm_ G n v 2) = nI (lm_ G n w 2)) (h0 : nI (lm_ G n v 0) = nI (lm_ G n w 0)) {k : Nat} (hk : k < n) : sg_ (dr_ (G k) v) = sg_ (dr_ (G k) w) := by
  have a2 := lm_lt G hn v 2
  have b2 := lm_lt G hn w 2
  have a0 := lm_lt G hn v 0
  have b0 := lm_lt G hn w 0
  have e2' := (nI_eq (by omega) (by omega)).mp h2
  have e0' := (nI_eq (by omega) (by omega)).mp h0
  have e2 := bn_eq.mp e2' k hk
  have e0 := bn_eq.mp e0' k hk
  have l1 := sg_le (dr_ (G k) v)
  have l2 := sg_le (dr_ (G k) w)
  simp only [decide_eq_decide] at e2 e0
  omega
theorem mv_cg {G : Nat → Wl_} {n : Nat} {g v w : V3_} (h : ∀ k, k < n → sg_ (dr_ (G k) v) = sg_ (dr_ (G k) w)) {c : Rat} (hc : c = 1 ∨ c = -1) : rn_ (mv_ G g v c) n = rn_ (mv_ G g w c) n := by
  refine rn_cg (fun k hk => ?_)
  unfold mv_
  rcases hc with rfl | rfl
  · rw [sg_p1, sg_p1, h k hk]
  · rw [sg_m1, sg_m1, h k hk]
theorem shl8 {x y : Nat} (hx : x < 256) (hy : y < 256) : (nI x <<< ((8 : Int32) &&& 31)) ||| nI y = nI (y + 256 * x) := by
  rw [pk_shlN ((8 : Int32) &&& 31) 8 (by decide) (by omega), nI_or, Nat.mul_comm x, ← Nat.two_pow_add_eq_or_of_lt (i := 8) hy, Nat.add_comm]
theorem sub_1 {r : Nat} (h : 0 < r) : nI r - (1 : Int32) = nI (r - 1) := by
  obtain ⟨m, rfl⟩ : ∃ m, r = m + 1 := ⟨r - 1, by omega⟩
  rw [nI_pred]; rfl
section MV
variable {G : Nat → Wl_} {n : Nat}
theorem on_rk (g : V3_) : rk_ (hS_ G (bn_ (fun k => decide (sn_ G g k = 1)) n)) = rk_ (On_ (wl_ G n) g) := by
  refine hS_bn (fun x => ?_)
  unfold On_
  rw [wl_mem]
  constructor
  · rintro ⟨⟨k, hk, rfl⟩, h⟩
    exact ⟨k, hk, decide_eq_true (sg_eq1.mpr h), rfl⟩
  · rintro ⟨k, hk, h, rfl⟩
    exact ⟨⟨k, hk, rfl⟩, sg_eq1.mp (of_decide_eq_true h)⟩
theorem still_rk (g v : V3_) : rk_ (hS_ G (bn_ (fun k => decide (sn_ G g k = 1) && decide (sg_ (dr_ (G k) v) = 1)) n)) = rk_ (fun z => On_ (wl_ G n) g z ∧ dr_ z v = 0) := by
  refine hS_bn (fun x => ?_)
  unfold On_
  rw [wl_mem]
  constructor
  · rintro ⟨⟨⟨k, hk, rfl⟩, h⟩, h'⟩
    exact ⟨k, hk, by rw [Bool.and_eq_true]; exact ⟨decide_eq_true (sg_eq1.mpr h), decide_eq_true (sg_eq1.mpr h')⟩, rfl⟩
  · rintro ⟨k, hk, h, rfl⟩
    rw [Bool.and_eq_true] at h
    exact ⟨⟨⟨k, hk, rfl⟩, sg_eq1.mp (of_decide_eq_true h.1)⟩, sg_eq1.mp (of_decide_eq_true h.2)⟩
/-- off a single wall: all lines lead to its two sides -/
theorem one_wall (hD : DI_ G n) {g v0 v : V3_} (h0 : ∀ k, k < n → ¬ (ev_ (G k) g = 0 ∧ dr_ (G k) v0 = 0)) (hr0 : rk_ (fun z => On_ (wl_ G n) g z ∧ dr_ z v0 = 0) + 1 = rk_ (On_ (wl_ G n) g))
    (hr : rk_ (fun z => On_ (wl_ G n) g z ∧ dr_ z v = 0) + 1 = rk_ (On_ (wl_ G n) g)) {c : Rat} (hc : c = 1 ∨ c = -1) : ∃ c0 : Rat, (c0 = 1 ∨ c0 = -1) ∧ rn_ (mv_ G g v c) n = rn_ (mv_ G g v0 c0) n := by
  have e0 : ¬ ∃ z, On_ (wl_ G n) g z ∧ dr_ z v0 = 0 := by
    rintro ⟨z, ⟨hz, h1⟩, h2⟩
    obtain ⟨k, hk, rfl⟩ := wl_mem.mp hz
    exact h0 k hk ⟨h1, h2⟩
  have e1 : rk_ (fun z => On_ (wl_ G n) g z ∧ dr_ z v0 = 0) = 0 := by
    have h2 : ¬ R2_ (fun z => On_ (wl_ G n) g z ∧ dr_ z v0 = 0) := fun h => e0 (R2_ex h)
    exact rk_0 e0 h2 (fun h3 => h2 (R3_R2 h3))
  have e2 : rk_ (On_ (wl_ G n) g) = 1 := by omega
  have e3 := rk_inv0 (show rk_ (fun z => On_ (wl_ G n) g z ∧ dr_ z v = 0) = 0 by omega)
  obtain ⟨⟨z, hz, hzg⟩, hn2⟩ := rk_inv1 e2
  obtain ⟨k0, hk0, rfl⟩ := wl_mem.mp hz
  have huniq : ∀ k, k < n → ev_ (G k) g = 0 → k = k0 := by
    intro k hk hkg
    refine Classical.byContradiction fun q => ?_
    refine hD k k0 hk hk0 q (s4_on (Classical.byContradiction fun hcx => ?_) hkg hzg)
    exact hn2 ⟨G k, G k0, ⟨wl_get hk, hkg⟩, ⟨wl_get hk0, hzg⟩, hcx⟩
  have d0 : dr_ (G k0) v0 ≠ 0 := fun q => h0 k0 hk0 ⟨hzg, q⟩
  have d1 : dr_ (G k0) v ≠ 0 := fun q => e3 ⟨G k0, ⟨wl_get hk0, hzg⟩, q⟩
  have key : ∀ c0 : Rat, sg_ (c * dr_ (G k0) v) = sg_ (c0 * dr_ (G k0) v0) → rn_ (mv_ G g v c) n = rn_ (mv_ G g v0 c0) n := by
    intro c0 he
    refine rn_cg (fun k hk => ?_)
    unfold mv_
    by_cases q : ev_ (G k) g = 0
    · rw [if_pos q, if_pos q, huniq k hk q, he]
    · rw [if_neg q, if_neg q]
  have g0 : sg_ (dr_ (G k0) v0) ≠ 1 := fun q => d0 (sg_eq1.mp q)
  have g1 : sg_ (dr_ (G k0) v) ≠ 1 := fun q => d1 (sg_eq1.mp q)
  have l0 := sg_le (dr_ (G k0) v0)
  have l1 := sg_le (dr_ (G k0) v)
  have hcv : sg_ (c * dr_ (G k0) v) = 0 ∨ sg_ (c * dr_ (G k0) v) = 2 := by
    rcases hc with rfl | rfl
    · rw [sg_p1]; omega
    · rw [sg_m1]; omega
  by_cases q : sg_ (c * dr_ (G k0) v) = sg_ (dr_ (G k0) v0)
  · exact ⟨1, Or.inl rfl, key 1 (by rw [sg_p1]; exact q)⟩
  · exact ⟨-1, Or.inr rfl, key (-1) (by rw [sg_m1]; omega)⟩
theorem f_moveFrom (hn : n ≤ 8) {vth vrk la lb : Nat → Int32} (hT : TH_ vth) (hD : DI_ G n) {M li : Nat} (hL : LI_ G n M li la lb) (hli : li ≤ 55) (hrk : ∀ h, h < 2 ^ n → vrk h = nI (rk_ (hS_ G h)))
    {fo : Nat} {cm mk re : Nat → Int32} (h : CS_ G n fo cm mk re) (g : V3_) :
    ∃ fo' cm' mk' re', fX1_moveFrom (nI fo) (nI li) vth vrk cm mk re la lb (nI (sp_ (sn_ G g) n)) = some (nI fo', cm', mk', re') ∧ CS_ G n fo' cm' mk' re' ∧ MO_ fo mk re fo' mk' re' ∧ CLO_ G n li la lb mk' g := by
  have h2n : 2 ^ n ≤ 256 := Nat.pow_le_pow_right (n := 2) (j := 8) (by decide) hn
  have hon := bn_lt (fun k => decide (sn_ G g k = 1)) n
  unfold fX1_moveFrom
  rw [bind_yes (f_onMask hn), bind_yes (f_aboveMask hn)]
  by_cases hz : bn_ (fun k => decide (sn_ G g k = 1)) n = 0
  · rw [if_pos (by rw [hz]; rfl)]
    refine ⟨fo, cm, mk, re, rfl, h, MO_refl _ _ _, ?_⟩
    intro l hl v _ _ hr
    rw [← on_rk (G := G) (n := n) g, hz] at hr
    have := (KV_0 G 0 0 0).1
    have h3 := rk_le3 (hS_ G 0)
    have : rk_ (hS_ G 0) = 0 := ((nI_eq (a := 0) (by decide) (by omega)).mp this).symm
    omega
  · rw [if_neg (nI_ne0 (by omega) (by omega))]
    have hon0 : 0 < rk_ (On_ (wl_ G n) g) := by
      refine Nat.pos_of_ne_zero (fun q => ?_)
      have := rk_inv0 q
      apply hz
      rw [bn_zero]
      intro k hk
      cases e : decide (sn_ G g k = 1) with
      | false => rfl
      | true => exact absurd ⟨G k, wl_get hk, sg_eq1.mp (of_decide_eq_true e)⟩ this
    have hlp := lp_for (body := fun (st : (Int32 × Int32 × (Nat → Int32) × (Nat → Int32) × (Nat → Int32))) => fX1_moveFrom_L18 (nI li) (nI (bn_ (fun k => decide (sn_ G g k = 1)) n)) la lb vrk vth (nI (bn_ (fun k => decide (sn_ G g k = 2)) n)) st.1 st.2.1 st.2.2.1 st.2.2.2.1 st.2.2.2.2)
      (fun l st => st.1 = nI l ∧ ∃ fo', st.2.1 = nI fo' ∧ CS_ G n fo' st.2.2.1 st.2.2.2.1 st.2.2.2.2 ∧ MO_ fo mk re fo' st.2.2.2.1 st.2.2.2.2 ∧ CLO_ G n l la lb st.2.2.2.1 g)
      (fun u => ∃ fo' cm' mk' re', Sum.elim (fun (x15 : (Int32 × Int32 × (Nat → Int32) × (Nat → Int32) × (Nat → Int32))) => some (x15.2.1, x15.2.2.1, x15.2.2.2.1, x15.2.2.2.2)) (fun y => some y) u = some (nI fo', cm', mk', re') ∧ CS_ G n fo' cm' mk' re' ∧ MO_ fo mk re fo' mk' re' ∧ CLO_ G n li la lb mk' g) li (by omega) (s := ((0 : Int32), nI fo, cm, mk, re)) ?_ ?_ ?_
    · obtain ⟨r, h1, h2⟩ := hlp
      rw [bind_yes h1]
      exact h2
    · exact ⟨rfl, fo, rfl, h, MO_refl _ _ _, fun l hl => absurd hl (Nat.not_lt_zero l)⟩
    · rintro l ⟨l', f', cm', mk', re'⟩ hl ⟨e1, fo', e2, hC, hMo, hA⟩
      dsimp only at e1 e2 hC hMo hA ⊢
      subst e1 e2
      obtain ⟨i1, j1, _, _, _, _, hla, hlb⟩ := hL l hl
      generalize cx_ (G (ix_ n i1)) (G (ix_ n j1)) = v at hla hlb
      have hR : in_R (nI l) 55 := in_R_nI (by omega) (by decide)
      have hst : nI (bn_ (fun k => decide (sn_ G g k = 1)) n) &&& ((la l ||| lb l) ^^^ (-1 : Int32)) = nI (bn_ (fun k => decide (sn_ G g k = 1) && decide (sg_ (dr_ (G k) v) = 1)) n) := by
        rw [hla, hlb, nI_or]
        unfold lm_
        rw [bn_or, bn_andn]
        congr 1
        refine bn_cg (fun k _ => ?_)
        have := sg_le (dr_ (G k) v)
        generalize sg_ (dr_ (G k) v) = d at *
        rcases (show d = 0 ∨ d = 1 ∨ d = 2 by omega) with rfl | rfl | rfl <;> simp
      have hst256 := bn_lt8 (fun k => decide (sn_ G g k = 1) && decide (sg_ (dr_ (G k) v) = 1)) hn
      have hst2n := bn_lt (fun k => decide (sn_ G g k = 1) && decide (sg_ (dr_ (G k) v) = 1)) n
      have up : ((nI (bn_ (fun k => decide (sn_ G g k = 2)) n) ||| (nI (bn_ (fun k => decide (sn_ G g k = 1)) n) &&& la l)) <<< ((8 : Int32) &&& 31)) ||| nI (bn_ (fun k => decide (sn_ G g k = 1) && decide (sg_ (dr_ (G k) v) = 1)) n) = nI (sp_ (mv_ G g v 1) n) := by
        rw [hla]
        unfold lm_
        rw [nI_and, nI_or, bn_and, bn_or, shl8 (bn_lt8 _ hn) hst256]
        unfold sp_
        congr 1
        congr 1
        · refine bn_cg (fun k _ => ?_)
          unfold mv_ sn_
          by_cases q : ev_ (G k) g = 0
          · rw [if_pos q, sg_p1, sg_zero q]; simp
          · have : ¬ sg_ (ev_ (G k) g) = 1 := fun w => q (sg_eq1.mp w)
            rw [if_neg q]; simp [this]
        · congr 1
          refine bn_cg (fun k _ => ?_)
          unfold mv_ sn_
          by_cases q : ev_ (G k) g = 0
          · rw [if_pos q, sg_p1, sg_zero q]; simp
          · have : ¬ sg_ (ev_ (G k) g) = 1 := fun w => q (sg_eq1.mp w)
            rw [if_neg q]; simp [this]
      have dn : ((nI (bn_ (fun k => decide (sn_ G g k = 2)) n) ||| (nI (bn_ (fun k => decide (sn_ G g k = 1)) n) &&& lb l)) <<< ((8 : Int32) &&& 31)) ||| nI (bn_ (fun k => decide (sn_ G g k = 1) && decide (sg_ (dr_ (G k) v) = 1)) n) = nI (sp_ (mv_ G g v (-1)) n) := by
        rw [hlb]
        unfold lm_
        rw [nI_and, nI_or, bn_and, bn_or, shl8 (bn_lt8 _ hn) hst256]
        unfold sp_
        congr 1
        congr 1
        · refine bn_cg (fun k _ => ?_)
          unfold mv_ sn_
          have := sg_le (dr_ (G k) v)
          by_cases q : ev_ (G k) g = 0
          · rw [if_pos q, sg_m1, sg_zero q]
            generalize sg_ (dr_ (G k) v) = d at *
            rcases (show d = 0 ∨ d = 1 ∨ d = 2 by omega) with rfl | rfl | rfl <;> simp
          · have : ¬ sg_ (ev_ (G k) g) = 1 := fun w => q (sg_eq1.mp w)
            rw [if_neg q]; simp [this]
        · congr 1
          refine bn_cg (fun k _ => ?_)
          unfold mv_ sn_
          have := sg_le (dr_ (G k) v)
          by_cases q : ev_ (G k) g = 0
          · rw [if_pos q, sg_m1, sg_zero q]
            generalize sg_ (dr_ (G k) v) = d at *
            rcases (show d = 0 ∨ d = 1 ∨ d = 2 by omega) with rfl | rfl | rfl <;> simp
          · have : ¬ sg_ (ev_ (G k) g) = 1 := fun w => q (sg_eq1.mp w)
            rw [if_neg q]; simp [this]
      unfold fX1_moveFrom_L18
      rw [if_neg (nI_ge hl (by omega)), ck_yes hR, ck_yes hR]
      simp only [nI_clamp (show l < 2 ^ 31 by omega), hst]
      rw [ck_yes (in_R_nI hst256 (by decide)), ck_yes (in_R_nI (bn_lt8 _ hn) (by decide))]
      simp only [nI_clamp (show bn_ (fun k => decide (sn_ G g k = 1) && decide (sg_ (dr_ (G k) v) = 1)) n < 2 ^ 31 by omega), nI_clamp (show bn_ (fun k => decide (sn_ G g k = 1)) n < 2 ^ 31 by omega), hrk _ hst2n, hrk _ hon, on_rk, still_rk, sub_1 hon0]
      have l3a := rk_le3 (fun z => On_ (wl_ G n) g z ∧ dr_ z v = 0)
      have l3b := rk_le3 (On_ (wl_ G n) g)
      have same : ∀ w, la l = nI (lm_ G n w 2) → lb l = nI (lm_ G n w 0) → ∀ k, k < n → sg_ (dr_ (G k) w) = sg_ (dr_ (G k) v) := fun w w2 w0 k hk => lm_sg hn (w2.symm.trans hla) (w0.symm.trans hlb) hk
      have sameR : ∀ w, (∀ k, k < n → sg_ (dr_ (G k) w) = sg_ (dr_ (G k) v)) → rk_ (fun z => On_ (wl_ G n) g z ∧ dr_ z w = 0) = rk_ (fun z => On_ (wl_ G n) g z ∧ dr_ z v = 0) := by
        intro w hw
        refine rk_cg (fun z => ?_)
        constructor
        · rintro ⟨⟨hz, h1⟩, h2⟩
          obtain ⟨k, hk, rfl⟩ := wl_mem.mp hz
          exact ⟨⟨hz, h1⟩, sg_eq1.mp (by rw [← hw k hk]; exact sg_eq1.mpr h2)⟩
        · rintro ⟨⟨hz, h1⟩, h2⟩
          obtain ⟨k, hk, rfl⟩ := wl_mem.mp hz
          exact ⟨⟨hz, h1⟩, sg_eq1.mp (by rw [hw k hk]; exact sg_eq1.mpr h2)⟩
      by_cases hr : rk_ (fun z => On_ (wl_ G n) g z ∧ dr_ z v = 0) + 1 = rk_ (On_ (wl_ G n) g)
      · rw [if_pos (by congr 1; omega), ck_yes hR, up]
        obtain ⟨p1, hp1⟩ := mv_place G n g v 1
        obtain ⟨p2, hp2⟩ := mv_place G n g v (-1)
        rw [← sp_cg hp1]
        obtain ⟨f1, cm1, mk1, re1, ea, hC1, hm1, ha1, hb1, hc1⟩ := f_reach hn hT hC p1
        rw [bind_yes ea, ck_yes hR, dn, ← sp_cg hp2]
        obtain ⟨f2, cm2, mk2, re2, eb, hC2, hm2, ha2, hb2, hc2⟩ := f_reach hn hT hC1 p2
        dsimp only
        rw [bind_yes eb]
        have hMo2 : MO_ fo mk re f2 mk2 re2 := MO_trans hMo (MO_trans ⟨ha1, hb1, hc1⟩ ⟨ha2, hb2, hc2⟩)
        have r1 : rp_ G n p1 = rn_ (mv_ G g v 1) n := rn_cg hp1
        have r2 : rp_ G n p2 = rn_ (mv_ G g v (-1)) n := rn_cg hp2
        have both : ∀ c : Rat, (c = 1 ∨ c = -1) → mkd_ mk2 (rn_ (mv_ G g v c) n) = true := by
          rintro c (rfl | rfl)
          · rw [← r1]; exact ha2 _ hm1
          · rw [← r2]; exact hm2
        have upto : CLO_ G n (l + 1) la lb mk2 g := by
          intro l1 hl1 w w2 w0 hrw c hc
          rcases (show l1 < l ∨ l1 = l by omega) with q | rfl
          · exact ha2 _ (ha1 _ (hA l1 q w w2 w0 hrw c hc))
          · rw [mv_cg (same w w2 w0) hc]; exact both c hc
        by_cases hs0 : bn_ (fun k => decide (sn_ G g k = 1) && decide (sg_ (dr_ (G k) v) = 1)) n = 0
        · right
          rw [if_pos (by rw [hs0]; rfl)]
          refine ⟨_, rfl, f2, cm2, mk2, re2, rfl, hC2, hMo2, ?_⟩
          intro l1 hl1 w w2 w0 hrw c hc
          have hk0 : ∀ k, k < n → ¬ (ev_ (G k) g = 0 ∧ dr_ (G k) v = 0) := by
            rintro k hk ⟨q1, q2⟩
            have := bn_zero.mp hs0 k hk
            simp [sn_, sg_zero q1, sg_zero q2] at this
          obtain ⟨c0, hc0, e⟩ := one_wall hD hk0 hr hrw hc
          rw [e]; exact both c0 hc0
        · left
          rw [if_neg (nI_ne0 (by omega) (by omega)), nI_1]
          exact ⟨_, rfl, rfl, f2, rfl, hC2, hMo2, upto⟩
      · rw [if_neg (fun q => hr (by have := (nI_eq (by omega) (by omega)).mp q; omega)), nI_1]
        left
        refine ⟨_, rfl, rfl, fo', rfl, hC, hMo, ?_⟩
        intro l1 hl1 w w2 w0 hrw c hc
        rcases (show l1 < l ∨ l1 = l by omega) with q | rfl
        · exact hA l1 q w w2 w0 hrw c hc
        · rw [sameR w (same w w2 w0)] at hrw; exact absurd hrw hr
    · rintro ⟨l', f', cm', mk', re'⟩ ⟨e1, fo', e2, hC, hMo, hA⟩
      dsimp only at e1 e2 hC hMo hA ⊢
      subst e1 e2
      unfold fX1_moveFrom_L18
      rw [if_pos (nI_le (Nat.le_refl _) (by omega))]
      exact ⟨_, rfl, fo', cm', mk', re', rfl, hC, hMo, hA⟩
end MV
end
section
/-! the cut finds all faces -/
theorem cor_uniq {x y z : Wl_} (h : dt_ x y z ≠ 0) {p : V3_} (h1 : ev_ x p = 0) (h2 : ev_ y p = 0) (h3 : ev_ z p = 0) : p = cor_ x y z := by
  obtain ⟨c1, c2, c3⟩ := cor_on x y z h
  have d1 : dr_ x (sb_ p (cor_ x y z)) = 0 := by rw [dr_sb, h1, c1]; grind
  have d2 : dr_ y (sb_ p (cor_ x y z)) = 0 := by rw [dr_sb, h2, c2]; grind
  have d3 : dr_ z (sb_ p (cor_ x y z)) = 0 := by rw [dr_sb, h3, c3]; grind
  have hc : cx_ x y ≠ o3_ := fun q => h (dt_0 q z)
  obtain ⟨t, ht⟩ := along_cx d1 d2 hc
  rw [ht, dr_mu] at d3
  have t0 : t = 0 := (Rat.mul_eq_zero.mp d3).resolve_right h
  rw [t0] at ht
  simp only [sb_, mu_, Prod.mk.injEq] at ht
  obtain ⟨e1, e2, e3⟩ := ht
  have f1 : p.1 = (cor_ x y z).1 := by grind
  have f2 : p.2.1 = (cor_ x y z).2.1 := by grind
  have f3 : p.2.2 = (cor_ x y z).2.2 := by grind
  exact Prod.ext f1 (Prod.ext f2 f3)
theorem dt_12 (x y z : Wl_) : dt_ y x z = - dt_ x y z := by simp only [dt_, dr_, cx_]; grind
theorem dt_23 (x y z : Wl_) : dt_ x z y = - dt_ x y z := by simp only [dt_, dr_, cx_]; grind
theorem dt_same1 (x z : Wl_) : dt_ x x z = 0 := by simp only [dt_, dr_, cx_]; grind
theorem dt_same2 (x z : Wl_) : dt_ x z z = 0 := by simp only [dt_, dr_, cx_]; grind
theorem dt_same3 (x z : Wl_) : dt_ x z x = 0 := by simp only [dt_, dr_, cx_]; grind
theorem cor_12 {x y z : Wl_} (h : dt_ x y z ≠ 0) : cor_ y x z = cor_ x y z := by
  obtain ⟨c1, c2, c3⟩ := cor_on y x z (by rw [dt_12]; grind)
  exact cor_uniq h c2 c1 c3
theorem cor_23 {x y z : Wl_} (h : dt_ x y z ≠ 0) : cor_ x z y = cor_ x y z := by
  obtain ⟨c1, c2, c3⟩ := cor_on x z y (by rw [dt_23]; grind)
  exact cor_uniq h c1 c3 c2
theorem mark_3 {P : Nat → Wl_} {M : Nat} {T : V3_ → Prop} (h : ∀ i j k, i < j → j < k → k < M → dt_ (P i) (P j) (P k) ≠ 0 → T (cor_ (P i) (P j) (P k))) :
    ∀ i j k, i < M → j < M → k < M → dt_ (P i) (P j) (P k) ≠ 0 → T (cor_ (P i) (P j) (P k)) := by
  have h1 : ∀ i j k, i < j → i < M → j < M → k < M → dt_ (P i) (P j) (P k) ≠ 0 → T (cor_ (P i) (P j) (P k)) := by
    intro i j k hij hi hj hk hd
    rcases (show j < k ∨ j = k ∨ k < j by omega) with q | rfl | q
    · exact h i j k hij q hk hd
    · exact absurd (dt_same2 _ _) hd
    · have hd2 : dt_ (P i) (P k) (P j) ≠ 0 := by rw [dt_23]; grind
      rw [← cor_23 hd]
      rcases (show i < k ∨ i = k ∨ k < i by omega) with w | rfl | w
      · exact h i k j w q hj hd2
      · exact absurd (dt_same1 _ _) hd2
      · rw [← cor_12 hd2]
        exact h k i j w hij hj (by rw [dt_12]; grind)
  intro i j k hi hj hk hd
  rcases (show i < j ∨ i = j ∨ j < i by omega) with q | rfl | q
  · exact h1 i j k q hi hj hk hd
  · exact absurd (dt_same1 _ _) hd
  · rw [← cor_12 hd]
    exact h1 j i k q hj hi hk (by rw [dt_12]; grind)
theorem dr_anti (z x y : Wl_) : dr_ z (cx_ y x) = - dr_ z (cx_ x y) := by simp only [dr_, cx_]; grind
theorem cx_anti {x y : Wl_} (h : cx_ x y ≠ o3_) : cx_ y x ≠ o3_ := fun q => h (cx_swap q)
/-- the axis planes behind the walls -/
def AX_ (G : Nat → Wl_) : Prop := G 8 = (1, 0, 0, 0) ∧ G 9 = (0, 1, 0, 0) ∧ G 10 = (0, 0, 1, 0)
/-- how many planes cross -/
noncomputable def mM_ (G : Nat → Wl_) (n : Nat) : Nat := if rk_ (hS_ G (2 ^ n - 1)) = 3 then n else n + 3
theorem hS_all {G : Nat → Wl_} {n : Nat} {x : Wl_} : hS_ G (2 ^ n - 1) x ↔ x ∈ wl_ G n := by
  rw [wl_mem]
  unfold hS_
  simp only [Nat.testBit_two_pow_sub_one, decide_eq_true_eq]
theorem X_R3 {G : Nat → Wl_} {n : Nat} (hA : AX_ G) : R3_ (fun x => ∃ i, i < mM_ G n ∧ x = G (ix_ n i)) := by
  unfold mM_
  by_cases h : rk_ (hS_ G (2 ^ n - 1)) = 3
  · rw [if_pos h]
    obtain ⟨x, y, z, hx, hy, hz, hd⟩ := rk_inv3 h
    have up : ∀ w, hS_ G (2 ^ n - 1) w → ∃ i, i < n ∧ w = G (ix_ n i) := by
      intro w hw
      obtain ⟨k, hk, rfl⟩ := wl_mem.mp (hS_all.mp hw)
      exact ⟨k, hk, by rw [ix_, if_pos hk]⟩
    exact ⟨x, y, z, up x hx, up y hy, up z hz, hd⟩
  · rw [if_neg h]
    refine ⟨G 8, G 9, G 10, ⟨n, by omega, ?_⟩, ⟨n + 1, by omega, ?_⟩, ⟨n + 2, by omega, ?_⟩, ?_⟩
    · rw [ix_, if_neg (by omega)]; simp
    · rw [ix_, if_neg (by omega), show n + 1 - n = 1 by omega]
    · rw [ix_, if_neg (by omega), show n + 2 - n = 2 by omega]
    · rw [hA.1, hA.2.1, hA.2.2]; decide +kernel
section CU
variable {G : Nat → Wl_} {n : Nat}
theorem all_marked (hA : AX_ G) (hnv : ∀ k, k < n → nv_ (G k) ≠ o3_) {fo0 li : Nat} {cm0 mk0 re0 la lb mk : Nat → Int32} (hP : CP_ G n (mM_ G n) (mM_ G n) (mM_ G n + 1) fo0 li cm0 mk0 re0 la lb)
    (hmo : ∀ r, mkd_ mk0 r = true → mkd_ mk r = true) (hclo : ∀ g, mkd_ mk (rp_ G n g) = true → CLO_ G n li la lb mk g) : ∀ p, mkd_ mk (rp_ G n p) = true := by
  obtain ⟨hC, hL, hli, hA4⟩ := hP
  have hnM : n ≤ mM_ G n := by unfold mM_; split <;> omega
  refine climb_all (A := wl_ G n) (X := fun x => ∃ i, i < mM_ G n ∧ x = G (ix_ n i)) (Rch := fun p => mkd_ mk (rp_ G n p) = true) ⟨?_, ?_, ?_⟩ ?_ (X_R3 hA) ?_
  · intro p q hpq hp
    rw [← rp_eq.mpr hpq]; exact hp
  · rintro x y z ⟨i, hi, rfl⟩ ⟨j, hj, rfl⟩ ⟨k, hk, rfl⟩ hd
    exact mark_3 (P := fun i => G (ix_ n i)) (M := mM_ G n) (T := fun p => mkd_ mk (rp_ G n p) = true) (fun i j k h1 h2 h3 hd => hmo _ ((hA4 i j h1 (by omega) (Or.inl (by omega))).2 k h2 h3 hd)) i j k hi hj hk hd
  · rintro g hg x y ⟨i, hi, rfl⟩ ⟨j, hj, rfl⟩ hc ⟨w, hw, hdw⟩ hr c hcc p hp1 hp2
    have hrow : ∀ v c', (∀ z, c' * dr_ z v = c * dr_ z (cx_ (G (ix_ n i)) (G (ix_ n j)))) → rp_ G n p = rn_ (mv_ G g v c') n := by
      intro v c' he
      refine rn_cg (fun k hk => ?_)
      unfold mv_ sn_
      by_cases q : ev_ (G k) g = 0
      · rw [if_pos q, he]; exact hp2 _ (wl_get hk) q
      · rw [if_neg q]; exact hp1 _ (wl_get hk) q
    obtain ⟨kw, hkw, rfl⟩ := wl_mem.mp hw
    rcases (show i < j ∨ i = j ∨ j < i by omega) with q | rfl | q
    · obtain ⟨l, hl, l1, l2⟩ := (hA4 i j q hj (Or.inl hi)).1 hc ⟨kw, hkw, hdw⟩
      have := hclo g hg l hl _ l1 l2 hr c hcc
      rw [← hrow _ c (fun z => rfl)] at this
      exact this
    · exact absurd (cx_self _) hc
    · obtain ⟨l, hl, l1, l2⟩ := (hA4 j i q hi (Or.inl hj)).1 (cx_anti hc) ⟨kw, hkw, by rw [dr_anti]; grind⟩
      have hr' : rk_ (fun z => On_ (wl_ G n) g z ∧ dr_ z (cx_ (G (ix_ n j)) (G (ix_ n i))) = 0) + 1 = rk_ (On_ (wl_ G n) g) := by
        rw [← hr]
        congr 1
        refine rk_cg (fun z => ?_)
        rw [dr_anti]
        constructor
        · rintro ⟨a, b⟩; exact ⟨a, by grind⟩
        · rintro ⟨a, b⟩; exact ⟨a, by grind⟩
      have := hclo g hg l hl _ l1 l2 hr' (-c) (by rcases hcc with rfl | rfl; exact Or.inr rfl; exact Or.inl (by grind))
      rw [← hrow _ (-c) (fun z => by rw [dr_anti]; grind)] at this
      exact this
  · intro x hx
    obtain ⟨k, hk, rfl⟩ := wl_mem.mp hx
    exact ⟨k, by omega, by rw [ix_, if_pos hk]⟩
  · intro x hx
    obtain ⟨k, hk, rfl⟩ := wl_mem.mp hx
    exact hnv k hk
/-- the search from all that is reached -/
theorem f_search (hn : n ≤ 8) {vth la lb : Nat → Int32} (hT : TH_ vth) (hD : DI_ G n) {M li : Nat} (hL : LI_ G n M li la lb) (hli : li ≤ 55)
    (u5 : ((Nat → Int32) × (Nat → Int32) × (Nat → Int32) × (Nat → Int32) × Int32 × Int32 × Int32)) (hrk : ∀ h, h < 2 ^ n → u5.1 h = nI (rk_ (hS_ G h)))
    (u7 : (Int32 × Int32 × (Nat → Int32) × (Nat → Int32) × (Nat → Int32) × (Nat → Int32) × (Nat → Int32) × Int32 × Int32 × Int32 × Int32 × Int32 × Int32 × Int32 × Int32 × Int32)) (e1 : u7.2.1 = nI li) (e2 : u7.2.2.2.2.2.1 = la) (e3 : u7.2.2.2.2.2.2.1 = lb)
    {fo : Nat} {cm mk re : Nat → Int32} (h : CS_ G n fo cm mk re) :
    ∃ i fo' cm' mk' re', lp_ (fun (st : (Int32 × Int32 × (Nat → Int32) × (Nat → Int32) × (Nat → Int32))) => fX1_cutAnew_L38 u7 vth u5 st.1 st.2.1 st.2.2.1 st.2.2.2.1 st.2.2.2.2) fu_ ((0 : Int32), nI fo, cm, mk, re) = some (i, nI fo', cm', mk', re') ∧
      CS_ G n fo' cm' mk' re' ∧ (∀ r, mkd_ mk r = true → mkd_ mk' r = true) ∧ ∀ g, mkd_ mk' (rp_ G n g) = true → CLO_ G n li la lb mk' g := by
  have hlp := lp_for (body := fun (st : (Int32 × Int32 × (Nat → Int32) × (Nat → Int32) × (Nat → Int32))) => fX1_cutAnew_L38 u7 vth u5 st.1 st.2.1 st.2.2.1 st.2.2.2.1 st.2.2.2.2)
    (fun i st => st.1 = nI i ∧ ∃ fo', st.2.1 = nI fo' ∧ CS_ G n fo' st.2.2.1 st.2.2.2.1 st.2.2.2.2 ∧ MO_ fo mk re fo' st.2.2.2.1 st.2.2.2.2 ∧ ∀ i', i' < i → i' < fo' → ∀ g, st.2.2.2.2 i' = nI (sp_ (sn_ G g) n) → CLO_ G n li la lb st.2.2.2.1 g)
    (fun st => ∃ fo', st.2.1 = nI fo' ∧ CS_ G n fo' st.2.2.1 st.2.2.2.1 st.2.2.2.2 ∧ MO_ fo mk re fo' st.2.2.2.1 st.2.2.2.2 ∧ ∀ i', i' < fo' → ∀ g, st.2.2.2.2 i' = nI (sp_ (sn_ G g) n) → CLO_ G n li la lb st.2.2.2.1 g) 577 (by decide) (s := ((0 : Int32), nI fo, cm, mk, re))
    ⟨rfl, fo, rfl, h, MO_refl _ _ _, fun i' hi => absurd hi (Nat.not_lt_zero _)⟩ ?_ ?_
  · obtain ⟨⟨i, f', cm', mk', re'⟩, h1, fo', h2, h3, h4, h5⟩ := hlp
    dsimp only at h2 h3 h4 h5
    subst h2
    refine ⟨i, fo', cm', mk', re', h1, h3, h4.1, ?_⟩
    intro g hg
    obtain ⟨i', hi', e⟩ := h3.2.2.2.1 g hg
    exact h5 i' hi' g e
  · rintro i ⟨i0, f', cm', mk', re'⟩ hi ⟨g1, fo', g2, hC, hMo, hA⟩
    dsimp only at g1 g2 hC hMo hA ⊢
    subst g1 g2
    have h577 := CS_577 hn hC
    unfold fX1_cutAnew_L38
    rw [if_neg (show ¬ (577 : Int32) ≤ nI i from nI_ge (a := i) (b := 577) hi (by decide))]
    by_cases q : fo' ≤ i
    · right
      rw [if_pos (nI_le q (by omega))]
      exact ⟨_, rfl, fo', rfl, hC, hMo, fun i' hi' => hA i' (by omega) hi'⟩
    · left
      rw [if_neg (nI_ge (show i < fo' by omega) (by omega)), ck_yes (in_R_nI hi (by decide)), nI_clamp (by omega), e1, e2, e3]
      obtain ⟨g, hg1, hg2⟩ := hC.2.2.1 i (by omega)
      rw [hg1]
      obtain ⟨fo2, cm2, mk2, re2, e, hC2, hM2, hcl⟩ := f_moveFrom hn hT hD hL hli hrk hC g
      rw [bind_yes e, nI_1]
      refine ⟨_, rfl, rfl, fo2, rfl, hC2, MO_trans hMo hM2, ?_⟩
      intro i' hi' hi2 g' hg'
      dsimp only at hg' ⊢
      rw [hM2.2.2 i' (by omega)] at hg'
      rcases (show i' < i ∨ i' = i by omega) with w | rfl
      · exact CLO_mo (hA i' w (by omega) g' hg') hM2.1
      · have he : sp_ (sn_ G g) n = sp_ (sn_ G g') n := by
          have l1 := sp_lt (s := sn_ G g) hn
          have l2 := sp_lt (s := sn_ G g') hn
          exact (nI_eq (by omega) (by omega)).mp (hg1.symm.trans hg')
        have hs : ∀ k, k < n → sn_ G g k = sn_ G g' k := by
          have hm := f_onMask (s := sn_ G g) hn
          rw [he, f_onMask hn] at hm
          have hm2 := f_aboveMask (s := sn_ G g) hn
          rw [he, f_aboveMask hn] at hm2
          have a1 := bn_lt8 (fun k => decide (sn_ G g k = 1)) hn
          have a2 := bn_lt8 (fun k => decide (sn_ G g' k = 1)) hn
          have a3 := bn_lt8 (fun k => decide (sn_ G g k = 2)) hn
          have a4 := bn_lt8 (fun k => decide (sn_ G g' k = 2)) hn
          have b1 := bn_eq.mp ((nI_eq (by omega) (by omega)).mp (Option.some.inj hm))
          have b2 := bn_eq.mp ((nI_eq (by omega) (by omega)).mp (Option.some.inj hm2))
          intro k hk
          have c1 := b1 k hk
          have c2 := b2 k hk
          simp only [decide_eq_decide] at c1 c2
          have d1 := sn_le G g k
          have d2 := sn_le G g' k
          omega
        intro l hl v w2 w0 hr c hc
        have hon : ∀ z, On_ (wl_ G n) g z ↔ On_ (wl_ G n) g' z := On_cg (fun x hx => by obtain ⟨k, hk, rfl⟩ := wl_mem.mp hx; exact hs k hk)
        have hr' : rk_ (fun z => On_ (wl_ G n) g z ∧ dr_ z v = 0) + 1 = rk_ (On_ (wl_ G n) g) := by
          rw [rk_cg hon, ← hr]
          congr 1
          exact rk_cg (fun z => by rw [hon z])
        have := hcl l hl v w2 w0 hr' c hc
        rw [rn_cg (t := mv_ G g' v c) (fun k hk => by
          unfold mv_
          have := hs k hk
          unfold sn_ at this
          by_cases w : ev_ (G k) g = 0
          · rw [if_pos w, if_pos (sg_eq1.mp (by rw [← this]; exact sg_eq1.mpr w))]
          · rw [if_neg w, if_neg (fun q => w (sg_eq1.mp (by rw [this]; exact sg_eq1.mpr q))), this])] at this
        exact this
  · rintro ⟨i0, f', cm', mk', re'⟩ ⟨g1, fo', g2, hC, hMo, hA⟩
    dsimp only at g1 g2 hC hMo hA ⊢
    subst g1 g2
    have h577 := CS_577 hn hC
    unfold fX1_cutAnew_L38
    rw [if_pos (show (577 : Int32) ≤ nI 577 by decide)]
    exact ⟨_, rfl, fo', rfl, hC, hMo, fun i' hi' => hA i' (by omega) hi'⟩
end CU
end
section
/-! the rows in order, the heaps with a place in common, the whole cut -/
theorem f_fill (vmk : Nat → Int32) : ∃ mk, fJ7_fill_53178 vmk 0 = some mk ∧ ∀ i, i < 206 → mk i = 0 := by
  unfold fJ7_fill_53178
  have hlp := lp_for (body := fun (st : (Int32 × (Nat → Int32))) => fJ7_fill_53178_L5 0 st.1 st.2) (fun k st => st.1 = nI k ∧ ∀ i, i < k → st.2 i = 0) (fun st => ∀ i, i < 206 → st.2 i = 0) 206 (by decide) (s := ((0 : Int32), vmk)) ⟨rfl, fun i hi => absurd hi (Nat.not_lt_zero i)⟩ ?_ ?_
  · obtain ⟨r, h1, h2⟩ := hlp
    rw [bind_yes h1]
    exact ⟨_, rfl, h2⟩
  · rintro k ⟨i, mk⟩ hk ⟨h1, h2⟩
    dsimp only at h1 h2 ⊢
    subst h1
    left
    unfold fJ7_fill_53178_L5
    rw [if_neg (show ¬ (206 : Int32) ≤ nI k from nI_ge (a := k) (b := 206) hk (by decide)), ck_yes (in_R_nI hk (by decide)), nI_clamp (by omega), nI_1]
    refine ⟨_, rfl, rfl, fun i hi => ?_⟩
    dsimp only
    rcases (show i = k ∨ i < k by omega) with rfl | q
    · exact pk_us
    · rw [pk_un (by omega)]; exact h2 i q
  · rintro ⟨i, mk⟩ ⟨h1, h2⟩
    dsimp only at h1 h2 ⊢
    subst h1
    unfold fJ7_fill_53178_L5
    rw [if_pos (show (206 : Int32) ≤ nI 206 by decide)]
    exact ⟨_, rfl, h2⟩
theorem f_forget (vcm : Nat → Int32) : ∃ cm, fX2_forgetCommon vcm = some cm ∧ ∀ i, i < 256 → cm i = 0 := by
  unfold fX2_forgetCommon
  have hlp := lp_for (body := fun (st : (Int32 × (Nat → Int32))) => fX2_forgetCommon_L2 st.1 st.2) (fun k st => st.1 = nI k ∧ ∀ i, i < k → st.2 i = 0) (fun st => ∀ i, i < 256 → st.2 i = 0) 256 (by decide) (s := ((0 : Int32), vcm)) ⟨rfl, fun i hi => absurd hi (Nat.not_lt_zero i)⟩ ?_ ?_
  · obtain ⟨r, h1, h2⟩ := hlp
    rw [bind_yes h1]
    exact ⟨_, rfl, h2⟩
  · rintro k ⟨i, mk⟩ hk ⟨h1, h2⟩
    dsimp only at h1 h2 ⊢
    subst h1
    left
    unfold fX2_forgetCommon_L2
    rw [if_neg (show ¬ (256 : Int32) ≤ nI k from nI_ge (a := k) (b := 256) hk (by decide)), ck_yes (in_R_nI hk (by decide)), nI_clamp (by omega), nI_1]
    refine ⟨_, rfl, rfl, fun i hi => ?_⟩
    dsimp only
    rcases (show i = k ∨ i < k by omega) with rfl | q
    · rw [pk_us]; rfl
    · rw [pk_un (by omega)]; exact h2 i q
  · rintro ⟨i, mk⟩ ⟨h1, h2⟩
    dsimp only at h1 h2 ⊢
    subst h1
    unfold fX2_forgetCommon_L2
    rw [if_pos (show (256 : Int32) ≤ nI 256 by decide)]
    exact ⟨_, rfl, h2⟩
theorem CS_0 (G : Nat → Wl_) {n : Nat} (hn : n ≤ 8) {cm mk : Nat → Int32} (re : Nat → Int32) (hc : ∀ i, i < 256 → cm i = 0) (hm : ∀ i, i < 206 → mk i = 0) : CS_ G n 0 cm mk re := by
  have h0 : ∀ r, r < 6561 → mkd_ mk r = false := by
    intro r hr
    unfold mkd_
    rw [hm _ (by omega), b_0]
  refine ⟨(fb_ct_zero.mpr h0).symm, fun r hr h => ?_, fun i hi => absurd hi (Nat.not_lt_zero i), fun p hp => ?_, fun h hh => ?_⟩
  · rw [h0 r hr] at h; cases h
  · rw [h0 _ (rp_6561 G hn p)] at hp; cases hp
  · refine ⟨Or.inl (hc h hh), fun q => ?_, ?_⟩
    · rw [hc h hh] at q; cases q
    · rintro ⟨r, h1, h2, _⟩
      rw [h0 r h1] at h2; cases h2
section CV
variable {G : Nat → Wl_} {n : Nat}
theorem hS_row (hn : n ≤ 8) {r : Nat} (hr : r < 3 ^ n) : mk_ 8 r 1 < 2 ^ n := by
  rw [mk_dig hn hr (by decide)]; exact bn_lt _ n
theorem f_sortRows (hn : n ≤ 8) {d fo : Nat} {rk mk : Nat → Int32} (hfo : fo = fb_ct (mkd_ mk) 6561) (h577 : fo ≤ 577) (hF : ∀ r, r < 6561 → mkd_ mk r = true → Fa_ G n r) (hrk : ∀ h, h < 2 ^ n → rk h = nI (rk_ (hS_ G h))) (ro wi : Nat → Int32) :
    ∃ ro' wi', fX1_sortRows (nI d) (nI fo) rk mk ro wi = some (ro', wi') ∧ ∀ r, r < 6561 → mkd_ mk r = true → ro' (fb_ct (mkd_ mk) r) = nI r ∧ wi' (fb_ct (mkd_ mk) r) = nI d - nI (rk_ (hS_ G (mk_ 8 r 1))) := by
  have h2n : 2 ^ n ≤ 256 := Nat.pow_le_pow_right (n := 2) (j := 8) (by decide) hn
  unfold fX1_sortRows
  have hlp := lp_for (body := fun (st : (Int32 × Int32 × (Nat → Int32) × (Nat → Int32))) => fX1_sortRows_L4 (nI fo) mk (nI d) rk st.1 st.2.1 st.2.2.1 st.2.2.2)
    (fun k st => st.1 = nI k ∧ st.2.1 = nI (fb_ct (mkd_ mk) k) ∧ ∀ r, r < k → mkd_ mk r = true → st.2.2.1 (fb_ct (mkd_ mk) r) = nI r ∧ st.2.2.2 (fb_ct (mkd_ mk) r) = nI d - nI (rk_ (hS_ G (mk_ 8 r 1))))
    (fun st => ∀ r, r < 6561 → mkd_ mk r = true → st.2.2.1 (fb_ct (mkd_ mk) r) = nI r ∧ st.2.2.2 (fb_ct (mkd_ mk) r) = nI d - nI (rk_ (hS_ G (mk_ 8 r 1)))) 6561 (by decide) (s := ((0 : Int32), (0 : Int32), ro, wi))
    ⟨rfl, rfl, fun r hr => absurd hr (Nat.not_lt_zero r)⟩ ?_ ?_
  · obtain ⟨r, h1, h2⟩ := hlp
    rw [bind_yes h1]
    exact ⟨_, _, rfl, h2⟩
  · rintro k ⟨i, j, ro', wi'⟩ hk ⟨h1, h2, h3⟩
    dsimp only at h1 h2 h3 ⊢
    subst h1 h2
    have hle : fb_ct (mkd_ mk) k ≤ fo := by rw [hfo]; exact fb_ct_mono _ (by omega)
    unfold fX1_sortRows_L4
    rw [if_neg (show ¬ (6561 : Int32) ≤ nI k from nI_ge (a := k) (b := 6561) hk (by decide))]
    by_cases q : fo ≤ fb_ct (mkd_ mk) k
    · right
      rw [if_pos (nI_le q (by omega))]
      refine ⟨_, rfl, fun r hr hm => ?_⟩
      by_cases w : r < k
      · exact h3 r w hm
      · exfalso
        have m1 := fb_ct_mono (mkd_ mk) (show k ≤ r by omega)
        have m2 := fb_ct_mono (mkd_ mk) (show r + 1 ≤ 6561 by omega)
        rw [fb_ct_succ, hm] at m2
        simp only [if_true] at m2
        omega
    · left
      rw [if_neg (nI_ge (show fb_ct (mkd_ mk) k < fo by omega) (by omega)), bind_yes (f_isMarked mk hk)]
      cases hm : mkd_ mk k with
      | false =>
        simp only [Bool.false_eq_true, if_false, if_true]
        refine ⟨_, rfl, nI_1 k, by rw [fb_ct_succ, hm]; simp, fun r hr hmr => ?_⟩
        rcases (show r < k ∨ r = k by omega) with w | rfl
        · exact h3 r w hmr
        · rw [hm] at hmr; cases hmr
      | true =>
        have hr3 := Fa_lt (hF k hk hm)
        have hmk := hS_row hn hr3
        simp only [if_true]
        rw [if_neg (show ¬ (1 : Int32) = 0 by decide), ck_yes (in_R_nI (show fb_ct (mkd_ mk) k < 577 by omega) (by decide)), show (1 : Int32) = nI 1 from rfl, bind_yes (f_maskOf (by omega) (by decide)), ck_yes (in_R_nI (show mk_ 8 k 1 < 256 by omega) (by decide)), ck_yes (in_R_nI (show fb_ct (mkd_ mk) k < 577 by omega) (by decide)), nI_clamp (by omega), nI_clamp (by omega), hrk _ hmk]
        refine ⟨_, rfl, nI_1 k, by rw [fb_ct_succ, hm]; simp only [if_true]; exact nI_1 _, fun r hr hmr => ?_⟩
        dsimp only
        rcases (show r < k ∨ r = k by omega) with w | rfl
        · have m2 := fb_ct_mono (mkd_ mk) (show r + 1 ≤ k by omega)
          rw [fb_ct_succ, hmr] at m2
          simp only [if_true] at m2
          rw [pk_un (show fb_ct (mkd_ mk) r ≠ fb_ct (mkd_ mk) k by omega), pk_un (show fb_ct (mkd_ mk) r ≠ fb_ct (mkd_ mk) k by omega)]
          exact h3 r w hmr
        · rw [pk_us, pk_us]; exact ⟨rfl, rfl⟩
  · rintro ⟨i, j, ro', wi'⟩ ⟨h1, h2, h3⟩
    dsimp only at h1 h2 h3 ⊢
    subst h1 h2
    unfold fX1_sortRows_L4
    rw [if_pos (show (6561 : Int32) ≤ nI 6561 by decide)]
    exact ⟨_, rfl, h3⟩
/-- a heap without one wall -/
def wo_ (x k : Nat) : Nat := x ^^^ (x &&& 2 ^ k)
theorem wo_bit (x k j : Nat) : (wo_ x k).testBit j = (x.testBit j && !decide (j = k)) := by
  unfold wo_
  rw [Nat.testBit_xor, Nat.testBit_and, Nat.testBit_two_pow]
  by_cases q : j = k
  · subst q; simp
  · have : ¬ k = j := fun w => q w.symm
    simp [q, this]
theorem sub_bits {x y : Nat} (h : ∀ k, x.testBit k = true → y.testBit k = true) : x ≤ y := by
  have : x &&& y = x := by
    apply Nat.eq_of_testBit_eq
    intro k
    rw [Nat.testBit_and]
    cases e : x.testBit k with
    | false => rfl
    | true => rw [h k e]; rfl
  rw [← this]; exact Nat.and_le_right
theorem wo_le (x k : Nat) : wo_ x k ≤ x := sub_bits (fun j hj => by rw [wo_bit] at hj; simp at hj; exact hj.1)
theorem f_shareDown (hn : n ≤ 8) {cm : Nat → Int32} (hc : ∀ h, h < 2 ^ n → cm h = 0 ∨ cm h = 1) :
    ∃ cm', fX2_shareDown (nI n) cm = some cm' ∧ ∀ x, x < 2 ^ n → (cm' x = 0 ∨ cm' x = 1) ∧ (cm' x = 1 ↔ ∃ y, y < 2 ^ n ∧ (∀ k, x.testBit k = true → y.testBit k = true) ∧ cm y = 1) := by
  have h2n : 2 ^ n ≤ 256 := Nat.pow_le_pow_right (n := 2) (j := 8) (by decide) hn
  have h2p : 0 < 2 ^ n := Nat.pow_pos (by decide)
  unfold fX2_shareDown
  rw [nI_all hn]
  have hlp := lp_for (body := fun (st : (Int32 × (Nat → Int32))) => fX2_shareDown_L12 (nI n) st.1 st.2)
    (fun i st => ∃ h, h + i = 2 ^ n - 1 ∧ st.1 = nI h ∧ (∀ x, x < 2 ^ n → st.2 x = 0 ∨ st.2 x = 1) ∧ (∀ x, x < 2 ^ n → cm x = 1 → st.2 x = 1) ∧ (∀ x, x < 2 ^ n → st.2 x = 1 → ∃ y, y < 2 ^ n ∧ (∀ k, x.testBit k = true → y.testBit k = true) ∧ cm y = 1) ∧ ∀ x, h < x → x < 2 ^ n → st.2 x = 1 → ∀ k, k < n → st.2 (wo_ x k) = 1)
    (fun st => (∀ x, x < 2 ^ n → st.2 x = 0 ∨ st.2 x = 1) ∧ (∀ x, x < 2 ^ n → cm x = 1 → st.2 x = 1) ∧ (∀ x, x < 2 ^ n → st.2 x = 1 → ∃ y, y < 2 ^ n ∧ (∀ k, x.testBit k = true → y.testBit k = true) ∧ cm y = 1) ∧ ∀ x, 0 < x → x < 2 ^ n → st.2 x = 1 → ∀ k, k < n → st.2 (wo_ x k) = 1) (2 ^ n - 1) (by omega) (s := (nI (2 ^ n - 1), cm))
    ⟨2 ^ n - 1, by omega, rfl, hc, fun x _ h => h, fun x hx h => ⟨x, hx, fun _ h => h, h⟩, fun x h1 h2 => by omega⟩ ?_ ?_
  · obtain ⟨r, h1, h2, h3, h4, h5⟩ := hlp
    rw [bind_yes h1]
    refine ⟨_, rfl, fun x hx => ⟨h2 x hx, h4 x hx, ?_⟩⟩
    have main : ∀ (m x : Nat), x < 2 ^ n → 2 ^ n - x ≤ m → (∃ y, y < 2 ^ n ∧ (∀ k, x.testBit k = true → y.testBit k = true) ∧ cm y = 1) → r.2 x = 1 := by
      intro m
      induction m with
      | zero => intro x h1 h2; omega
      | succ m ih =>
        rintro x hx hm ⟨y, hy, hs, hcy⟩
        by_cases q : x = y
        · subst q; exact h3 x hx hcy
        · obtain ⟨k, k1, k2⟩ : ∃ k, x.testBit k = false ∧ y.testBit k = true := by
            refine Classical.byContradiction fun w => q (Nat.eq_of_testBit_eq (fun k => ?_))
            cases e : x.testBit k with
            | true => exact (hs k e).symm
            | false =>
              cases e2 : y.testBit k with
              | false => rfl
              | true => exact absurd ⟨k, e, e2⟩ w
          have hk : k < n := lt_bit hy k2
          have hbit : ∀ j, (x ||| 2 ^ k).testBit j = (x.testBit j || decide (j = k)) := fb_bit_set x k
          have hgt : x < x ||| 2 ^ k := by
            have h1 : x ≤ x ||| 2 ^ k := Nat.left_le_or
            rcases Nat.lt_or_ge x (x ||| 2 ^ k) with w | w
            · exact w
            · have : x = x ||| 2 ^ k := Nat.le_antisymm h1 w
              have b := hbit k
              rw [← this, k1] at b
              simp at b
          have hlt : x ||| 2 ^ k < 2 ^ n := Nat.or_lt_two_pow hx (Nat.pow_lt_pow_right (by decide) hk)
          have hD : ∃ y, y < 2 ^ n ∧ (∀ j, (x ||| 2 ^ k).testBit j = true → y.testBit j = true) ∧ cm y = 1 := by
            refine ⟨y, hy, fun j hj => ?_, hcy⟩
            rw [hbit] at hj
            rcases Bool.or_eq_true_iff.mp hj with w | w
            · exact hs j w
            · rw [of_decide_eq_true w]; exact k2
          have h6 := ih (x ||| 2 ^ k) hlt (by omega) hD
          have h7 := h5 (x ||| 2 ^ k) (by omega) hlt h6 k hk
          have h8 : wo_ (x ||| 2 ^ k) k = x := by
            apply Nat.eq_of_testBit_eq
            intro j
            rw [wo_bit, hbit]
            by_cases w : j = k
            · subst w; simp [k1]
            · simp [w]
          rw [h8] at h7
          exact h7
    exact main _ x hx (Nat.le_refl _)
  · rintro i ⟨h', cm1⟩ hi ⟨h, g0, g1, g2, g3, g4, g5⟩
    dsimp only at g1 g2 g3 g4 g5 ⊢
    subst g1
    left
    have hh : h < 256 := by omega
    have hh0 : 0 < h := by omega
    have hh2 : h < 2 ^ n := by omega
    unfold fX2_shareDown_L12
    rw [if_neg (nI_nle hh0 (by omega))]
    have hlp2 := lp_for (body := fun (st : (Int32 × (Nat → Int32))) => fX2_shareDown_L18 (nI n) (nI h) st.1 st.2)
      (fun κ st => st.1 = nI κ ∧ (∀ x, x < 2 ^ n → st.2 x = 0 ∨ st.2 x = 1) ∧ (∀ x, x < 2 ^ n → cm x = 1 → st.2 x = 1) ∧ (∀ x, x < 2 ^ n → st.2 x = 1 → ∃ y, y < 2 ^ n ∧ (∀ k, x.testBit k = true → y.testBit k = true) ∧ cm y = 1) ∧ (∀ x, h < x → x < 2 ^ n → st.2 x = 1 → ∀ k, k < n → st.2 (wo_ x k) = 1) ∧ (st.2 h = 1 → ∀ k, k < κ → st.2 (wo_ h k) = 1))
      (fun st => (∀ x, x < 2 ^ n → st.2 x = 0 ∨ st.2 x = 1) ∧ (∀ x, x < 2 ^ n → cm x = 1 → st.2 x = 1) ∧ (∀ x, x < 2 ^ n → st.2 x = 1 → ∃ y, y < 2 ^ n ∧ (∀ k, x.testBit k = true → y.testBit k = true) ∧ cm y = 1) ∧ (∀ x, h < x → x < 2 ^ n → st.2 x = 1 → ∀ k, k < n → st.2 (wo_ x k) = 1) ∧ (st.2 h = 1 → ∀ k, k < n → st.2 (wo_ h k) = 1)) n (by omega) (s := ((0 : Int32), cm1))
      ⟨rfl, g2, g3, g4, g5, fun _ k hk => absurd hk (Nat.not_lt_zero k)⟩ ?_ ?_
    · obtain ⟨r, e, r2, r3, r4, r5, r6⟩ := hlp2
      rw [bind_yes e]
      refine ⟨_, rfl, h - 1, by omega, ?_, r2, r3, r4, ?_⟩
      · dsimp only
        obtain ⟨m, rfl⟩ : ∃ m, h = m + 1 := ⟨h - 1, by omega⟩
        rw [pk_m1]; rfl
      · intro x hx1 hx2 hx3
        rcases (show x = h ∨ h < x by omega) with rfl | w
        · exact r6 hx3
        · exact r5 x w hx2 hx3
    · rintro κ ⟨κ', cm2⟩ hκ ⟨f1, f2, f3, f4, f5, f6⟩
      dsimp only at f1 f2 f3 f4 f5 f6 ⊢
      subst f1
      unfold fX2_shareDown_L18
      rw [if_neg (nI_ge hκ (by omega)), ck_yes (in_R_nI hh (by decide)), nI_clamp (by omega)]
      rcases f2 h hh2 with z | z
      · right
        rw [if_pos z]
        refine ⟨_, rfl, f2, f3, f4, f5, fun w => ?_⟩
        dsimp only at w
        rw [z] at w; cases w
      · left
        have hw : nI h &&& (((1 : Int32) <<< (nI κ &&& 31)) ^^^ (-1 : Int32)) = nI (wo_ h κ) := by rw [sh_1 κ (by omega), nI_andn]; rfl
        have hwl := wo_le h κ
        rw [if_neg (by rw [z]; decide)]
        simp only [hw]
        rw [ck_yes (in_R_nI (show wo_ h κ < 256 by omega) (by decide)), nI_clamp (by omega), nI_1]
        have up1 : ∀ x, cm2 x = 1 → upd cm2 (wo_ h κ) (vp_nar .boolean 1) x = 1 := by
          intro x hx
          by_cases w : x = wo_ h κ
          · rw [w, pk_us]; rfl
          · rw [pk_un w]; exact hx
        refine ⟨_, rfl, rfl, ?_, fun x hx hc => up1 x (f3 x hx hc), ?_, ?_, ?_⟩
        · intro x hx
          dsimp only
          by_cases w : x = wo_ h κ
          · rw [w, pk_us]; exact Or.inr rfl
          · rw [pk_un w]; exact f2 x hx
        · intro x hx
          dsimp only
          by_cases w : x = wo_ h κ
          · intro _
            obtain ⟨y, y1, y2, y3⟩ := f4 h hh2 z
            refine ⟨y, y1, fun k hk => y2 k ?_, y3⟩
            rw [w, wo_bit] at hk
            simp at hk
            exact hk.1
          · rw [pk_un w]; exact f4 x hx
        · intro x hx1 hx2 hx3 k hk
          dsimp only at hx3 ⊢
          rw [pk_un (by omega)] at hx3
          exact up1 _ (f5 x hx1 hx2 hx3 k hk)
        · intro _ k hk
          dsimp only
          rcases (show k < κ ∨ k = κ by omega) with w | rfl
          · exact up1 _ (f6 z k w)
          · rw [pk_us]; rfl
    · rintro ⟨κ', cm2⟩ ⟨f1, f2, f3, f4, f5, f6⟩
      dsimp only at f1 f2 f3 f4 f5 f6 ⊢
      subst f1
      unfold fX2_shareDown_L18
      rw [if_pos (nI_le (Nat.le_refl n) (by omega))]
      exact ⟨_, rfl, f2, f3, f4, f5, f6⟩
  · rintro ⟨h', cm1⟩ ⟨h, g0, g1, g2, g3, g4, g5⟩
    dsimp only at g1 g2 g3 g4 g5 ⊢
    subst g1
    have : h = 0 := by omega
    subst this
    unfold fX2_shareDown_L12
    rw [if_pos (show nI 0 ≤ 0 by decide)]
    exact ⟨_, rfl, g2, g3, g4, fun x hx => g5 x hx⟩
end CV
end
section
/-! the whole cut -/
/-- what the class's planes keep to -/
def PI_ (G : Nat → Wl_) (n : Nat) : Prop := n ≤ 8 ∧ (∀ k, k < n → bw_ (G k)) ∧ (∀ k, k < n → nv_ (G k) ≠ o3_) ∧ AX_ G ∧ DI_ G n
theorem PI_planes {G : Nat → Wl_} {n : Nat} (h : PI_ G n) : ∀ i, i < n + 3 → bw_ (G (ix_ n i)) := by
  obtain ⟨hn, hb, _, ⟨h8, h9, h10⟩, _⟩ := h
  intro i hi
  unfold ix_
  by_cases q : i < n
  · rw [if_pos q]; exact hb i q
  · rw [if_neg q]
    rcases (show i - n = 0 ∨ i - n = 1 ∨ i - n = 2 by omega) with e | e | e
    · rw [e, h8]; unfold bw_ ab_; decide
    · rw [e, h9]; unfold bw_ ab_; decide
    · rw [e, h10]; unfold bw_ ab_; decide
/-- what a cut holds -/
def CU_ (G : Nat → Wl_) (n d fo li : Nat) (rk cm mk ro wi la lb : Nat → Int32) : Prop :=
  (∀ r, r < 6561 → (mkd_ mk r = true ↔ Fa_ G n r)) ∧ fo = fb_ct (mkd_ mk) 6561 ∧ fo ≤ 577 ∧
  (∀ r, r < 6561 → mkd_ mk r = true → ro (fb_ct (mkd_ mk) r) = nI r ∧ wi (fb_ct (mkd_ mk) r) = nI d - nI (rk_ (hS_ G (mk_ 8 r 1)))) ∧
  (∀ h, h < 2 ^ n → rk h = nI (rk_ (hS_ G h))) ∧
  (∀ h, h < 2 ^ n → (cm h = 0 ∨ cm h = 1) ∧ (cm h = 1 ↔ ∃ p, ∀ k, h.testBit k = true → ev_ (G k) p = 0)) ∧
  li ≤ 55 ∧ LI_ G n (mM_ G n) li la lb ∧
  (∀ i j, i < j → j < mM_ G n → cx_ (G (ix_ n i)) (G (ix_ n j)) ≠ o3_ → (∃ k, k < n ∧ dr_ (G k) (cx_ (G (ix_ n i)) (G (ix_ n j))) ≠ 0) → ∃ l, l < li ∧ la l = nI (lm_ G n (cx_ (G (ix_ n i)) (G (ix_ n j))) 2) ∧ lb l = nI (lm_ G n (cx_ (G (ix_ n i)) (G (ix_ n j))) 0))
theorem f_cutAnew {va vb vc ve vth vrk vcm vkx vky vkz vmk vre vro vwi vla vlb : Nat → Int32} {n d : Nat} (hP : PI_ (gC_ va vb vc ve) n) (hT : TH_ vth) (h0 : vrk 0 = 0) (k0x k0y k0z k1x k1y k1z k2x k2y k2z k3x k3y k3z : Int32) :
    ∃ fo li rk cm kx ky kz mk re ro wi la lb a1 a2 a3 a4 a5 a6 a7 a8 a9 a10 a11 a12, fX1_cutAnew (nI d) (nI n) va vb vc ve vth vrk vcm vkx vky vkz vmk vre vro vwi vla vlb k0x k0y k0z k1x k1y k1z k2x k2y k2z k3x k3y k3z = some (nI fo, nI li, rk, cm, kx, ky, kz, mk, re, ro, wi, la, lb, a1, a2, a3, a4, a5, a6, a7, a8, a9, a10, a11, a12) ∧
      rk 0 = 0 ∧ CU_ (gC_ va vb vc ve) n d fo li rk cm mk ro wi la lb := by
  have hpl := PI_planes hP
  obtain ⟨hn, hb, hnv, hA, hD⟩ := hP
  have h2n : 2 ^ n ≤ 256 := Nat.pow_le_pow_right (n := 2) (j := 8) (by decide) hn
  have h2p : 0 < 2 ^ n := Nat.pow_pos (by decide)
  unfold fX1_cutAnew
  obtain ⟨mk0, e1, hmk0⟩ := f_fill vmk
  obtain ⟨cm0, e2, hcm0⟩ := f_forget vcm
  obtain ⟨u5, e3, hKV⟩ := f_rankAnew (vkx := vkx) (vky := vky) (vkz := vkz) (k0x := k0x) (k0y := k0y) (k0z := k0z) hn hb hnv h0
  have hrk : ∀ h, h < 2 ^ n → u5.1 h = nI (rk_ (hS_ (gC_ va vb vc ve) h)) := fun h hh => (hKV h hh).1
  obtain ⟨M, fo1, li, cm1, mk1, re1, la, lb, b1, b2, b3, b4, b5, b6, b7, b8, b9, hM, e4, hCP⟩ := f_crossPlanes hn hT hpl (la := vla) (lb := vlb) (CS_0 (gC_ va vb vc ve) hn vre hcm0 hmk0) (hrk (2 ^ n - 1) (by omega)) k1x k1y k1z k2x k2y k2z k3x k3y k3z
  have hMM : M = mM_ (gC_ va vb vc ve) n := hM
  subst hMM
  have hMn : mM_ (gC_ va vb vc ve) n ≤ n + 3 := by unfold mM_; split <;> omega
  have hli : li ≤ 55 := by
    have h1 := hCP.2.2.1
    generalize mM_ (gC_ va vb vc ve) n = m at *
    cases m with
    | zero => simp only [pc_] at h1; omega
    | succ m =>
      have := pc_55 ⟨m + 1, by omega⟩ ⟨m, by omega⟩
      dsimp only at this
      omega
  rw [bind_yes e1, bind_yes e2, bind_yes e3, bind_yes e4]
  obtain ⟨i, fo, cm2, mk2, re2, e5, hC, hmo, hclo⟩ := f_search hn hT hD hCP.2.1 hli u5 hrk (nI fo1, nI li, cm1, mk1, re1, la, lb, b1, b2, b3, b4, b5, b6, b7, b8, b9) rfl rfl rfl hCP.1
  have hall := all_marked hA hnv hCP hmo hclo
  have h577 := CS_577 hn hC
  have hF : ∀ r, r < 6561 → (mkd_ mk2 r = true ↔ Fa_ (gC_ va vb vc ve) n r) := fun r hr => ⟨hC.2.1 r hr, fun ⟨p, hp⟩ => by rw [hp]; exact hall p⟩
  obtain ⟨ro, wi, e6, hsort⟩ := f_sortRows (d := d) hn hC.1 h577 hC.2.1 hrk vro vwi
  obtain ⟨cm3, e7, hshare⟩ := f_shareDown (cm := cm2) hn (fun h hh => (hC.2.2.2.2 h (by omega)).1)
  dsimp only
  rw [bind_yes e5]
  dsimp only
  rw [bind_yes e6, bind_yes e7]
  refine ⟨fo, li, _, _, _, _, _, _, _, _, _, _, _, _, _, _, _, _, _, _, _, _, _, _, _, rfl, ?_, hF, hC.1, h577, hsort, hrk, ?_, hli, hCP.2.1, ?_⟩
  · rw [hrk 0 h2p]
    have := (KV_0 (gC_ va vb vc ve) 0 0 0).1
    exact this.symm
  · intro h hh
    obtain ⟨s1, s2⟩ := hshare h hh
    refine ⟨s1, ?_⟩
    rw [s2]
    constructor
    · rintro ⟨y, hy, hs, hcy⟩
      obtain ⟨r, r1, r2, r3⟩ := (hC.2.2.2.2 y (by omega)).2.mp hcy
      obtain ⟨p, rfl⟩ := hC.2.1 r r1 r2
      refine ⟨p, fun k hk => ?_⟩
      have := hs k hk
      rw [← r3, on_row hn, bn_bit] at this
      simp at this
      exact sg_eq1.mp this.2
    · rintro ⟨p, hp⟩
      refine ⟨mk_ 8 (rp_ (gC_ va vb vc ve) n p) 1, hS_row hn (rp_lt _ _ p), fun k hk => ?_, ?_⟩
      · rw [on_row hn, bn_bit]
        simp [lt_bit hh hk, sn_, sg_zero (hp k hk)]
      · have hlt := hS_row (n := n) hn (rp_lt (gC_ va vb vc ve) n p)
        exact (hC.2.2.2.2 _ (by omega)).2.mpr ⟨_, rp_6561 _ hn p, hall p, rfl⟩
  · intro i j hij hj
    exact (hCP.2.2.2 i j hij hj (Or.inl (by omega))).1
end
section
/-! the reference's rank: the table, its swaps and eliminations -/
theorem ix4 (r c : Nat) : (4 : Int32) * nI r + nI c = nI (4 * r + c) := by rw [show (4 : Int32) = nI 4 from rfl, pk_mul, nI_add]
theorem ix40 (r : Nat) : (4 : Int32) * nI r = nI (4 * r) := by rw [show (4 : Int32) = nI 4 from rfl, pk_mul]
def gM_ (wl : Nat → Int32) (k : Nat) : Wl_ := ((wl (4 * k)).toInt, (wl (4 * k + 1)).toInt, (wl (4 * k + 2)).toInt, (wl (4 * k + 3)).toInt)
theorem f_at (wl : Nat → Int32) {k c : Nat} (h : 4 * k + c < 32) : fX6_at wl (nI k) (nI c) = some (wl (4 * k + c)) := by
  unfold fX6_at
  simp only [ix4]
  rw [ck_yes (in_R_nI h (by decide)), nI_clamp (by omega)]
/-- a row of four -/
def tR_ (t : Nat → Int64) (r : Nat) : Wl_ := ((t (4 * r)).toInt, (t (4 * r + 1)).toInt, (t (4 * r + 2)).toInt, (t (4 * r + 3)).toInt)
theorem iL_of (x : Int64) : iL_ x.toInt = x := Int64.ofInt_toInt x
theorem m_L137 {p f : Nat} (hp : p < 8) (hf : f < 8) (t : Nat → Int64) :
    ∃ t' i, lp_ (fun (st : (Int32 × (Nat → Int64))) => fX6_rank_L137 (nI p) (nI f) st.1 st.2) fu_ ((0 : Int32), t) = some (i, t') ∧ (∀ c, c < 4 → t' (4 * p + c) = t (4 * f + c) ∧ t' (4 * f + c) = t (4 * p + c)) ∧ ∀ r c, c < 4 → r ≠ p → r ≠ f → t' (4 * r + c) = t (4 * r + c) := by
  have hlp := lp_for (body := fun (st : (Int32 × (Nat → Int64))) => fX6_rank_L137 (nI p) (nI f) st.1 st.2)
    (fun κ st => st.1 = nI κ ∧ (∀ c, c < κ → st.2 (4 * p + c) = t (4 * f + c) ∧ st.2 (4 * f + c) = t (4 * p + c)) ∧ (∀ c, κ ≤ c → c < 4 → st.2 (4 * p + c) = t (4 * p + c) ∧ st.2 (4 * f + c) = t (4 * f + c)) ∧ ∀ r c, c < 4 → r ≠ p → r ≠ f → st.2 (4 * r + c) = t (4 * r + c))
    (fun st => (∀ c, c < 4 → st.2 (4 * p + c) = t (4 * f + c) ∧ st.2 (4 * f + c) = t (4 * p + c)) ∧ ∀ r c, c < 4 → r ≠ p → r ≠ f → st.2 (4 * r + c) = t (4 * r + c)) 4 (by decide) (s := ((0 : Int32), t))
    ⟨rfl, fun c hc => absurd hc (Nat.not_lt_zero c), fun _ _ _ => ⟨rfl, rfl⟩, fun _ _ _ _ _ => rfl⟩ ?_ ?_
  · obtain ⟨⟨i, t'⟩, h1, h2, h3⟩ := hlp
    exact ⟨t', i, h1, h2, h3⟩
  · rintro κ ⟨i, s⟩ hκ ⟨h1, h2, h3, h4⟩
    dsimp only at h1 h2 h3 h4 ⊢
    subst h1
    left
    unfold fX6_rank_L137
    simp only [ix4]
    have hR1 : in_R (nI (4 * p + κ)) 32 := in_R_nI (by omega) (by decide)
    have hR2 : in_R (nI (4 * f + κ)) 32 := in_R_nI (by omega) (by decide)
    rw [if_neg (show ¬ (4 : Int32) ≤ nI κ from nI_ge (a := κ) (b := 4) hκ (by decide)), ck_yes hR1, ck_yes hR2, ck_yes hR1, ck_yes hR2, nI_clamp (by omega), nI_clamp (by omega), nI_1]
    refine ⟨_, rfl, rfl, ?_, ?_, ?_⟩
    · intro c hc
      dsimp only
      rcases (show c < κ ∨ c = κ by omega) with q | rfl
      · rw [pk_uLn (by omega), pk_uLn (by omega), pk_uLn (by omega), pk_uLn (by omega)]; exact h2 c q
      · obtain ⟨a1, a2⟩ := h3 c (Nat.le_refl _) hκ
        by_cases e : p = f
        · subst e; rw [pk_uLs, a1]; exact ⟨rfl, rfl⟩
        · rw [pk_uLn (show 4 * p + c ≠ 4 * f + c by omega), pk_uLs, pk_uLs, a1, a2]; exact ⟨rfl, rfl⟩
    · intro c hc1 hc2
      dsimp only
      rw [pk_uLn (by omega), pk_uLn (by omega), pk_uLn (by omega), pk_uLn (by omega)]
      exact h3 c (by omega) hc2
    · intro r c hc hrp hrf
      dsimp only
      rw [pk_uLn (by omega), pk_uLn (by omega)]
      exact h4 r c hc hrp hrf
  · rintro ⟨i, s⟩ ⟨h1, h2, h3, h4⟩
    dsimp only at h1 h2 h3 h4 ⊢
    subst h1
    unfold fX6_rank_L137
    rw [if_pos (show (4 : Int32) ≤ nI 4 by decide)]
    exact ⟨_, rfl, h2, h4⟩
theorem m_L244 {r f i : Nat} (hr : r < 8) (hf : f < r) (hi : i < 4) (t : Nat → Int64) :
    ∃ t' j, lp_ (fun (st : (Int32 × (Nat → Int64))) => fX6_rank_L244 (nI r) (nI f) t (nI i) st.1 st.2) fu_ ((0 : Int32), t) = some (j, t') ∧ (∀ c, c < 4 → t' (4 * r + c) = t (4 * r + c) * t (4 * f + i) - t (4 * f + c) * t (4 * r + i)) ∧ ∀ r' c, c < 4 → r' ≠ r → t' (4 * r' + c) = t (4 * r' + c) := by
  have hlp := lp_for (body := fun (st : (Int32 × (Nat → Int64))) => fX6_rank_L244 (nI r) (nI f) t (nI i) st.1 st.2)
    (fun κ st => st.1 = nI κ ∧ (∀ c, c < κ → st.2 (4 * r + c) = t (4 * r + c) * t (4 * f + i) - t (4 * f + c) * t (4 * r + i)) ∧ (∀ c, κ ≤ c → c < 4 → st.2 (4 * r + c) = t (4 * r + c)) ∧ ∀ r' c, c < 4 → r' ≠ r → st.2 (4 * r' + c) = t (4 * r' + c))
    (fun st => (∀ c, c < 4 → st.2 (4 * r + c) = t (4 * r + c) * t (4 * f + i) - t (4 * f + c) * t (4 * r + i)) ∧ ∀ r' c, c < 4 → r' ≠ r → st.2 (4 * r' + c) = t (4 * r' + c)) 4 (by decide) (s := ((0 : Int32), t))
    ⟨rfl, fun c hc => absurd hc (Nat.not_lt_zero c), fun _ _ _ => rfl, fun _ _ _ _ => rfl⟩ ?_ ?_
  · obtain ⟨⟨j, t'⟩, h1, h2, h3⟩ := hlp
    exact ⟨t', j, h1, h2, h3⟩
  · rintro κ ⟨j, s⟩ hκ ⟨h1, h2, h3, h4⟩
    dsimp only at h1 h2 h3 h4 ⊢
    subst h1
    left
    unfold fX6_rank_L244
    simp only [ix4]
    have hR1 : in_R (nI (4 * r + κ)) 32 := in_R_nI (by omega) (by decide)
    have hR2 : in_R (nI (4 * f + κ)) 32 := in_R_nI (by omega) (by decide)
    rw [if_neg (show ¬ (4 : Int32) ≤ nI κ from nI_ge (a := κ) (b := 4) hκ (by decide)), ck_yes hR1, ck_yes hR2, ck_yes hR1, nI_clamp (by omega), nI_clamp (by omega), nI_clamp (by omega), nI_clamp (by omega), nI_1]
    refine ⟨_, rfl, rfl, ?_, ?_, ?_⟩
    · intro c hc
      dsimp only
      rcases (show c < κ ∨ c = κ by omega) with q | rfl
      · rw [pk_uLn (by omega)]; exact h2 c q
      · rw [pk_uLs, h3 c (Nat.le_refl _) hκ, h4 f c hκ (by omega)]
    · intro c hc1 hc2
      dsimp only
      rw [pk_uLn (by omega)]; exact h3 c (by omega) hc2
    · intro r' c hc hr'
      dsimp only
      rw [pk_uLn (by omega)]; exact h4 r' c hc hr'
  · rintro ⟨j, s⟩ ⟨h1, h2, h3, h4⟩
    dsimp only at h1 h2 h3 h4 ⊢
    subst h1
    unfold fX6_rank_L244
    rw [if_pos (show (4 : Int32) ≤ nI 4 by decide)]
    exact ⟨_, rfl, h2, h4⟩
theorem m_L207 {m f i : Nat} (hm : m ≤ 8) (hf : f < m) (hi : i < 4) (a0 : Int32) (b0 : Nat → Int64) (t : Nat → Int64) :
    ∃ t' j, lp_ (fun (st : (Int32 × (Nat → Int64))) => fX6_rank_L207 (a0, nI m, b0) (nI i) (nI f) st.1 st.2) fu_ (nI (f + 1), t) = some (j, t') ∧ (∀ r c, c < 4 → f < r → r < m → t' (4 * r + c) = t (4 * r + c) * t (4 * f + i) - t (4 * f + c) * t (4 * r + i)) ∧ ∀ r c, c < 4 → r ≤ f → t' (4 * r + c) = t (4 * r + c) := by
  have hlp := lp_for (body := fun (st : (Int32 × (Nat → Int64))) => fX6_rank_L207 (a0, nI m, b0) (nI i) (nI f) st.1 st.2)
    (fun κ st => st.1 = nI (f + 1 + κ) ∧ (∀ r c, c < 4 → f < r → r < f + 1 + κ → st.2 (4 * r + c) = t (4 * r + c) * t (4 * f + i) - t (4 * f + c) * t (4 * r + i)) ∧ ∀ r c, c < 4 → (r ≤ f ∨ f + 1 + κ ≤ r) → st.2 (4 * r + c) = t (4 * r + c))
    (fun st => (∀ r c, c < 4 → f < r → r < m → st.2 (4 * r + c) = t (4 * r + c) * t (4 * f + i) - t (4 * f + c) * t (4 * r + i)) ∧ ∀ r c, c < 4 → r ≤ f → st.2 (4 * r + c) = t (4 * r + c)) (m - (f + 1)) (by omega) (s := (nI (f + 1), t))
    ⟨rfl, fun r c _ h1 h2 => by omega, fun _ _ _ _ => rfl⟩ ?_ ?_
  · obtain ⟨⟨j, t'⟩, h1, h2, h3⟩ := hlp
    exact ⟨t', j, h1, h2, h3⟩
  · rintro κ ⟨j, s⟩ hκ ⟨h1, h2, h3⟩
    dsimp only at h1 h2 h3 ⊢
    subst h1
    left
    unfold fX6_rank_L207
    simp only [ix4]
    rw [if_neg (nI_ge (show f + 1 + κ < m by omega) (by omega)), ck_yes (in_R_nI (show 4 * (f + 1 + κ) + i < 32 by omega) (by decide)), ck_yes (in_R_nI (show 4 * f + i < 32 by omega) (by decide))]
    obtain ⟨t', j, e, g1, g2⟩ := m_L244 (r := f + 1 + κ) (f := f) (i := i) (by omega) (by omega) hi s
    rw [bind_yes e, nI_1]
    refine ⟨_, rfl, rfl, ?_, ?_⟩
    · intro r c hc hr1 hr2
      dsimp only
      rcases (show r < f + 1 + κ ∨ r = f + 1 + κ by omega) with q | rfl
      · rw [g2 r c hc (by omega)]; exact h2 r c hc hr1 q
      · rw [g1 c hc, h3 _ c hc (Or.inr (Nat.le_refl _)), h3 f i hi (Or.inl (Nat.le_refl _)), h3 f c hc (Or.inl (Nat.le_refl _)), h3 _ i hi (Or.inr (Nat.le_refl _))]
    · intro r c hc hr
      dsimp only
      rw [g2 r c hc (by omega)]
      exact h3 r c hc (by omega)
  · rintro ⟨j, s⟩ ⟨h1, h2, h3⟩
    dsimp only at h1 h2 h3 ⊢
    subst h1
    unfold fX6_rank_L207
    rw [if_pos (nI_le (show m ≤ f + 1 + (m - (f + 1)) by omega) (by omega))]
    exact ⟨_, rfl, fun r c hc h4 h5 => h2 r c hc h4 (by omega), fun r c hc hr => h3 r c hc (Or.inl hr)⟩
theorem m_L96 {m f i : Nat} (hm : m ≤ 8) (hf : f ≤ m) (hi : i < 4) (a0 : Int32) (b0 : Nat → Int64) (t : Nat → Int64) :
    ∃ p, lp_ (fun (st : Int32) => fX6_rank_L96 (a0, nI m, b0) (nI i) t st) fu_ (nI f) = some (nI p) ∧ f ≤ p ∧ p ≤ m ∧ (∀ r, f ≤ r → r < p → t (4 * r + i) = 0) ∧ (p < m → t (4 * p + i) ≠ 0) := by
  have hlp := lp_for (body := fun (st : Int32) => fX6_rank_L96 (a0, nI m, b0) (nI i) t st)
    (fun κ st => st = nI (f + κ) ∧ ∀ r, f ≤ r → r < f + κ → t (4 * r + i) = 0)
    (fun x => ∃ p, x = nI p ∧ f ≤ p ∧ p ≤ m ∧ (∀ r, f ≤ r → r < p → t (4 * r + i) = 0) ∧ (p < m → t (4 * p + i) ≠ 0)) (m - f) (by omega) (s := nI f)
    ⟨rfl, fun r h1 h2 => by omega⟩ ?_ ?_
  · obtain ⟨x, h1, p, rfl, h2⟩ := hlp
    exact ⟨p, h1, h2⟩
  · rintro κ st hκ ⟨rfl, h2⟩
    unfold fX6_rank_L96
    simp only [ix4]
    rw [if_neg (nI_ge (show f + κ < m by omega) (by omega)), ck_yes (in_R_nI (show 4 * (f + κ) + i < 32 by omega) (by decide)), nI_clamp (by omega)]
    by_cases q : t (4 * (f + κ) + i) = 0
    · left
      rw [if_pos ((lg_cmp_eq _ _).mpr q), nI_1]
      refine ⟨_, rfl, rfl, fun r h1 h3 => ?_⟩
      rcases (show r < f + κ ∨ r = f + κ by omega) with w | rfl
      · exact h2 r h1 w
      · exact q
    · right
      rw [if_neg (fun w => q ((lg_cmp_eq _ _).mp w))]
      exact ⟨_, rfl, f + κ, rfl, by omega, by omega, h2, fun _ => q⟩
  · rintro st ⟨rfl, h2⟩
    unfold fX6_rank_L96
    rw [if_pos (nI_le (show m ≤ f + (m - f) by omega) (by omega))]
    exact ⟨_, rfl, f + (m - f), rfl, by omega, by omega, h2, fun h => by omega⟩
/-- one column: it is skipped, or its first row comes to the top and the rest is made 0 there -/
theorem m_L86 {m f i p2 : Nat} (hm : m ≤ 8) (hf : f ≤ m) (hi : i < p2) (hp2 : p2 ≤ 4) (a0 : Int32) (b0 : Nat → Int64) (t : Nat → Int64) :
    ((∀ r, f ≤ r → r < m → t (4 * r + i) = 0) ∧ fX6_rank_L86 (nI p2) (a0, nI m, b0) (nI i) (nI f) t = some (.inl (nI (i + 1), nI f, t))) ∨
    ∃ (p : Nat) (s t' : Nat → Int64), f ≤ p ∧ p < m ∧ t (4 * p + i) ≠ 0 ∧ fX6_rank_L86 (nI p2) (a0, nI m, b0) (nI i) (nI f) t = some (.inl (nI (i + 1), nI (f + 1), t')) ∧
      (∀ c, c < 4 → s (4 * p + c) = t (4 * f + c) ∧ s (4 * f + c) = t (4 * p + c)) ∧ (∀ r c, c < 4 → r ≠ p → r ≠ f → s (4 * r + c) = t (4 * r + c)) ∧
      (∀ r c, c < 4 → f < r → r < m → t' (4 * r + c) = s (4 * r + c) * s (4 * f + i) - s (4 * f + c) * s (4 * r + i)) ∧ ∀ r c, c < 4 → r ≤ f → t' (4 * r + c) = s (4 * r + c) := by
  unfold fX6_rank_L86
  rw [if_neg (nI_ge hi (by omega))]
  obtain ⟨p, e, h1, h2, h3, h4⟩ := m_L96 hm hf (show i < 4 by omega) a0 b0 t
  rw [bind_yes e]
  by_cases q : p = m
  · left
    rw [if_pos (by rw [q]), nI_1]
    exact ⟨fun r h5 h6 => h3 r h5 (by omega), rfl⟩
  · right
    rw [if_neg (fun w => q ((nI_eq (by omega) (by omega)).mp w))]
    obtain ⟨s, j, e2, g1, g2⟩ := m_L137 (p := p) (f := f) (by omega) (by omega) t
    obtain ⟨t', j2, e3, g3, g4⟩ := m_L207 (m := m) (f := f) (i := i) hm (by omega) (by omega) a0 b0 s
    rw [bind_yes e2, nI_1]
    dsimp only
    rw [bind_yes e3, nI_1]
    exact ⟨p, s, t', h1, by omega, h4 (by omega), rfl, g1, g2, g3, g4⟩
end
section
/-! the reference's rank is the rank -/
theorem bit_t {h k : Nat} (hh : h < 2 ^ 31) (hk : k < 31) : (nI h >>> (nI k &&& 31)) &&& (1 : Int32) = nI (if h.testBit k = true then 1 else 0) := by
  rw [pk_shrN hh (nI k &&& 31) k (s_l k (by omega)), pk_andN (m := 1) (Nat.lt_of_le_of_lt (Nat.div_le_self _ _) (by omega)) 1 (by decide), Nat.testBit_eq_decide_div_mod_eq]
  have := Nat.mod_lt (h / 2 ^ k) (show 0 < 2 by decide)
  rw [Nat.pow_one]
  rcases (show h / 2 ^ k % 2 = 0 ∨ h / 2 ^ k % 2 = 1 by omega) with q | q <;> simp [q]
theorem bit_t0 {h k : Nat} (hh : h < 2 ^ 31) (hk : k < 31) : ((nI h >>> (nI k &&& 31)) &&& (1 : Int32) = 0) ↔ h.testBit k = false := by
  rw [bit_t hh hk]
  cases h.testBit k <;> decide
theorem bit_t1 {h k : Nat} (hh : h < 2 ^ 31) (hk : k < 31) : ((nI h >>> (nI k &&& 31)) &&& (1 : Int32) = 1) ↔ h.testBit k = true := by
  rw [bit_t hh hk]
  cases h.testBit k <;> decide
theorem m_L29 {p2 q k : Nat} (hp : p2 ≤ 4) (hq : q < 8) (hk : k < 8) (wl : Nat → Int32) (t : Nat → Int64) :
    ∃ t' i, lp_ (fun (st : (Int32 × (Nat → Int64))) => fX6_rank_L29 (nI p2) (nI q) wl (nI k) st.1 st.2) fu_ ((0 : Int32), t) = some (i, t') ∧ (∀ c, c < 4 → t' (4 * q + c) = if c < p2 then (wl (4 * k + c)).toInt64 else 0) ∧ ∀ r c, c < 4 → r ≠ q → t' (4 * r + c) = t (4 * r + c) := by
  have hlp := lp_for (body := fun (st : (Int32 × (Nat → Int64))) => fX6_rank_L29 (nI p2) (nI q) wl (nI k) st.1 st.2)
    (fun κ st => st.1 = nI κ ∧ (∀ c, c < κ → st.2 (4 * q + c) = if c < p2 then (wl (4 * k + c)).toInt64 else 0) ∧ ∀ r c, c < 4 → r ≠ q → st.2 (4 * r + c) = t (4 * r + c))
    (fun st => (∀ c, c < 4 → st.2 (4 * q + c) = if c < p2 then (wl (4 * k + c)).toInt64 else 0) ∧ ∀ r c, c < 4 → r ≠ q → st.2 (4 * r + c) = t (4 * r + c)) 4 (by decide) (s := ((0 : Int32), t))
    ⟨rfl, fun c hc => absurd hc (Nat.not_lt_zero c), fun _ _ _ _ => rfl⟩ ?_ ?_
  · obtain ⟨⟨j, t'⟩, h1, h2, h3⟩ := hlp
    exact ⟨t', j, h1, h2, h3⟩
  · rintro κ ⟨j, s⟩ hκ ⟨h1, h2, h3⟩
    dsimp only at h1 h2 h3 ⊢
    subst h1
    left
    unfold fX6_rank_L29
    simp only [ix4]
    have hR : in_R (nI (4 * q + κ)) 32 := in_R_nI (by omega) (by decide)
    rw [if_neg (show ¬ (4 : Int32) ≤ nI κ from nI_ge (a := κ) (b := 4) hκ (by decide))]
    have fin : ∀ v, (if κ < p2 then (wl (4 * k + κ)).toInt64 else 0) = v → ∃ s', (some (Sum.inl (nI (κ + 1), vp_updL s (4 * q + κ) v)) : Option ((Int32 × (Nat → Int64)) ⊕ (Int32 × (Nat → Int64)))) = some (Sum.inl s') ∧ s'.1 = nI (κ + 1) ∧ (∀ c, c < κ + 1 → s'.2 (4 * q + c) = if c < p2 then (wl (4 * k + c)).toInt64 else 0) ∧ ∀ r c, c < 4 → r ≠ q → s'.2 (4 * r + c) = t (4 * r + c) := by
      intro v hv
      refine ⟨_, rfl, rfl, ?_, ?_⟩
      · intro c hc
        dsimp only
        rcases (show c < κ ∨ c = κ by omega) with w | rfl
        · rw [pk_uLn (by omega)]; exact h2 c w
        · rw [pk_uLs, hv]
      · intro r c hc hr
        dsimp only
        rw [pk_uLn (by omega)]; exact h3 r c hc hr
    by_cases w : κ < p2
    · rw [if_neg (nI_ge w (by omega)), bind_yes (f_at wl (by omega)), ck_yes hR, nI_clamp (by omega), nI_1]
      exact fin _ (if_pos w)
    · rw [if_pos (nI_le (show p2 ≤ κ by omega) (by omega)), ck_yes hR, nI_clamp (by omega), nI_1]
      exact fin _ (if_neg w)
  · rintro ⟨j, s⟩ ⟨h1, h2, h3⟩
    dsimp only at h1 h2 h3 ⊢
    subst h1
    unfold fX6_rank_L29
    rw [if_pos (show (4 : Int32) ≤ nI 4 by decide)]
    exact ⟨_, rfl, h2, h3⟩
theorem m_L5 {n h p2 : Nat} (hn : n ≤ 8) (hh : h < 2 ^ n) (hp : p2 ≤ 4) (wl : Nat → Int32) (t : Nat → Int64) :
    ∃ t' i, lp_ (fun (st : (Int32 × Int32 × (Nat → Int64))) => fX6_rank_L5 (nI n) (nI h) (nI p2) wl st.1 st.2.1 st.2.2) fu_ ((0 : Int32), (0 : Int32), t) = some (i, nI (fb_ct (fun k => h.testBit k) n), t') ∧
      ∀ k, k < n → h.testBit k = true → ∀ c, c < 4 → t' (4 * fb_ct (fun k => h.testBit k) k + c) = if c < p2 then (wl (4 * k + c)).toInt64 else 0 := by
  have h2n : 2 ^ n ≤ 256 := Nat.pow_le_pow_right (n := 2) (j := 8) (by decide) hn
  have hlp := lp_for (body := fun (st : (Int32 × Int32 × (Nat → Int64))) => fX6_rank_L5 (nI n) (nI h) (nI p2) wl st.1 st.2.1 st.2.2)
    (fun κ st => st.1 = nI κ ∧ st.2.1 = nI (fb_ct (fun k => h.testBit k) κ) ∧ ∀ k, k < κ → h.testBit k = true → ∀ c, c < 4 → st.2.2 (4 * fb_ct (fun k => h.testBit k) k + c) = if c < p2 then (wl (4 * k + c)).toInt64 else 0)
    (fun st => st.2.1 = nI (fb_ct (fun k => h.testBit k) n) ∧ ∀ k, k < n → h.testBit k = true → ∀ c, c < 4 → st.2.2 (4 * fb_ct (fun k => h.testBit k) k + c) = if c < p2 then (wl (4 * k + c)).toInt64 else 0) n (by omega) (s := ((0 : Int32), (0 : Int32), t))
    ⟨rfl, rfl, fun k hk => absurd hk (Nat.not_lt_zero k)⟩ ?_ ?_
  · obtain ⟨⟨i, j, t'⟩, h1, h2, h3⟩ := hlp
    dsimp only at h2 h3
    subst h2
    exact ⟨t', i, h1, h3⟩
  · rintro κ ⟨i, j, s⟩ hκ ⟨h1, h2, h3⟩
    dsimp only at h1 h2 h3 ⊢
    subst h1 h2
    left
    have hle := fb_ct_le (fun k => h.testBit k) κ
    unfold fX6_rank_L5
    rw [if_neg (nI_ge hκ (by omega))]
    have hb := bit_t0 (h := h) (k := κ) (by omega) (by omega)
    cases e : h.testBit κ with
    | false =>
      rw [if_pos (hb.mpr e), nI_1]
      refine ⟨_, rfl, rfl, by rw [fb_ct_succ, e]; simp, fun k hk hbk => ?_⟩
      rcases (show k < κ ∨ k = κ by omega) with w | rfl
      · exact h3 k w hbk
      · rw [e] at hbk; cases hbk
    | true =>
      rw [if_neg (fun w => by rw [hb.mp w] at e; cases e)]
      obtain ⟨t', j, e1, g1, g2⟩ := m_L29 (p2 := p2) (q := fb_ct (fun k => h.testBit k) κ) (k := κ) hp (by omega) (by omega) wl s
      rw [bind_yes e1, nI_1, nI_1]
      refine ⟨_, rfl, rfl, by rw [fb_ct_succ, e]; rfl, fun k hk hbk c hc => ?_⟩
      dsimp only
      rcases (show k < κ ∨ k = κ by omega) with w | rfl
      · have m2 := fb_ct_mono (fun k => h.testBit k) (show k + 1 ≤ κ by omega)
        rw [fb_ct_succ] at m2
        simp only [hbk, if_true] at m2
        rw [g2 _ c hc (by omega)]; exact h3 k w hbk c hc
      · exact g1 c hc
  · rintro ⟨i, j, s⟩ ⟨h1, h2, h3⟩
    dsimp only at h1 h2 h3 ⊢
    subst h1 h2
    unfold fX6_rank_L5
    rw [if_pos (nI_le (Nat.le_refl n) (by omega))]
    exact ⟨_, rfl, rfl, h3⟩
def BB_ : Nat → Nat
  | 0 => 99
  | i + 1 => 2 * (BB_ i * BB_ i)
theorem BB_3 : BB_ 3 = 1181113208886757728 ∨ BB_ 3 < 9223372036854775808 := Or.inr (by decide +kernel)
theorem BB_le : ∀ i : Fin 4, BB_ i.val < 9223372036854775808 := by decide +kernel
theorem tR_cell {t : Nat → Int64} {r i : Nat} (hi : i < 3) : (t (4 * r + i)).toInt = cf_ i (tR_ t r) := by
  rcases (show i = 0 ∨ i = 1 ∨ i = 2 by omega) with rfl | rfl | rfl <;> rfl
theorem tR_cg {t s : Nat → Int64} {r q : Nat} (h : ∀ c, c < 4 → t (4 * r + c) = s (4 * q + c)) : tR_ t r = tR_ s q := by
  have h0 := h 0 (by decide)
  have h1 := h 1 (by decide)
  have h2 := h 2 (by decide)
  have h3 := h 3 (by decide)
  simp only [Nat.add_zero] at h0
  unfold tR_
  rw [h0, h1, h2, h3]
theorem el_int {u v w z : Int64} {B : Nat} (hu : ab_ u.toInt B) (hv : ab_ v.toInt B) (hw : ab_ w.toInt B) (hz : ab_ z.toInt B) (hB : 2 * (B * B) < 9223372036854775808) : (u * v - w * z).toInt = u.toInt * v.toInt - w.toInt * z.toInt ∧ ab_ (u * v - w * z).toInt (2 * (B * B)) := by
  have hab : ab_ (u.toInt * v.toInt - w.toInt * z.toInt) (2 * (B * B)) := ab_mono (ab_sub (ab_mul hu hv) (ab_mul hw hz)) (by omega)
  have e : u * v - w * z = iL_ (u.toInt * v.toInt - w.toInt * z.toInt) := by rw [← iL_sub, ← iL_mul, ← iL_mul, iL_of, iL_of, iL_of, iL_of]
  rw [e, iL_toInt (ab_sl hab hB)]
  exact ⟨rfl, hab⟩
/-- the state of the elimination ahead of a column -/
def GI_ (T : List Wl_) (m i f : Nat) (t : Nat → Int64) : Prop :=
  f ≤ m ∧ (∃ top, top.length = f ∧ Gs_ T i top (wl_ (fun k => tR_ t (f + k)) (m - f))) ∧ ∀ r c, f ≤ r → r < m → c < 4 → ab_ (t (4 * r + c)).toInt (BB_ i)
theorem rest_mem {t : Nat → Int64} {m f : Nat} {x : Wl_} : x ∈ wl_ (fun k => tR_ t (f + k)) (m - f) ↔ ∃ r, f ≤ r ∧ r < m ∧ x = tR_ t r := by
  rw [wl_mem]
  constructor
  · rintro ⟨k, hk, rfl⟩; exact ⟨f + k, by omega, by omega, rfl⟩
  · rintro ⟨r, h1, h2, rfl⟩; exact ⟨r - f, by omega, by rw [show f + (r - f) = r by omega]⟩
theorem GI_step {T : List Wl_} {m i f : Nat} (hm : m ≤ 8) (hi : i < 3) {t s t' : Nat → Int64} (h : GI_ T m i f t) {p : Nat} (hp1 : f ≤ p) (hp2 : p < m) (hne : t (4 * p + i) ≠ 0)
    (g1 : ∀ c, c < 4 → s (4 * p + c) = t (4 * f + c) ∧ s (4 * f + c) = t (4 * p + c)) (g2 : ∀ r c, c < 4 → r ≠ p → r ≠ f → s (4 * r + c) = t (4 * r + c))
    (g3 : ∀ r c, c < 4 → f < r → r < m → t' (4 * r + c) = s (4 * r + c) * s (4 * f + i) - s (4 * f + c) * s (4 * r + i)) : GI_ T m (i + 1) (f + 1) t' := by
  obtain ⟨hf, ⟨top, htop, hG⟩, hB⟩ := h
  have hBB := BB_le ⟨i + 1, by omega⟩
  have sB : ∀ r c, f ≤ r → r < m → c < 4 → ab_ (s (4 * r + c)).toInt (BB_ i) := by
    intro r c h1 h2 hc
    by_cases e1 : r = p
    · subst e1; rw [(g1 c hc).1]; exact hB f c (Nat.le_refl _) (by omega) hc
    · by_cases e2 : r = f
      · subst e2; rw [(g1 c hc).2]; exact hB p c hp1 hp2 hc
      · rw [g2 r c hc e1 e2]; exact hB r c h1 h2 hc
  have sf : tR_ s f = tR_ t p := tR_cg (fun c hc => (g1 c hc).2)
  have el : ∀ r c, f < r → r < m → c < 4 → (t' (4 * r + c)).toInt = (s (4 * r + c)).toInt * (s (4 * f + i)).toInt - (s (4 * f + c)).toInt * (s (4 * r + i)).toInt ∧ ab_ (t' (4 * r + c)).toInt (BB_ (i + 1)) := by
    intro r c h1 h2 hc
    rw [g3 r c hc h1 h2]
    exact el_int (sB r c (by omega) h2 hc) (sB f i (Nat.le_refl _) (by omega) (by omega)) (sB f c (Nat.le_refl _) (by omega) hc) (sB r i (by omega) h2 (by omega)) hBB
  have row : ∀ r, f < r → r < m → tR_ t' r = lc_ (cf_ i (tR_ t p)) (tR_ s r) (- cf_ i (tR_ s r)) (tR_ t p) := by
    intro r h1 h2
    rw [← sf, ← tR_cell hi, ← tR_cell hi]
    have e0 := (el r 0 h1 h2 (by decide)).1
    have e1 := (el r 1 h1 h2 (by decide)).1
    have e2 := (el r 2 h1 h2 (by decide)).1
    have e3 := (el r 3 h1 h2 (by decide)).1
    simp only [Nat.add_zero] at e0
    unfold lc_ tR_
    dsimp only
    rw [e0, e1, e2, e3]
    simp only [Prod.mk.injEq]
    refine ⟨?_, ?_, ?_, ?_⟩ <;> grind
  refine ⟨by omega, ⟨top ++ [(tR_ t p, i)], by simp [htop], ?_⟩, fun r c h1 h2 hc => (el r c (by omega) h2 hc).2⟩
  refine Gs_step hi hG (rest_mem.mpr ⟨p, hp1, hp2, rfl⟩) ?_ ?_ ?_
  · rw [← tR_cell hi]
    intro q
    exact hne (Int64.toInt_inj.mp q)
  · intro r' hr'
    obtain ⟨r, h1, h2, rfl⟩ := rest_mem.mp hr'
    refine ⟨tR_ s r, ?_, row r (by omega) h2⟩
    by_cases e1 : r = p
    · subst e1; exact rest_mem.mpr ⟨f, Nat.le_refl _, by omega, tR_cg (fun c hc => (g1 c hc).1)⟩
    · exact rest_mem.mpr ⟨r, by omega, h2, tR_cg (fun c hc => g2 r c hc e1 (by omega))⟩
  · intro x hx
    obtain ⟨r, h1, h2, rfl⟩ := rest_mem.mp hx
    by_cases e1 : r = p
    · subst e1; exact Or.inl rfl
    · right
      by_cases e2 : r = f
      · subst e2
        have : tR_ t r = tR_ s p := tR_cg (fun c hc => ((g1 c hc).1).symm)
        rw [this]
        exact rest_mem.mpr ⟨p, by omega, hp2, (row p (by omega) hp2).symm⟩
      · have : tR_ t r = tR_ s r := tR_cg (fun c hc => (g2 r c hc e1 e2).symm)
        rw [this]
        exact rest_mem.mpr ⟨r, by omega, h2, (row r (by omega) h2).symm⟩
theorem GI_skip {T : List Wl_} {m i f : Nat} (hi : i < 3) {t : Nat → Int64} (h : GI_ T m i f t) (h0 : ∀ r, f ≤ r → r < m → t (4 * r + i) = 0) : GI_ T m (i + 1) f t := by
  obtain ⟨hf, ⟨top, htop, hG⟩, hB⟩ := h
  refine ⟨hf, ⟨top, htop, Gs_skip hG (fun r hr => ?_)⟩, fun r c h1 h2 hc => ab_mono (hB r c h1 h2 hc) ?_⟩
  · obtain ⟨k, h1, h2, rfl⟩ := rest_mem.mp hr
    rw [← tR_cell hi, h0 k h1 h2]; rfl
  · rcases (show i = 0 ∨ i = 1 ∨ i = 2 by omega) with rfl | rfl | rfl <;> decide +kernel
/-- the walls of a heap have a place in common -/
def hC_ (G : Nat → Wl_) (h : Nat) : Prop := ∃ p, ∀ k, h.testBit k = true → ev_ (G k) p = 0
theorem m_elim {T : List Wl_} {m p2 : Nat} (hm : m ≤ 8) (hp : p2 = 3 ∨ p2 = 4) {t : Nat → Int64} (h : GI_ T m 0 0 t) (a0 : Int32) (b0 : Nat → Int64) :
    ∃ f t' i3 f3 t3, lp_ (fun (st : (Int32 × Int32 × (Nat → Int64))) => fX6_rank_L86 (nI p2) (a0, nI m, b0) st.1 st.2.1 st.2.2) fu_ ((0 : Int32), (0 : Int32), t) = some (i3, nI f, t') ∧ GI_ T m 3 f3 t3 ∧ (p2 = 3 → f = f3) ∧ (p2 = 4 → (∀ r, f3 ≤ r → r < m → t3 (4 * r + 3) = 0) ∧ f = f3 ∨ (∃ r, f3 ≤ r ∧ r < m ∧ t3 (4 * r + 3) ≠ 0) ∧ f = f3 + 1) := by
  have hlp := lp_for (body := fun (st : (Int32 × Int32 × (Nat → Int64))) => fX6_rank_L86 (nI p2) (a0, nI m, b0) st.1 st.2.1 st.2.2)
    (fun i st => st.1 = nI i ∧ ∃ f, st.2.1 = nI f ∧ (i ≤ 3 ∧ GI_ T m i f st.2.2 ∨ i = 4 ∧ ∃ f3 t3, GI_ T m 3 f3 t3 ∧ ((∀ r, f3 ≤ r → r < m → t3 (4 * r + 3) = 0) ∧ f = f3 ∨ (∃ r, f3 ≤ r ∧ r < m ∧ t3 (4 * r + 3) ≠ 0) ∧ f = f3 + 1)))
    (fun st => ∃ f f3 t3, st.2.1 = nI f ∧ GI_ T m 3 f3 t3 ∧ (p2 = 3 → f = f3) ∧ (p2 = 4 → (∀ r, f3 ≤ r → r < m → t3 (4 * r + 3) = 0) ∧ f = f3 ∨ (∃ r, f3 ≤ r ∧ r < m ∧ t3 (4 * r + 3) ≠ 0) ∧ f = f3 + 1)) p2 (by omega) (s := ((0 : Int32), (0 : Int32), t))
    ⟨rfl, 0, rfl, Or.inl ⟨by omega, h⟩⟩ ?_ ?_
  · obtain ⟨⟨i3, f', t'⟩, h1, f, f3, t3, h2, h3⟩ := hlp
    dsimp only at h2
    subst h2
    exact ⟨f, t', i3, f3, t3, h1, h3⟩
  · rintro i ⟨i', f', t'⟩ hi ⟨h1, f, h2, h3⟩
    dsimp only at h1 h2 h3 ⊢
    subst h1 h2
    left
    rcases h3 with ⟨hi3, hG⟩ | ⟨hi4, _⟩
    · rcases m_L86 (m := m) (f := f) (i := i) (p2 := p2) hm hG.1 hi (by omega) a0 b0 t' with ⟨z, e⟩ | ⟨p, s, t2, q1, q2, q3, e, q4, q5, q6, q7⟩
      · rw [e]
        refine ⟨_, rfl, rfl, f, rfl, ?_⟩
        by_cases w : i = 3
        · subst w
          exact Or.inr ⟨rfl, f, t', hG, Or.inl ⟨z, rfl⟩⟩
        · exact Or.inl ⟨by omega, GI_skip (by omega) hG z⟩
      · rw [e]
        refine ⟨_, rfl, rfl, f + 1, rfl, ?_⟩
        by_cases w : i = 3
        · subst w
          exact Or.inr ⟨rfl, f, t', hG, Or.inr ⟨⟨p, q1, q2, q3⟩, rfl⟩⟩
        · exact Or.inl ⟨by omega, GI_step hm (by omega) hG q1 q2 q3 q4 q5 q6⟩
    · omega
  · rintro ⟨i', f', t'⟩ ⟨h1, f, h2, h3⟩
    dsimp only at h1 h2 h3 ⊢
    subst h1 h2
    unfold fX6_rank_L86
    rw [if_pos (nI_le (Nat.le_refl p2) (by omega))]
    rcases hp with rfl | rfl
    · rcases h3 with ⟨_, hG⟩ | ⟨w, _⟩
      · exact ⟨_, rfl, f, f, t', rfl, hG, fun _ => rfl, fun w => by omega⟩
      · omega
    · rcases h3 with ⟨w, _⟩ | ⟨_, f3, t3, hG, hw⟩
      · omega
      · exact ⟨_, rfl, f, f3, t3, rfl, hG, fun w => by omega, fun _ => hw⟩
/-- a wall with or without its last number -/
def ww_ (p2 : Nat) (w : Wl_) : Wl_ := (w.1, w.2.1, w.2.2.1, if p2 = 4 then w.2.2.2 else 0)
theorem rk_ww (p2 : Nat) (X : Wl_ → Prop) : rk_ (fun x => ∃ y, X y ∧ x = ww_ p2 y) = rk_ X := by
  have e3 : R3_ (fun x => ∃ y, X y ∧ x = ww_ p2 y) ↔ R3_ X := by
    constructor
    · rintro ⟨x, y, z, ⟨x', hx, rfl⟩, ⟨y', hy, rfl⟩, ⟨z', hz, rfl⟩, hd⟩; exact ⟨x', y', z', hx, hy, hz, hd⟩
    · rintro ⟨x, y, z, hx, hy, hz, hd⟩; exact ⟨_, _, _, ⟨x, hx, rfl⟩, ⟨y, hy, rfl⟩, ⟨z, hz, rfl⟩, hd⟩
  have e2 : R2_ (fun x => ∃ y, X y ∧ x = ww_ p2 y) ↔ R2_ X := by
    constructor
    · rintro ⟨x, y, ⟨x', hx, rfl⟩, ⟨y', hy, rfl⟩, hd⟩; exact ⟨x', y', hx, hy, hd⟩
    · rintro ⟨x, y, hx, hy, hd⟩; exact ⟨_, _, ⟨x, hx, rfl⟩, ⟨y, hy, rfl⟩, hd⟩
  have e1 : (∃ x, ∃ y, X y ∧ x = ww_ p2 y) ↔ ∃ x, X x := by
    constructor
    · rintro ⟨x, y, hy, _⟩; exact ⟨y, hy⟩
    · rintro ⟨x, hx⟩; exact ⟨_, x, hx, rfl⟩
  by_cases h3 : R3_ X
  · rw [rk_3 h3, rk_3 (e3.mpr h3)]
  · have h3' := fun q => h3 (e3.mp q)
    by_cases h2 : R2_ X
    · rw [rk_2 h2 h3, rk_2 (e2.mpr h2) h3']
    · have h2' := fun q => h2 (e2.mp q)
      by_cases h1 : ∃ x, X x
      · rw [rk_1 h1 h2 h3, rk_1 (e1.mpr h1) h2' h3']
      · rw [rk_0 h1 h2 h3, rk_0 (fun q => h1 (e1.mp q)) h2' h3']
section MR
variable {wl : Nat → Int32} {n : Nat}
theorem m_rank (hn : n ≤ 8) (hb : ∀ k, k < n → bw_ (gM_ wl k)) (hnv : ∀ k, k < n → nv_ (gM_ wl k) ≠ o3_) {h : Nat} (hh : h < 2 ^ n) {p2 : Nat} (hp : p2 = 3 ∨ p2 = 4) (t : Nat → Int64) :
    ∃ f t', fX6_rank (nI n) wl t (nI h) (nI p2) = some (nI f, t') ∧ (p2 = 3 → f = rk_ (hS_ (gM_ wl) h)) ∧ (p2 = 4 → f = rk_ (hS_ (gM_ wl) h) + iN_ (¬ hC_ (gM_ wl) h)) := by
  have hlt : ∀ k, h.testBit k = true → k < n := fun k hk => lt_bit hh hk
  unfold fX6_rank
  obtain ⟨t0, i0, e0, hc⟩ := m_L5 (p2 := p2) hn hh (by omega) wl t
  rw [bind_yes e0]
  have hm8 : fb_ct (fun k => h.testBit k) n ≤ 8 := Nat.le_trans (fb_ct_le _ n) hn
  have row0 : ∀ k, k < n → h.testBit k = true → tR_ t0 (fb_ct (fun k => h.testBit k) k) = ww_ p2 (gM_ wl k) := by
    intro k hk hbk
    have c0 := hc k hk hbk 0 (by decide)
    have c1 := hc k hk hbk 1 (by decide)
    have c2 := hc k hk hbk 2 (by decide)
    have c3 := hc k hk hbk 3 (by decide)
    rw [if_pos (by omega)] at c0 c1 c2
    simp only [Nat.add_zero] at c0
    unfold tR_ ww_ gM_
    rw [c0, c1, c2, c3, Int32.toInt_toInt64, Int32.toInt_toInt64, Int32.toInt_toInt64]
    rcases hp with rfl | rfl
    · rfl
    · rw [if_pos (by omega), if_pos rfl, Int32.toInt_toInt64]
  have hmem : ∀ x, x ∈ wl_ (tR_ t0) (fb_ct (fun k => h.testBit k) n) ↔ ∃ y, hS_ (gM_ wl) h y ∧ x = ww_ p2 y := by
    intro x
    rw [wl_mem]
    constructor
    · rintro ⟨r, hr, rfl⟩
      obtain ⟨k, hk, hbk, e⟩ := fb_ct_kth hr
      exact ⟨gM_ wl k, ⟨k, hbk, rfl⟩, by rw [← e]; exact row0 k hk hbk⟩
    · rintro ⟨y, ⟨k, hbk, rfl⟩, rfl⟩
      have hk := hlt k hbk
      refine ⟨fb_ct (fun k => h.testBit k) k, ?_, (row0 k hk hbk).symm⟩
      have m2 := fb_ct_mono (fun k => h.testBit k) (show k + 1 ≤ n by omega)
      rw [fb_ct_succ] at m2
      simp only [hbk, if_true] at m2
      omega
  generalize hT : wl_ (tR_ t0) (fb_ct (fun k => h.testBit k) n) = T at hmem
  have hGI : GI_ T (fb_ct (fun k => h.testBit k) n) 0 0 t0 := by
    refine ⟨Nat.zero_le _, ⟨[], rfl, ?_⟩, ?_⟩
    · have : wl_ (fun k => tR_ t0 (0 + k)) (fb_ct (fun k => h.testBit k) n - 0) = T := by
        rw [← hT, Nat.sub_zero]
        congr 1
        exact funext (fun k => by rw [Nat.zero_add])
      rw [this]; exact Gs_0 T
    · intro r c _ hr hc4
      obtain ⟨k, hk, hbk, e⟩ := fb_ct_kth hr
      have cc := hc k hk hbk c hc4
      rw [e] at cc
      rw [cc]
      obtain ⟨b1, b2, b3, b4⟩ := hb k hk
      by_cases w : c < p2
      · rw [if_pos w, Int32.toInt_toInt64]
        rcases (show c = 0 ∨ c = 1 ∨ c = 2 ∨ c = 3 by omega) with rfl | rfl | rfl | rfl
        · exact ab_mono b1 (by decide)
        · exact ab_mono b2 (by decide)
        · exact ab_mono b3 (by decide)
        · exact ab_mono b4 (by decide)
      · rw [if_neg w]
        show ab_ 0 99
        unfold ab_; decide
  obtain ⟨f, t', i3, f3, t3, e1, ⟨hf3, ⟨top, htop, hG⟩, hB3⟩, h3, h4⟩ := m_elim hm8 hp hGI i0 t0
  rw [bind_yes e1]
  have hrk : rk_ (hS_ (gM_ wl) h) = f3 := by
    rw [← rk_ww p2, ← rk_cg hmem, Gs_rank hG (fun x hx => ?_), htop]
    obtain ⟨y, ⟨k, hbk, rfl⟩, rfl⟩ := (hmem x).mp hx
    exact hnv k (hlt k hbk)
  refine ⟨f, t', rfl, fun w => by rw [h3 w, hrk], fun w => ?_⟩
  subst w
  have hww : ∀ y, ww_ 4 y = y := fun y => rfl
  have hmeet : hC_ (gM_ wl) h ↔ ∀ r ∈ wl_ (fun k => tR_ t3 (f3 + k)) (fb_ct (fun k => h.testBit k) n - f3), r.2.2.2 = 0 := by
    rw [← Gs_meet hG]
    unfold hC_ oB_
    constructor
    · rintro ⟨p, hp⟩
      refine ⟨p, fun x hx => ?_⟩
      obtain ⟨y, ⟨k, hbk, rfl⟩, rfl⟩ := (hmem x).mp hx
      exact hp k hbk
    · rintro ⟨p, hp⟩
      exact ⟨p, fun k hbk => hp _ ((hmem _).mpr ⟨gM_ wl k, ⟨k, hbk, rfl⟩, (hww _).symm⟩)⟩
  rcases h4 rfl with ⟨z, rfl⟩ | ⟨⟨r, r1, r2, r3⟩, rfl⟩
  · have hcm : hC_ (gM_ wl) h := hmeet.mpr (fun x hx => by
      obtain ⟨r, r1, r2, rfl⟩ := rest_mem.mp hx
      show (t3 (4 * r + 3)).toInt = 0
      rw [z r r1 r2]; rfl)
    rw [iN_0 (fun q => q hcm), hrk]; rfl
  · have hcm : ¬ hC_ (gM_ wl) h := fun q => by
      have := hmeet.mp q _ (rest_mem.mpr ⟨r, r1, r2, rfl⟩)
      exact r3 (Int64.toInt_inj.mp this)
    rw [iN_1 hcm, hrk]
theorem m_rank3 (hn : n ≤ 8) (hb : ∀ k, k < n → bw_ (gM_ wl k)) (hnv : ∀ k, k < n → nv_ (gM_ wl k) ≠ o3_) {h : Nat} (hh : h < 2 ^ n) (t : Nat → Int64) : ∃ t', fX6_rank (nI n) wl t (nI h) 3 = some (nI (rk_ (hS_ (gM_ wl) h)), t') := by
  obtain ⟨f, t', e, h1, _⟩ := m_rank hn hb hnv hh (p2 := 3) (Or.inl rfl) t
  rw [h1 rfl] at e
  exact ⟨t', e⟩
theorem m_rank4 (hn : n ≤ 8) (hb : ∀ k, k < n → bw_ (gM_ wl k)) (hnv : ∀ k, k < n → nv_ (gM_ wl k) ≠ o3_) {h : Nat} (hh : h < 2 ^ n) (t : Nat → Int64) : ∃ t', fX6_rank (nI n) wl t (nI h) 4 = some (nI (rk_ (hS_ (gM_ wl) h) + iN_ (¬ hC_ (gM_ wl) h)), t') := by
  obtain ⟨f, t', e, _, h1⟩ := m_rank hn hb hnv hh (p2 := 4) (Or.inr rfl) t
  rw [h1 rfl] at e
  exact ⟨t', e⟩
theorem m_meets (hn : n ≤ 8) (hb : ∀ k, k < n → bw_ (gM_ wl k)) (hnv : ∀ k, k < n → nv_ (gM_ wl k) ≠ o3_) {h : Nat} (hh : h < 2 ^ n) (t : Nat → Int64) : ∃ t' x, fX6_meets (nI n) wl t (nI h) = some (x, t') ∧ (x = 1 ∧ hC_ (gM_ wl) h ∨ x = 0 ∧ ¬ hC_ (gM_ wl) h) := by
  unfold fX6_meets
  obtain ⟨t1, e1⟩ := m_rank4 hn hb hnv hh t
  obtain ⟨t2, e2⟩ := m_rank3 hn hb hnv hh t1
  have l3 := rk_le3 (hS_ (gM_ wl) h)
  have l1 := iN_le (¬ hC_ (gM_ wl) h)
  rw [bind_yes e1]
  dsimp only
  rw [bind_yes e2]
  dsimp only
  by_cases q : hC_ (gM_ wl) h
  · rw [if_pos (by rw [iN_0 (fun w => w q)]; rfl)]
    exact ⟨t2, 1, rfl, Or.inl ⟨rfl, q⟩⟩
  · rw [if_neg (fun w => by
      have := (nI_eq (by omega) (by omega)).mp w
      rw [iN_1 q] at this
      omega)]
    exact ⟨t2, 0, rfl, Or.inr ⟨rfl, q⟩⟩
end MR
end
section
/-! the reference takes a number out of its sums -/
def fr_ (su : Nat → Int64) (ev : Nat → Int32) (s : Nat) : Rw_ := (tR_ su s, decide (ev s = 1))
def PB_ (m : Nat) (su : Nat → Int64) (ev : Nat → Int32) (B : Nat) : Prop := ∀ r, r < m → (ev r = 0 ∨ ev r = 1) ∧ ∀ c, c < 4 → ab_ (su (4 * r + c)).toInt B
theorem lc_int {u w : Int64} {a b : Int} {B : Nat} (hu : ab_ u.toInt B) (hw : ab_ w.toInt B) (ha : ab_ a B) (hb : ab_ b B) (hB : 2 * (B * B) < 9223372036854775808) : (u * iL_ a + w * iL_ b).toInt = u.toInt * a + w.toInt * b ∧ ab_ (u * iL_ a + w * iL_ b).toInt (2 * (B * B)) := by
  have hab : ab_ (u.toInt * a + w.toInt * b) (2 * (B * B)) := ab_mono (ab_add (ab_mul hu ha) (ab_mul hw hb)) (by omega)
  have e : u * iL_ a + w * iL_ b = iL_ (u.toInt * a + w.toInt * b) := by rw [← iL_add, ← iL_mul, ← iL_mul, iL_of, iL_of]
  rw [e, iL_toInt (ab_sl hab hB)]
  exact ⟨rfl, hab⟩
theorem m_puts {nm s o : Nat} (hnm : nm < 1100) (hs : s < 1100) (ho : o < 1100) {a b : Int} {B : Nat} {su nx : Nat → Int64} {ne : Nat → Int32} {e : Int32} (hsB : ∀ c, c < 4 → ab_ (su (4 * s + c)).toInt B) (hoB : ∀ c, c < 4 → ab_ (su (4 * o + c)).toInt B) (ha : ab_ a B) (hb : ab_ b B) (hB : 2 * (B * B) < 9223372036854775808) (he : e = 0 ∨ e = 1) (hP : PB_ nm nx ne (2 * (B * B))) :
    ∃ ne' nx', fX6_puts (nI nm) ne su nx (nI s) (iL_ a) (nI o) (iL_ b) e = some (nI (nm + 1), ne', nx') ∧ PB_ (nm + 1) nx' ne' (2 * (B * B)) ∧ (∀ r, r < nm → fr_ nx' ne' r = fr_ nx ne r) ∧ fr_ nx' ne' nm = (lc_ a (tR_ su s) b (tR_ su o), decide (e = 1)) := by
  unfold fX6_puts
  have hlp := lp_for (body := fun (st : (Int32 × (Nat → Int64))) => fX6_puts_L3 (nI s) (nI o) (nI nm) su (iL_ a) (iL_ b) st.1 st.2)
    (fun κ st => st.1 = nI κ ∧ (∀ c, c < κ → st.2 (4 * nm + c) = su (4 * s + c) * iL_ a + su (4 * o + c) * iL_ b) ∧ ∀ r c, c < 4 → r ≠ nm → st.2 (4 * r + c) = nx (4 * r + c))
    (fun st => (∀ c, c < 4 → st.2 (4 * nm + c) = su (4 * s + c) * iL_ a + su (4 * o + c) * iL_ b) ∧ ∀ r c, c < 4 → r ≠ nm → st.2 (4 * r + c) = nx (4 * r + c)) 4 (by decide) (s := ((0 : Int32), nx))
    ⟨rfl, fun c hc => absurd hc (Nat.not_lt_zero c), fun _ _ _ _ => rfl⟩ ?_ ?_
  · obtain ⟨⟨j, nx'⟩, h1, h2, h3⟩ := hlp
    dsimp only at h2 h3
    rw [bind_yes h1, ck_yes (in_R_nI hnm (by decide)), nI_clamp (by omega), nI_1]
    have hcell : ∀ c, c < 4 → (nx' (4 * nm + c)).toInt = (su (4 * s + c)).toInt * a + (su (4 * o + c)).toInt * b ∧ ab_ (nx' (4 * nm + c)).toInt (2 * (B * B)) := by
      intro c hc
      rw [h2 c hc]
      exact lc_int (hsB c hc) (hoB c hc) ha hb hB
    have hnar : vp_nar .boolean e = e := by rcases he with rfl | rfl <;> rfl
    refine ⟨_, _, rfl, ?_, ?_, ?_⟩
    · intro r hr
      rcases (show r < nm ∨ r = nm by omega) with q | rfl
      · rw [pk_un (by omega)]
        exact ⟨(hP r q).1, fun c hc => by dsimp only; rw [h3 r c hc (by omega)]; exact (hP r q).2 c hc⟩
      · rw [pk_us, hnar]
        exact ⟨he, fun c hc => (hcell c hc).2⟩
    · intro r hr
      unfold fr_
      rw [pk_un (by omega), tR_cg (s := nx) (q := r) (fun c hc => h3 r c hc (by omega))]
    · unfold fr_
      rw [pk_us, hnar]
      have e0 := (hcell 0 (by decide)).1
      have e1 := (hcell 1 (by decide)).1
      have e2 := (hcell 2 (by decide)).1
      have e3 := (hcell 3 (by decide)).1
      simp only [Nat.add_zero] at e0
      congr 1
      unfold lc_ tR_
      dsimp only
      rw [e0, e1, e2, e3]
  · rintro κ ⟨j, t⟩ hκ ⟨h1, h2, h3⟩
    dsimp only at h1 h2 h3 ⊢
    subst h1
    left
    unfold fX6_puts_L3
    simp only [ix4]
    rw [if_neg (show ¬ (4 : Int32) ≤ nI κ from nI_ge (a := κ) (b := 4) hκ (by decide)), ck_yes (in_R_nI (show 4 * s + κ < 4400 by omega) (by decide)), ck_yes (in_R_nI (show 4 * o + κ < 4400 by omega) (by decide)), ck_yes (in_R_nI (show 4 * nm + κ < 4400 by omega) (by decide)), nI_clamp (by omega), nI_clamp (by omega), nI_clamp (by omega), nI_1]
    refine ⟨_, rfl, rfl, ?_, ?_⟩
    · intro c hc
      dsimp only
      rcases (show c < κ ∨ c = κ by omega) with q | rfl
      · rw [pk_uLn (by omega)]; exact h2 c q
      · rw [pk_uLs]
    · intro r c hc hr
      dsimp only
      rw [pk_uLn (by omega)]; exact h3 r c hc hr
  · rintro ⟨j, t⟩ ⟨h1, h2, h3⟩
    dsimp only at h1 h2 h3 ⊢
    subst h1
    unfold fX6_puts_L3
    rw [if_pos (show (4 : Int32) ≤ nI 4 by decide)]
    exact ⟨_, rfl, h2, h3⟩
/-- the pivot: the first even row with this number not 0 -/
theorem m_pivot {m i : Nat} (hm : m ≤ 1024) (hi : i < 4) {ev : Nat → Int32} {su : Nat → Int64} (hev : ∀ s, s < m → ev s = 0 ∨ ev s = 1) :
    ∃ j u, lp_ (fun (st : (Int32 × Int32)) => fX6_takesOut_L4 (nI m) ev (nI i) su st.1 st.2) fu_ ((0 : Int32), (-1 : Int32)) = some (j, u) ∧
      (u = -1 ∧ (∀ s, s < m → ev s = 1 → su (4 * s + i) = 0) ∨ ∃ p, p < m ∧ u = nI p ∧ ev p = 1 ∧ su (4 * p + i) ≠ 0) := by
  have hlp := lp_for (body := fun (st : (Int32 × Int32)) => fX6_takesOut_L4 (nI m) ev (nI i) su st.1 st.2)
    (fun k st => st.1 = nI k ∧ (st.2 = -1 ∧ (∀ s, s < k → ev s = 1 → su (4 * s + i) = 0) ∨ ∃ p, p < k ∧ st.2 = nI p ∧ ev p = 1 ∧ su (4 * p + i) ≠ 0))
    (fun st => (st.2 = -1 ∧ (∀ s, s < m → ev s = 1 → su (4 * s + i) = 0) ∨ ∃ p, p < m ∧ st.2 = nI p ∧ ev p = 1 ∧ su (4 * p + i) ≠ 0)) m (by omega) (s := ((0 : Int32), (-1 : Int32)))
    ⟨rfl, Or.inl ⟨rfl, fun s hs => absurd hs (Nat.not_lt_zero s)⟩⟩ ?_ ?_
  · obtain ⟨⟨j, u⟩, h1, h2⟩ := hlp
    exact ⟨j, u, h1, h2⟩
  · rintro k ⟨j, u⟩ hk ⟨h1, h2⟩
    dsimp only at h1 h2 ⊢
    subst h1
    unfold fX6_takesOut_L4
    simp only [ix4]
    rw [if_neg (nI_ge hk (by omega))]
    rcases h2 with ⟨rfl, h2⟩ | ⟨p, hp, rfl, h3, h4⟩
    · left
      rw [if_pos rfl, ck_yes (in_R_nI (show k < 1100 by omega) (by decide)), ck_yes (in_R_nI (show 4 * k + i < 4400 by omega) (by decide)), nI_clamp (by omega), nI_clamp (by omega), nI_1]
      rcases hev k hk with w | w
      · rw [if_pos w]
        refine ⟨_, rfl, rfl, Or.inl ⟨rfl, fun s hs hes => ?_⟩⟩
        rcases (show s < k ∨ s = k by omega) with q | rfl
        · exact h2 s q hes
        · rw [w] at hes; cases hes
      · rw [if_neg (by rw [w]; decide)]
        by_cases z : su (4 * k + i) = 0
        · rw [if_pos ((lg_cmp_eq _ _).mpr z)]
          refine ⟨_, rfl, rfl, Or.inl ⟨rfl, fun s hs hes => ?_⟩⟩
          rcases (show s < k ∨ s = k by omega) with q | rfl
          · exact h2 s q hes
          · exact z
        · rw [if_neg (fun q => z ((lg_cmp_eq _ _).mp q))]
          exact ⟨_, rfl, rfl, Or.inr ⟨k, by omega, rfl, w, z⟩⟩
    · right
      have hne : ¬ nI p = (-1 : Int32) := fun q => by
        have := congrArg Int32.toInt q
        rw [nI_toInt (by omega)] at this
        have h5 : (-1 : Int32).toInt = -1 := by decide
        omega
      rw [if_neg hne]
      exact ⟨_, rfl, Or.inr ⟨p, by omega, rfl, h3, h4⟩⟩
  · rintro ⟨j, u⟩ ⟨h1, h2⟩
    dsimp only at h1 h2 ⊢
    subst h1
    unfold fX6_takesOut_L4
    rw [if_pos (nI_le (Nat.le_refl m) (by omega))]
    exact ⟨_, rfl, h2⟩
theorem nI_nm1 {p : Nat} (h : p < 2 ^ 31) : ¬ nI p = (-1 : Int32) := fun q => by
  have := congrArg Int32.toInt q
  rw [nI_toInt h] at this
  have h5 : (-1 : Int32).toInt = -1 := by decide
  omega
theorem tz_ {x : Int64} (h : x ≠ 0) : x.toInt ≠ 0 := fun q => h (Int64.toInt_inj.mp q)
section TK
variable {m i B : Nat} {ev : Nat → Int32} {su : Nat → Int64}
/-- with a pivot -/
theorem m_takeP (hm : m ≤ 1024) (hi : i < 3) (hP : PB_ m su ev B) (hB1 : 1 ≤ B) (hB : 2 * (B * B) < 9223372036854775808) {p : Nat} (hp : p < m) (hne : su (4 * p + i) ≠ 0) (ne : Nat → Int32) (nx : Nat → Int64) (j : Int32) :
    ∃ j' nm ne' nx', lp_ (fun (st : (Int32 × Int32 × (Nat → Int32) × (Nat → Int64))) => fX6_takesOut_L56 (nI m) (nI i) (j, nI p) su ev st.1 st.2.1 st.2.2.1 st.2.2.2) fu_ ((0 : Int32), (0 : Int32), ne, nx) = some (j', nI nm, ne', nx') ∧ nm ≤ m ∧ PB_ nm nx' ne' (2 * (B * B)) ∧
      (∀ r, r < nm → ∃ s, s < m ∧ ∃ a b : Int, 0 < a ∧ fr_ nx' ne' r = (lc_ a (tR_ su s) b (tR_ su p), decide (ev s = 1)) ∧ cf_ i (lc_ a (tR_ su s) b (tR_ su p)) = 0) ∧
      (∀ s, s < m → s = p ∨ ∃ r, r < nm ∧ ∃ a b : Int, 0 < a ∧ fr_ nx' ne' r = (lc_ a (tR_ su s) b (tR_ su p), decide (ev s = 1)) ∧ cf_ i (lc_ a (tR_ su s) b (tR_ su p)) = 0) := by
  have hlp := lp_for (body := fun (st : (Int32 × Int32 × (Nat → Int32) × (Nat → Int64))) => fX6_takesOut_L56 (nI m) (nI i) (j, nI p) su ev st.1 st.2.1 st.2.2.1 st.2.2.2)
    (fun κ st => st.1 = nI κ ∧ ∃ nm, st.2.1 = nI nm ∧ nm ≤ κ ∧ PB_ nm st.2.2.2 st.2.2.1 (2 * (B * B)) ∧
      (∀ r, r < nm → ∃ s, s < m ∧ ∃ a b : Int, 0 < a ∧ fr_ st.2.2.2 st.2.2.1 r = (lc_ a (tR_ su s) b (tR_ su p), decide (ev s = 1)) ∧ cf_ i (lc_ a (tR_ su s) b (tR_ su p)) = 0) ∧
      (∀ s, s < κ → s = p ∨ ∃ r, r < nm ∧ ∃ a b : Int, 0 < a ∧ fr_ st.2.2.2 st.2.2.1 r = (lc_ a (tR_ su s) b (tR_ su p), decide (ev s = 1)) ∧ cf_ i (lc_ a (tR_ su s) b (tR_ su p)) = 0))
    (fun st => ∃ nm, st.2.1 = nI nm ∧ nm ≤ m ∧ PB_ nm st.2.2.2 st.2.2.1 (2 * (B * B)) ∧
      (∀ r, r < nm → ∃ s, s < m ∧ ∃ a b : Int, 0 < a ∧ fr_ st.2.2.2 st.2.2.1 r = (lc_ a (tR_ su s) b (tR_ su p), decide (ev s = 1)) ∧ cf_ i (lc_ a (tR_ su s) b (tR_ su p)) = 0) ∧
      (∀ s, s < m → s = p ∨ ∃ r, r < nm ∧ ∃ a b : Int, 0 < a ∧ fr_ st.2.2.2 st.2.2.1 r = (lc_ a (tR_ su s) b (tR_ su p), decide (ev s = 1)) ∧ cf_ i (lc_ a (tR_ su s) b (tR_ su p)) = 0)) m (by omega) (s := ((0 : Int32), (0 : Int32), ne, nx))
    ⟨rfl, 0, rfl, Nat.le_refl _, fun r hr => absurd hr (Nat.not_lt_zero r), fun r hr => absurd hr (Nat.not_lt_zero r), fun s hs => absurd hs (Nat.not_lt_zero s)⟩ ?_ ?_
  · obtain ⟨⟨j', x, ne', nx'⟩, h1, nm, h2, h3⟩ := hlp
    dsimp only at h2
    subst h2
    exact ⟨j', nm, ne', nx', h1, h3⟩
  · rintro κ ⟨j', x, ne', nx'⟩ hκ ⟨h1, nm, h2, h3, h4, h5, h6⟩
    dsimp only at h1 h2 h3 h4 h5 h6 ⊢
    subst h1 h2
    left
    unfold fX6_takesOut_L56
    dsimp only
    simp only [ix4]
    rw [if_neg (nI_ge hκ (by omega)), ck_yes (in_R_nI (show 4 * κ + i < 4400 by omega) (by decide)), nI_clamp (by omega), nI_1]
    -- one row more
    have more : ∀ (a b : Int), 0 < a → ab_ a B → ab_ b B → cf_ i (lc_ a (tR_ su κ) b (tR_ su p)) = 0 → ∀ o, o < m → (lc_ a (tR_ su κ) b (tR_ su o) = lc_ a (tR_ su κ) b (tR_ su p)) → ∃ ne2 nx2, fX6_puts (nI nm) ne' su nx' (nI κ) (iL_ a) (nI o) (iL_ b) (ev κ) = some (nI (nm + 1), ne2, nx2) ∧
        (nI (κ + 1) = nI (κ + 1) ∧ ∃ nm', nI (nm + 1) = nI nm' ∧ nm' ≤ κ + 1 ∧ PB_ nm' nx2 ne2 (2 * (B * B)) ∧
      (∀ r, r < nm' → ∃ s, s < m ∧ ∃ a b : Int, 0 < a ∧ fr_ nx2 ne2 r = (lc_ a (tR_ su s) b (tR_ su p), decide (ev s = 1)) ∧ cf_ i (lc_ a (tR_ su s) b (tR_ su p)) = 0) ∧
      (∀ s, s < κ + 1 → s = p ∨ ∃ r, r < nm' ∧ ∃ a b : Int, 0 < a ∧ fr_ nx2 ne2 r = (lc_ a (tR_ su s) b (tR_ su p), decide (ev s = 1)) ∧ cf_ i (lc_ a (tR_ su s) b (tR_ su p)) = 0)) := by
      intro a b ha0 ha hb hcf o ho heq
      obtain ⟨ne2, nx2, e, g1, g2, g3⟩ := m_puts (nm := nm) (s := κ) (o := o) (by omega) (by omega) (by omega) (hP κ hκ).2 (hP o ho).2 ha hb hB (hP κ hκ).1 h4
      rw [heq] at g3
      refine ⟨ne2, nx2, e, rfl, nm + 1, rfl, by omega, g1, ?_, ?_⟩
      · intro r hr
        rcases (show r < nm ∨ r = nm by omega) with q | rfl
        · rw [g2 r q]; exact h5 r q
        · exact ⟨κ, hκ, a, b, ha0, g3, hcf⟩
      · intro s hs
        rcases (show s < κ ∨ s = κ by omega) with q | rfl
        · rcases h6 s q with w | ⟨r, hr, w⟩
          · exact Or.inl w
          · exact Or.inr ⟨r, by omega, by rw [g2 r hr]; exact w⟩
        · exact Or.inr ⟨nm, by omega, a, b, ha0, g3, hcf⟩
    by_cases hκp : κ = p
    · rw [if_pos (by rw [hκp])]
      refine ⟨_, rfl, rfl, nm, rfl, by omega, h4, h5, fun s hs => ?_⟩
      rcases (show s < κ ∨ s = κ by omega) with q | rfl
      · exact h6 s q
      · exact Or.inl hκp
    · rw [if_neg (fun q => hκp ((nI_eq (by omega) (by omega)).mp q))]
      by_cases z : su (4 * κ + i) = 0
      · rw [if_pos ((lg_cmp_eq _ _).mpr z), ck_yes (in_R_nI (show κ < 1100 by omega) (by decide)), nI_clamp (by omega)]
        have e0 : lc_ 1 (tR_ su κ) 0 (tR_ su κ) = lc_ 1 (tR_ su κ) 0 (tR_ su p) := by unfold lc_; simp
        obtain ⟨ne2, nx2, e, g⟩ := more 1 0 (by decide) (by unfold ab_; simpa using hB1) (by unfold ab_; simp) (by rw [cf_lc, ← tR_cell hi, z]; simp) κ hκ e0
        rw [show (1 : Int64) = iL_ 1 from rfl, show (0 : Int64) = iL_ 0 from rfl, bind_yes e]
        exact ⟨_, rfl, g⟩
      · rw [if_neg (fun q => z ((lg_cmp_eq _ _).mp q)), if_neg (nI_nm1 (by omega)), ck_yes (in_R_nI (show 4 * p + i < 4400 by omega) (by decide)), nI_clamp (by omega)]
        have bp := (hP p hp).2 i (by omega)
        have bk := (hP κ hκ).2 i (by omega)
        have hsz : fX6_size (su (4 * p + i)) = some (iL_ ((su (4 * p + i)).toInt.natAbs : Int)) := by
          unfold fX6_size
          by_cases w : (0 : Int64) ≤ su (4 * p + i)
          · rw [if_pos ((lg_cmp_ge _ _).mpr w)]
            have h0 := Int64.le_iff_toInt_le.mp w
            have h00 : (0 : Int64).toInt = 0 := rfl
            rw [show (((su (4 * p + i)).toInt.natAbs : Nat) : Int) = (su (4 * p + i)).toInt by omega, iL_of]
          · rw [if_neg (fun q => w ((lg_cmp_ge _ _).mp q))]
            have h0 : ¬ (0 : Int64).toInt ≤ (su (4 * p + i)).toInt := fun q => w (Int64.le_iff_toInt_le.mpr q)
            have h00 : (0 : Int64).toInt = 0 := rfl
            rw [show (((su (4 * p + i)).toInt.natAbs : Nat) : Int) = - (su (4 * p + i)).toInt by omega, ← iL_neg, iL_of]
        rw [bind_yes hsz]
        have hpz := tz_ hne
        have habs : ab_ ((su (4 * p + i)).toInt.natAbs : Int) B := by unfold ab_ at *; omega
        by_cases w : su (4 * p + i) ≤ (0 : Int64)
        · rw [if_pos ((lg_cmp_le _ _).mpr w), Option.bind_some, ck_yes (in_R_nI (show κ < 1100 by omega) (by decide)), nI_clamp (show κ < 2 ^ 31 by omega)]
          have h0 := Int64.le_iff_toInt_le.mp w
          have h00 : (0 : Int64).toInt = 0 := rfl
          have hcf : cf_ i (lc_ ((su (4 * p + i)).toInt.natAbs : Int) (tR_ su κ) (su (4 * κ + i)).toInt (tR_ su p)) = 0 := by
            rw [cf_lc, ← tR_cell hi, ← tR_cell hi, show (((su (4 * p + i)).toInt.natAbs : Nat) : Int) = - (su (4 * p + i)).toInt by omega]; grind
          obtain ⟨ne2, nx2, e, g⟩ := more _ (su (4 * κ + i)).toInt (by omega) habs bk hcf p hp rfl
          rw [iL_of] at e
          rw [bind_yes e]
          exact ⟨_, rfl, g⟩
        · rw [if_neg (fun q => w ((lg_cmp_le _ _).mp q)), Option.bind_some, ck_yes (in_R_nI (show κ < 1100 by omega) (by decide)), nI_clamp (show κ < 2 ^ 31 by omega)]
          have h0 : ¬ (su (4 * p + i)).toInt ≤ (0 : Int64).toInt := fun q => w (Int64.le_iff_toInt_le.mpr q)
          have h00 : (0 : Int64).toInt = 0 := rfl
          have hcf : cf_ i (lc_ ((su (4 * p + i)).toInt.natAbs : Int) (tR_ su κ) (- (su (4 * κ + i)).toInt) (tR_ su p)) = 0 := by
            rw [cf_lc, ← tR_cell hi, ← tR_cell hi, show (((su (4 * p + i)).toInt.natAbs : Nat) : Int) = (su (4 * p + i)).toInt by omega]; grind
          obtain ⟨ne2, nx2, e, g⟩ := more _ (- (su (4 * κ + i)).toInt) (by omega) habs (ab_neg bk) hcf p hp rfl
          rw [← iL_neg, iL_of] at e
          rw [bind_yes e]
          exact ⟨_, rfl, g⟩
  · rintro ⟨j', x, ne', nx'⟩ ⟨h1, nm, h2, h3⟩
    dsimp only at h1 h2 h3 ⊢
    subst h1 h2
    unfold fX6_takesOut_L56
    rw [if_pos (nI_le (Nat.le_refl m) (by omega))]
    exact ⟨_, rfl, nm, rfl, h3⟩
end TK
end
section
/-! the reference takes a number out without a pivot; the whole step -/
theorem lc_id (w : Wl_) : lc_ 1 w 0 w = w := by unfold lc_; simp
theorem ct_3 (c : Nat → Int64) : ∀ m, fb_ct (fun s => decide (c s = 0)) m + fb_ct (fun s => decide (0 < c s)) m + fb_ct (fun s => decide (c s < 0)) m = m := by
  intro m
  induction m with
  | zero => rfl
  | succ m ih =>
    rw [fb_ct_succ, fb_ct_succ, fb_ct_succ]
    have e1 : (c m = 0) ↔ (c m).toInt = 0 := ⟨fun h => by rw [h]; rfl, fun h => Int64.toInt_inj.mp h⟩
    have e2 : (0 < c m) ↔ 0 < (c m).toInt := Int64.lt_iff_toInt_lt
    have e3 : (c m < 0) ↔ (c m).toInt < 0 := Int64.lt_iff_toInt_lt
    simp only [decide_eq_true_eq, e1, e2, e3]
    generalize (c m).toInt = x at *
    rcases (show x < 0 ∨ x = 0 ∨ 0 < x by omega) with q | q | q
    · rw [if_neg (by omega), if_neg (by omega), if_pos q]; omega
    · rw [if_pos q, if_neg (by omega), if_neg (by omega)]; omega
    · rw [if_neg (by omega), if_pos q, if_neg (by omega)]; omega
theorem cnt_4 {z p q M : Nat} (h : z + p + q ≤ M) (hM : 4 ≤ M) : 4 * (z + p * q) ≤ M * M := by
  have h1 : 4 * (p * q) ≤ (p + q) * (p + q) := by
    rcases Nat.le_total p q with w | w
    · obtain ⟨d, rfl⟩ : ∃ d, q = p + d := ⟨q - p, by omega⟩
      have : (p + (p + d)) * (p + (p + d)) = 4 * (p * (p + d)) + d * d := by grind
      omega
    · obtain ⟨d, rfl⟩ : ∃ d, p = q + d := ⟨p - q, by omega⟩
      have : (q + d + q) * (q + d + q) = 4 * ((q + d) * q) + d * d := by grind
      omega
  obtain ⟨t, rfl⟩ : ∃ t, M = p + q + t := ⟨M - (p + q), by omega⟩
  have h2 : (p + q + t) * (p + q + t) = (p + q) * (p + q) + t * (2 * (p + q) + t) := by grind
  have h3 : t * 4 ≤ t * (2 * (p + q) + t) := Nat.mul_le_mul_left t (by omega)
  rw [Nat.mul_add]
  omega
section TN
variable {m i B : Nat} {ev : Nat → Int32} {su : Nat → Int64}
/-- what comes out without a pivot -/
def Go_ (su : Nat → Int64) (ev : Nat → Int32) (m i κ : Nat) (x : Rw_) : Prop :=
  (∃ s, s < κ ∧ su (4 * s + i) = 0 ∧ x = fr_ su ev s) ∨ ∃ s, s < κ ∧ ∃ o, o < m ∧ 0 < su (4 * s + i) ∧ su (4 * o + i) < 0 ∧ x = (lc_ (- (su (4 * o + i)).toInt) (tR_ su s) (su (4 * s + i)).toInt (tR_ su o), false)
theorem m_L163 (hm : m ≤ 1024) (hi : i < 4) (hP : PB_ m su ev B) (hB : 2 * (B * B) < 9223372036854775808) {s nm0 : Nat} (hs : s < m) (hpos : 0 < su (4 * s + i)) (hroom : nm0 + fb_ct (fun s => decide (su (4 * s + i) < 0)) m ≤ 1024)
    {ne : Nat → Int32} {nx : Nat → Int64} (hN : PB_ nm0 nx ne (2 * (B * B))) :
    ∃ j ne' nx', lp_ (fun (st : (Int32 × Int32 × (Nat → Int32) × (Nat → Int64))) => fX6_takesOut_L163 (nI m) su (nI s) (nI i) st.1 st.2.1 st.2.2.1 st.2.2.2) fu_ ((0 : Int32), nI nm0, ne, nx) = some (j, nI (nm0 + fb_ct (fun s => decide (su (4 * s + i) < 0)) m), ne', nx') ∧ PB_ (nm0 + fb_ct (fun s => decide (su (4 * s + i) < 0)) m) nx' ne' (2 * (B * B)) ∧
      ∀ x, (∃ r, r < nm0 + fb_ct (fun s => decide (su (4 * s + i) < 0)) m ∧ fr_ nx' ne' r = x) ↔ (∃ r, r < nm0 ∧ fr_ nx ne r = x) ∨ ∃ o, o < m ∧ su (4 * o + i) < 0 ∧ x = (lc_ (- (su (4 * o + i)).toInt) (tR_ su s) (su (4 * s + i)).toInt (tR_ su o), false) := by
  generalize hqf : (fun s => decide (su (4 * s + i) < 0)) = qf at *
  have hqfk : ∀ k, qf k = decide (su (4 * k + i) < 0) := fun k => by rw [← hqf]
  have hlp := lp_for (body := fun (st : (Int32 × Int32 × (Nat → Int32) × (Nat → Int64))) => fX6_takesOut_L163 (nI m) su (nI s) (nI i) st.1 st.2.1 st.2.2.1 st.2.2.2)
    (fun κ st => st.1 = nI κ ∧ st.2.1 = nI (nm0 + fb_ct qf κ) ∧ PB_ (nm0 + fb_ct qf κ) st.2.2.2 st.2.2.1 (2 * (B * B)) ∧
      ∀ x, (∃ r, r < nm0 + fb_ct qf κ ∧ fr_ st.2.2.2 st.2.2.1 r = x) ↔ (∃ r, r < nm0 ∧ fr_ nx ne r = x) ∨ ∃ o, o < κ ∧ su (4 * o + i) < 0 ∧ x = (lc_ (- (su (4 * o + i)).toInt) (tR_ su s) (su (4 * s + i)).toInt (tR_ su o), false))
    (fun st => st.2.1 = nI (nm0 + fb_ct qf m) ∧ PB_ (nm0 + fb_ct qf m) st.2.2.2 st.2.2.1 (2 * (B * B)) ∧
      ∀ x, (∃ r, r < nm0 + fb_ct qf m ∧ fr_ st.2.2.2 st.2.2.1 r = x) ↔ (∃ r, r < nm0 ∧ fr_ nx ne r = x) ∨ ∃ o, o < m ∧ su (4 * o + i) < 0 ∧ x = (lc_ (- (su (4 * o + i)).toInt) (tR_ su s) (su (4 * s + i)).toInt (tR_ su o), false)) m (by omega) (s := ((0 : Int32), nI nm0, ne, nx))
    ⟨rfl, rfl, hN, fun x => ⟨fun h => Or.inl h, fun h => by
      rcases h with h | ⟨o, ho, _⟩
      · exact h
      · exact absurd ho (Nat.not_lt_zero o)⟩⟩ ?_ ?_
  · obtain ⟨⟨j', x, ne', nx'⟩, h1, h2, h3⟩ := hlp
    dsimp only at h2
    subst h2
    exact ⟨j', ne', nx', h1, h3⟩
  · rintro κ ⟨j', x, ne', nx'⟩ hκ ⟨h1, h2, h3, h4⟩
    dsimp only at h1 h2 h3 h4 ⊢
    subst h1 h2
    left
    have hct := fb_ct_mono qf (show κ + 1 ≤ m by omega)
    rw [fb_ct_succ] at hct
    unfold fX6_takesOut_L163
    simp only [ix4]
    rw [if_neg (nI_ge hκ (by omega)), nI_clamp (show 4 * s + i < 2 ^ 31 by omega), if_neg (fun q => by
      have := (lg_cmp_le _ _).mp q
      have a := Int64.le_iff_toInt_le.mp this
      have b := Int64.lt_iff_toInt_lt.mp hpos
      omega), ck_yes (in_R_nI (show 4 * κ + i < 4400 by omega) (by decide))]
    simp only [nI_clamp (show 4 * κ + i < 2 ^ 31 by omega), nI_1]
    by_cases w : (0 : Int64) ≤ su (4 * κ + i)
    · have hq : qf κ = false := by
        rw [hqfk]
        refine decide_eq_false (fun q => ?_)
        have a := Int64.le_iff_toInt_le.mp w
        have b := Int64.lt_iff_toInt_lt.mp q
        omega
      have hc : fb_ct qf (κ + 1) = fb_ct qf κ := by rw [fb_ct_succ, hq]; simp
      rw [if_pos ((lg_cmp_ge _ _).mpr w)]
      refine ⟨_, rfl, rfl, by rw [hc], by rw [hc]; exact h3, fun x => ?_⟩
      dsimp only
      rw [hc, h4]
      constructor
      · rintro (h | ⟨o, h5, h6⟩)
        · exact Or.inl h
        · exact Or.inr ⟨o, by omega, h6⟩
      · rintro (h | ⟨o, h5, h6, h7⟩)
        · exact Or.inl h
        · rcases (show o < κ ∨ o = κ by omega) with q | rfl
          · exact Or.inr ⟨o, q, h6, h7⟩
          · have := hqfk o
            rw [hq, decide_eq_true h6] at this
            cases this
    · have hlt : su (4 * κ + i) < 0 := by
        apply Int64.lt_iff_toInt_lt.mpr
        have : ¬ (0 : Int64).toInt ≤ (su (4 * κ + i)).toInt := fun q => w (Int64.le_iff_toInt_le.mpr q)
        omega
      have hq : qf κ = true := by rw [hqfk]; exact decide_eq_true hlt
      have hc : fb_ct qf (κ + 1) = fb_ct qf κ + 1 := by rw [fb_ct_succ, hq]; rfl
      rw [hq] at hct
      simp only [if_true] at hct
      rw [if_neg (fun q => w ((lg_cmp_ge _ _).mp q)), ck_yes (in_R_nI (show 4 * κ + i < 4400 by omega) (by decide))]
      obtain ⟨ne2, nx2, e, g1, g2, g3⟩ := m_puts (nm := nm0 + fb_ct qf κ) (s := s) (o := κ) (a := - (su (4 * κ + i)).toInt) (b := (su (4 * s + i)).toInt) (e := 0) (by omega) (by omega) (by omega) (hP s hs).2 (hP κ hκ).2 (ab_neg ((hP κ hκ).2 i hi)) ((hP s hs).2 i hi) hB (Or.inl rfl) h3
      rw [← iL_neg, iL_of, iL_of] at e
      rw [bind_yes e]
      refine ⟨_, rfl, rfl, by rw [hc]; rfl, by rw [hc]; exact g1, fun x => ?_⟩
      dsimp only
      rw [hc]
      have g3' : fr_ nx2 ne2 (nm0 + fb_ct qf κ) = (lc_ (- (su (4 * κ + i)).toInt) (tR_ su s) (su (4 * s + i)).toInt (tR_ su κ), false) := g3
      constructor
      · rintro ⟨r, hr, rfl⟩
        rcases (show r < nm0 + fb_ct qf κ ∨ r = nm0 + fb_ct qf κ by omega) with q | rfl
        · rcases (h4 _).mp ⟨r, q, rfl⟩ with h5 | ⟨o, h5, h6⟩
          · rw [g2 r q]; exact Or.inl h5
          · rw [g2 r q]; exact Or.inr ⟨o, by omega, h6⟩
        · exact Or.inr ⟨κ, by omega, hlt, g3'⟩
      · rintro (h | ⟨o, h5, h6, h7⟩)
        · obtain ⟨r, hr, e⟩ := (h4 x).mpr (Or.inl h)
          exact ⟨r, by omega, by rw [g2 r hr]; exact e⟩
        · rcases (show o < κ ∨ o = κ by omega) with q | rfl
          · obtain ⟨r, hr, e⟩ := (h4 x).mpr (Or.inr ⟨o, q, h6, h7⟩)
            exact ⟨r, by omega, by rw [g2 r hr]; exact e⟩
          · exact ⟨_, by omega, g3'.trans h7.symm⟩
  · rintro ⟨j', x, ne', nx'⟩ ⟨h1, h2, h3⟩
    dsimp only at h1 h2 h3 ⊢
    subst h1 h2
    unfold fX6_takesOut_L163
    rw [if_pos (nI_le (Nat.le_refl m) (by omega))]
    exact ⟨_, rfl, rfl, h3⟩
theorem m_L163n (hm : m ≤ 1024) (hm0 : 0 < m) {s nm0 : Nat} (hs : s < m) (hi : i < 4) (hneg : su (4 * s + i) < 0) (ne : Nat → Int32) (nx : Nat → Int64) :
    lp_ (fun (st : (Int32 × Int32 × (Nat → Int32) × (Nat → Int64))) => fX6_takesOut_L163 (nI m) su (nI s) (nI i) st.1 st.2.1 st.2.2.1 st.2.2.2) fu_ ((0 : Int32), nI nm0, ne, nx) = some (0, nI nm0, ne, nx) := by
  have hlp := lp_for (body := fun (st : (Int32 × Int32 × (Nat → Int32) × (Nat → Int64))) => fX6_takesOut_L163 (nI m) su (nI s) (nI i) st.1 st.2.1 st.2.2.1 st.2.2.2)
    (fun κ st => st = ((0 : Int32), nI nm0, ne, nx)) (fun st => st = ((0 : Int32), nI nm0, ne, nx)) 0 (by decide) (s := ((0 : Int32), nI nm0, ne, nx)) rfl (fun k st hk => absurd hk (Nat.not_lt_zero k)) (by
      rintro st rfl
      dsimp only
      unfold fX6_takesOut_L163
      simp only [ix4]
      rw [if_neg (show ¬ nI m ≤ 0 from nI_ge (a := 0) hm0 (by omega)), nI_clamp (show 4 * s + i < 2 ^ 31 by omega), if_pos ((lg_cmp_le _ _).mpr (Int64.le_iff_toInt_le.mpr (by have := Int64.lt_iff_toInt_lt.mp hneg; omega)))]
      exact ⟨_, rfl, rfl⟩)
  obtain ⟨r, h1, h2⟩ := hlp
  rw [h1, h2]
theorem m_takeN (hm : m ≤ 1024) (hi : i < 3) (hP : PB_ m su ev B) (hB1 : 1 ≤ B) (hB : 2 * (B * B) < 9223372036854775808) (hroom : fb_ct (fun s => decide (su (4 * s + i) = 0)) m + fb_ct (fun s => decide (0 < su (4 * s + i))) m * fb_ct (fun s => decide (su (4 * s + i) < 0)) m ≤ 1024) (ne : Nat → Int32) (nx : Nat → Int64) (j : Int32) :
    ∃ j' ne' nx', lp_ (fun (st : (Int32 × Int32 × (Nat → Int32) × (Nat → Int64))) => fX6_takesOut_L56 (nI m) (nI i) (j, -1) su ev st.1 st.2.1 st.2.2.1 st.2.2.2) fu_ ((0 : Int32), (0 : Int32), ne, nx) = some (j', nI (fb_ct (fun s => decide (su (4 * s + i) = 0)) m + fb_ct (fun s => decide (0 < su (4 * s + i))) m * fb_ct (fun s => decide (su (4 * s + i) < 0)) m), ne', nx') ∧
      PB_ (fb_ct (fun s => decide (su (4 * s + i) = 0)) m + fb_ct (fun s => decide (0 < su (4 * s + i))) m * fb_ct (fun s => decide (su (4 * s + i) < 0)) m) nx' ne' (2 * (B * B)) ∧
      ∀ x, (∃ r, r < fb_ct (fun s => decide (su (4 * s + i) = 0)) m + fb_ct (fun s => decide (0 < su (4 * s + i))) m * fb_ct (fun s => decide (su (4 * s + i) < 0)) m ∧ fr_ nx' ne' r = x) ↔ Go_ su ev m i m x := by
  generalize hzf : (fun s => decide (su (4 * s + i) = 0)) = zf at *
  generalize hpf : (fun s => decide (0 < su (4 * s + i))) = pf at *
  generalize hQ : fb_ct (fun s => decide (su (4 * s + i) < 0)) m = Q at *
  have hzk : ∀ k, zf k = decide (su (4 * k + i) = 0) := fun k => by rw [← hzf]
  have hpk : ∀ k, pf k = decide (0 < su (4 * k + i)) := fun k => by rw [← hpf]
  have hlp := lp_for (body := fun (st : (Int32 × Int32 × (Nat → Int32) × (Nat → Int64))) => fX6_takesOut_L56 (nI m) (nI i) (j, -1) su ev st.1 st.2.1 st.2.2.1 st.2.2.2)
    (fun κ st => st.1 = nI κ ∧ st.2.1 = nI (fb_ct zf κ + fb_ct pf κ * Q) ∧ PB_ (fb_ct zf κ + fb_ct pf κ * Q) st.2.2.2 st.2.2.1 (2 * (B * B)) ∧ ∀ x, (∃ r, r < fb_ct zf κ + fb_ct pf κ * Q ∧ fr_ st.2.2.2 st.2.2.1 r = x) ↔ Go_ su ev m i κ x)
    (fun st => st.2.1 = nI (fb_ct zf m + fb_ct pf m * Q) ∧ PB_ (fb_ct zf m + fb_ct pf m * Q) st.2.2.2 st.2.2.1 (2 * (B * B)) ∧ ∀ x, (∃ r, r < fb_ct zf m + fb_ct pf m * Q ∧ fr_ st.2.2.2 st.2.2.1 r = x) ↔ Go_ su ev m i m x) m (by omega) (s := ((0 : Int32), (0 : Int32), ne, nx))
    ⟨rfl, by simp only [fb_ct, Nat.zero_mul, Nat.add_zero]; rfl, by
      intro r hr
      simp only [fb_ct, Nat.zero_mul, Nat.add_zero] at hr
      exact absurd hr (Nat.not_lt_zero r), by
      intro x
      simp only [fb_ct, Nat.zero_mul, Nat.add_zero]
      constructor
      · rintro ⟨r, hr, _⟩; exact absurd hr (Nat.not_lt_zero r)
      · rintro (⟨s, hs, _⟩ | ⟨s, hs, _⟩) <;> exact absurd hs (Nat.not_lt_zero s)⟩ ?_ ?_
  · obtain ⟨⟨j', x, ne', nx'⟩, h1, h2, h3⟩ := hlp
    dsimp only at h2
    subst h2
    exact ⟨j', ne', nx', h1, h3⟩
  · rintro κ ⟨j', x, ne', nx'⟩ hκ ⟨h1, h2, h3, h4⟩
    dsimp only at h1 h2 h3 h4 ⊢
    subst h1 h2
    left
    have hz1 := fb_ct_mono zf (show κ + 1 ≤ m by omega)
    have hp1 := Nat.mul_le_mul_right Q (fb_ct_mono pf (show κ + 1 ≤ m by omega))
    rw [fb_ct_succ] at hz1 hp1
    unfold fX6_takesOut_L56
    dsimp only
    simp only [ix4]
    rw [if_neg (nI_ge hκ (by omega)), ck_yes (in_R_nI (show 4 * κ + i < 4400 by omega) (by decide)), nI_clamp (show 4 * κ + i < 2 ^ 31 by omega), nI_1, if_neg (nI_nm1 (by omega))]
    by_cases z : su (4 * κ + i) = 0
    · have ez : zf κ = true := by rw [hzk]; exact decide_eq_true z
      have ep : pf κ = false := by rw [hpk, z]; rfl
      have hc : fb_ct zf (κ + 1) + fb_ct pf (κ + 1) * Q = fb_ct zf κ + fb_ct pf κ * Q + 1 := by
        rw [fb_ct_succ, fb_ct_succ, ez, ep]
        simp only [if_true, Bool.false_eq_true, if_false, Nat.add_zero]
        omega
      rw [ez] at hz1
      rw [ep] at hp1
      simp only [if_true, Bool.false_eq_true, if_false, Nat.add_zero] at hz1 hp1
      rw [if_pos ((lg_cmp_eq _ _).mpr z), ck_yes (in_R_nI (show κ < 1100 by omega) (by decide)), nI_clamp (by omega)]
      obtain ⟨ne2, nx2, e, g1, g2, g3⟩ := m_puts (nm := fb_ct zf κ + fb_ct pf κ * Q) (s := κ) (o := κ) (a := 1) (b := 0) (e := ev κ) (by omega) (by omega) (by omega) (hP κ hκ).2 (hP κ hκ).2 (by unfold ab_; simpa using hB1) (by unfold ab_; simp) hB (hP κ hκ).1 h3
      rw [lc_id] at g3
      rw [show (1 : Int64) = iL_ 1 from rfl, show (0 : Int64) = iL_ 0 from rfl, bind_yes e]
      refine ⟨_, rfl, rfl, by rw [hc], by rw [hc]; exact g1, fun x => ?_⟩
      dsimp only
      rw [hc]
      constructor
      · rintro ⟨r, hr, rfl⟩
        rcases (show r < fb_ct zf κ + fb_ct pf κ * Q ∨ r = fb_ct zf κ + fb_ct pf κ * Q by omega) with q | rfl
        · rw [g2 r q]
          rcases (h4 _).mp ⟨r, q, rfl⟩ with ⟨s, s1, s2⟩ | ⟨s, s1, s2⟩
          · exact Or.inl ⟨s, by omega, s2⟩
          · exact Or.inr ⟨s, by omega, s2⟩
        · exact Or.inl ⟨κ, by omega, z, g3⟩
      · intro hx
        have old : Go_ su ev m i κ x → ∃ r, r < fb_ct zf κ + fb_ct pf κ * Q + 1 ∧ fr_ nx2 ne2 r = x := by
          intro h
          obtain ⟨r, hr, e⟩ := (h4 x).mpr h
          exact ⟨r, by omega, by rw [g2 r hr]; exact e⟩
        rcases hx with ⟨s, s1, s2, s3⟩ | ⟨s, s1, o, o1, o2, o3⟩
        · rcases (show s < κ ∨ s = κ by omega) with q | rfl
          · exact old (Or.inl ⟨s, q, s2, s3⟩)
          · exact ⟨_, by omega, g3.trans s3.symm⟩
        · rcases (show s < κ ∨ s = κ by omega) with q | rfl
          · exact old (Or.inr ⟨s, q, o, o1, o2, o3⟩)
          · rw [z] at o2; exact absurd o2 (by decide)
    · have ez : zf κ = false := by rw [hzk]; exact decide_eq_false z
      rw [if_neg (fun q => z ((lg_cmp_eq _ _).mp q)), if_pos trivial]
      by_cases w : 0 < su (4 * κ + i)
      · have ep : pf κ = true := by rw [hpk]; exact decide_eq_true w
        have hc : fb_ct zf (κ + 1) + fb_ct pf (κ + 1) * Q = fb_ct zf κ + fb_ct pf κ * Q + Q := by
          rw [fb_ct_succ, fb_ct_succ, ez, ep]
          simp only [if_true, Bool.false_eq_true, if_false, Nat.add_zero]
          rw [Nat.succ_mul]
          omega
        rw [ez] at hz1
        rw [ep] at hp1
        simp only [if_true, Bool.false_eq_true, if_false, Nat.add_zero] at hz1 hp1
        rw [Nat.succ_mul] at hp1
        obtain ⟨jj, ne2, nx2, e, g1, g2⟩ := m_L163 (m := m) (i := i) (B := B) (ev := ev) (su := su) (s := κ) (nm0 := fb_ct zf κ + fb_ct pf κ * Q) hm (by omega) hP hB hκ w (by rw [hQ]; omega) h3
        rw [hQ] at e g1 g2
        rw [bind_yes e]
        refine ⟨_, rfl, rfl, by rw [hc], by rw [hc]; exact g1, fun x => ?_⟩
        dsimp only
        rw [hc, g2, h4]
        constructor
        · rintro (h | ⟨o, o1, o2, o3⟩)
          · rcases h with ⟨s, s1, s2⟩ | ⟨s, s1, s2⟩
            · exact Or.inl ⟨s, by omega, s2⟩
            · exact Or.inr ⟨s, by omega, s2⟩
          · exact Or.inr ⟨κ, by omega, o, o1, w, o2, o3⟩
        · rintro (⟨s, s1, s2, s3⟩ | ⟨s, s1, o, o1, o2, o3, o4⟩)
          · rcases (show s < κ ∨ s = κ by omega) with q | rfl
            · exact Or.inl (Or.inl ⟨s, q, s2, s3⟩)
            · exact absurd s2 z
          · rcases (show s < κ ∨ s = κ by omega) with q | rfl
            · exact Or.inl (Or.inr ⟨s, q, o, o1, o2, o3, o4⟩)
            · exact Or.inr ⟨o, o1, o3, o4⟩
      · have ep : pf κ = false := by rw [hpk]; exact decide_eq_false w
        have hc : fb_ct zf (κ + 1) + fb_ct pf (κ + 1) * Q = fb_ct zf κ + fb_ct pf κ * Q := by
          rw [fb_ct_succ, fb_ct_succ, ez, ep]
          simp only [Bool.false_eq_true, if_false, Nat.add_zero]
        have hneg : su (4 * κ + i) < 0 := by
          apply Int64.lt_iff_toInt_lt.mpr
          have a : ¬ (0 : Int64).toInt < (su (4 * κ + i)).toInt := fun q => w (Int64.lt_iff_toInt_lt.mpr q)
          have b := tz_ z
          have : (0 : Int64).toInt = 0 := rfl
          omega
        rw [bind_yes (m_L163n hm (by omega) hκ (by omega) hneg ne' nx')]
        refine ⟨_, rfl, rfl, by rw [hc], by rw [hc]; exact h3, fun x => ?_⟩
        dsimp only
        rw [hc, h4]
        constructor
        · rintro (⟨s, s1, s2⟩ | ⟨s, s1, s2⟩)
          · exact Or.inl ⟨s, by omega, s2⟩
          · exact Or.inr ⟨s, by omega, s2⟩
        · rintro (⟨s, s1, s2, s3⟩ | ⟨s, s1, o, o1, o2, o3, o4⟩)
          · rcases (show s < κ ∨ s = κ by omega) with q | rfl
            · exact Or.inl ⟨s, q, s2, s3⟩
            · exact absurd s2 z
          · rcases (show s < κ ∨ s = κ by omega) with q | rfl
            · exact Or.inr ⟨s, q, o, o1, o2, o3, o4⟩
            · exact absurd o2 w
  · rintro ⟨j', x, ne', nx'⟩ ⟨h1, h2, h3⟩
    dsimp only at h1 h2 h3 ⊢
    subst h1 h2
    unfold fX6_takesOut_L56
    rw [if_pos (nI_le (Nat.le_refl m) (by omega))]
    exact ⟨_, rfl, rfl, h3⟩
end TN
end
section
/-! the reference's isThere: whether a row of signs has a place -/
def rl_ (m : Nat) (su : Nat → Int64) (ev : Nat → Int32) : List Rw_ := (List.range m).map (fr_ su ev)
theorem rl_mem {m : Nat} {su : Nat → Int64} {ev : Nat → Int32} {x : Rw_} : x ∈ rl_ m su ev ↔ ∃ r, r < m ∧ fr_ su ev r = x := by
  unfold rl_
  rw [List.mem_map]
  constructor
  · rintro ⟨r, hr, e⟩; exact ⟨r, List.mem_range.mp hr, e⟩
  · rintro ⟨r, hr, e⟩; exact ⟨r, List.mem_range.mpr hr, e⟩
def NN_ : Nat → Nat
  | 0 => 8
  | 1 => 16
  | 2 => 64
  | _ => 1024
theorem NN_le (i : Nat) : NN_ i ≤ 1024 := by unfold NN_; split <;> omega
def FS_ (d i m : Nat) (su : Nat → Int64) (ev : Nat → Int32) : Prop := m ≤ NN_ i ∧ PB_ m su ev (BB_ i) ∧ ∀ s, s < m → ∀ j, j < 3 → (j < i ∨ d ≤ j) → cf_ j (tR_ su s) = 0
theorem m_copyL {m : Nat} (hm : m ≤ 1024) (a0 b0 : Int32) (ne : Nat → Int32) (nx su : Nat → Int64) : ∃ j su', lp_ (fun (st : (Int32 × (Nat → Int64))) => fX6_takesOut_L231 (a0, nI m, ne, nx) st.1 st.2) fu_ ((0 : Int32), su) = some (j, su') ∧ ∀ k, k < 4 * m → su' k = nx k := by
  have hlp := lp_for (body := fun (st : (Int32 × (Nat → Int64))) => fX6_takesOut_L231 (a0, nI m, ne, nx) st.1 st.2) (fun κ st => st.1 = nI κ ∧ ∀ k, k < κ → st.2 k = nx k) (fun st => ∀ k, k < 4 * m → st.2 k = nx k) (4 * m) (by omega) (s := ((0 : Int32), su)) ⟨rfl, fun k hk => absurd hk (Nat.not_lt_zero k)⟩ ?_ ?_
  · obtain ⟨⟨j, su'⟩, h1, h2⟩ := hlp
    exact ⟨j, su', h1, h2⟩
  · rintro κ ⟨j, s⟩ hκ ⟨h1, h2⟩
    dsimp only at h1 h2 ⊢
    subst h1
    left
    unfold fX6_takesOut_L231
    dsimp only
    have hR : in_R (nI κ) 4400 := in_R_nI (by omega) (by decide)
    rw [ix40, if_neg (nI_ge hκ (by omega)), ck_yes hR, ck_yes hR, nI_clamp (by omega), nI_1]
    refine ⟨_, rfl, rfl, fun k hk => ?_⟩
    dsimp only
    rcases (show k < κ ∨ k = κ by omega) with q | rfl
    · rw [pk_uLn (by omega)]; exact h2 k q
    · rw [pk_uLs]
  · rintro ⟨j, s⟩ ⟨h1, h2⟩
    dsimp only at h1 h2 ⊢
    subst h1
    unfold fX6_takesOut_L231
    dsimp only
    rw [ix40, if_pos (nI_le (Nat.le_refl _) (by omega))]
    exact ⟨_, rfl, h2⟩
theorem m_copyI {m : Nat} (hm : m ≤ 1024) (a0 : Int32) (ne ev : Nat → Int32) (nx : Nat → Int64) (hne : ∀ r, r < m → ne r = 0 ∨ ne r = 1) : ∃ j ev', lp_ (fun (st : (Int32 × (Nat → Int32))) => fX6_takesOut_L261 (a0, nI m, ne, nx) st.1 st.2) fu_ ((0 : Int32), ev) = some (j, ev') ∧ ∀ k, k < m → ev' k = ne k := by
  have hlp := lp_for (body := fun (st : (Int32 × (Nat → Int32))) => fX6_takesOut_L261 (a0, nI m, ne, nx) st.1 st.2) (fun κ st => st.1 = nI κ ∧ ∀ k, k < κ → st.2 k = ne k) (fun st => ∀ k, k < m → st.2 k = ne k) m (by omega) (s := ((0 : Int32), ev)) ⟨rfl, fun k hk => absurd hk (Nat.not_lt_zero k)⟩ ?_ ?_
  · obtain ⟨⟨j, su'⟩, h1, h2⟩ := hlp
    exact ⟨j, su', h1, h2⟩
  · rintro κ ⟨j, s⟩ hκ ⟨h1, h2⟩
    dsimp only at h1 h2 ⊢
    subst h1
    left
    unfold fX6_takesOut_L261
    dsimp only
    have hR : in_R (nI κ) 1100 := in_R_nI (by omega) (by decide)
    rw [if_neg (nI_ge hκ (by omega)), ck_yes hR, ck_yes hR, nI_clamp (by omega), nI_1]
    refine ⟨_, rfl, rfl, fun k hk => ?_⟩
    dsimp only
    rcases (show k < κ ∨ k = κ by omega) with q | rfl
    · rw [pk_un (by omega)]; exact h2 k q
    · rw [pk_us]
      rcases hne k hκ with w | w <;> rw [w] <;> rfl
  · rintro ⟨j, s⟩ ⟨h1, h2⟩
    dsimp only at h1 h2 ⊢
    subst h1
    unfold fX6_takesOut_L261
    dsimp only
    rw [if_pos (nI_le (Nat.le_refl _) (by omega))]
    exact ⟨_, rfl, h2⟩
theorem Sat_cg {L L' : List Rw_} (h : ∀ x, x ∈ L ↔ x ∈ L') : Sat_ L ↔ Sat_ L' := by
  unfold Sat_
  constructor
  · rintro ⟨p, hp⟩; exact ⟨p, fun r hr => hp r ((h r).mpr hr)⟩
  · rintro ⟨p, hp⟩; exact ⟨p, fun r hr => hp r ((h r).mp hr)⟩
theorem m_takesOut {d i m : Nat} {su : Nat → Int64} {ev : Nat → Int32} (hi : i < 3) (h : FS_ d i m su ev) (ne : Nat → Int32) (nx : Nat → Int64) :
    ∃ m' ev' ne' su' nx', fX6_takesOut (nI m) ev ne su nx (nI i) = some (nI m', nI m', ev', ne', su', nx') ∧ FS_ d (i + 1) m' su' ev' ∧ (Sat_ (rl_ m su ev) ↔ Sat_ (rl_ m' su' ev')) := by
  obtain ⟨hm, hP, hcf⟩ := h
  have hm1024 : m ≤ 1024 := Nat.le_trans hm (NN_le i)
  have hBB : 2 * (BB_ i * BB_ i) < 9223372036854775808 := BB_le ⟨i + 1, by omega⟩
  have hB1 : 1 ≤ BB_ i := by rcases (show i = 0 ∨ i = 1 ∨ i = 2 by omega) with rfl | rfl | rfl <;> decide +kernel
  unfold fX6_takesOut
  obtain ⟨j, u, e1, hpiv⟩ := m_pivot (m := m) (i := i) (ev := ev) (su := su) hm1024 (by omega) (fun s hs => (hP s hs).1)
  rw [bind_yes e1]
  -- from the new rows to the end
  have fin : ∀ {j' m' ne' nx'}, m' ≤ NN_ (i + 1) → PB_ m' nx' ne' (BB_ (i + 1)) → (∀ s, s < m' → ∀ jj, jj < 3 → (jj < i + 1 ∨ d ≤ jj) → cf_ jj (tR_ nx' s) = 0) → (Sat_ (rl_ m su ev) ↔ Sat_ (rl_ m' nx' ne')) → lp_ (fun (st : (Int32 × Int32 × (Nat → Int32) × (Nat → Int64))) => fX6_takesOut_L56 (nI m) (nI i) (j, u) su ev st.1 st.2.1 st.2.2.1 st.2.2.2) fu_ ((0 : Int32), (0 : Int32), ne, nx) = some (j', nI m', ne', nx') →
      ∃ m' ev' ne' su' nx', ((lp_ (fun (st : (Int32 × Int32 × (Nat → Int32) × (Nat → Int64))) => fX6_takesOut_L56 (nI m) (nI i) (j, u) su ev st.1 st.2.1 st.2.2.1 st.2.2.2) fu_ ((0 : Int32), (0 : Int32), ne, nx)).bind fun (u11 : (Int32 × Int32 × (Nat → Int32) × (Nat → Int64))) => (lp_ (fun (st : (Int32 × (Nat → Int64))) => fX6_takesOut_L231 u11 st.1 st.2) fu_ ((0 : Int32), su)).bind fun (u17 : (Int32 × (Nat → Int64))) => (lp_ (fun (st : (Int32 × (Nat → Int32))) => fX6_takesOut_L261 u11 st.1 st.2) fu_ ((0 : Int32), ev)).bind fun (u23 : (Int32 × (Nat → Int32))) => some (u11.2.1, u11.2.1, u23.2, u11.2.2.1, u17.2, u11.2.2.2)) = some (nI m', nI m', ev', ne', su', nx') ∧ FS_ d (i + 1) m' su' ev' ∧ (Sat_ (rl_ m su ev) ↔ Sat_ (rl_ m' su' ev')) := by
    intro j' m' ne' nx' h1 h2 h3 h4 e
    have hm' : m' ≤ 1024 := Nat.le_trans h1 (NN_le _)
    obtain ⟨j2, su', e2, g2⟩ := m_copyL (m := m') hm' j' j' ne' nx' su
    obtain ⟨j3, ev', e3, g3⟩ := m_copyI (m := m') hm' j' ne' ev nx' (fun r hr => (h2 r hr).1)
    have hrow : ∀ r, r < m' → tR_ su' r = tR_ nx' r := fun r hr => tR_cg (fun c hc => g2 _ (by omega))
    rw [bind_yes e, bind_yes e2, bind_yes e3]
    refine ⟨m', ev', ne', su', nx', rfl, ⟨h1, ?_, ?_⟩, h4.trans (Sat_cg (fun x => ?_))⟩
    · intro r hr
      rw [g3 r hr]
      exact ⟨(h2 r hr).1, fun c hc => by rw [g2 _ (by omega)]; exact (h2 r hr).2 c hc⟩
    · intro s hs jj hj1 hj2
      rw [hrow s hs]; exact h3 s hs jj hj1 hj2
    · rw [rl_mem, rl_mem]
      constructor
      · rintro ⟨r, hr, rfl⟩; exact ⟨r, hr, by unfold fr_; rw [hrow r hr, g3 r hr]⟩
      · rintro ⟨r, hr, rfl⟩; exact ⟨r, hr, by unfold fr_; rw [hrow r hr, g3 r hr]⟩
  rcases hpiv with ⟨hu, hno⟩ | ⟨p, hp, hu, hep, hne⟩
  · subst hu
    have hroom : fb_ct (fun s => decide (su (4 * s + i) = 0)) m + fb_ct (fun s => decide (0 < su (4 * s + i))) m * fb_ct (fun s => decide (su (4 * s + i) < 0)) m ≤ NN_ (i + 1) := by
      have h3 := ct_3 (fun s => su (4 * s + i)) m
      rcases (show i = 0 ∨ i = 1 ∨ i = 2 by omega) with rfl | rfl | rfl
      · have hm8 : m ≤ 8 := hm
        have := cnt_4 (M := 8) (by omega) (by decide) (z := fb_ct (fun s => decide (su (4 * s + 0) = 0)) m) (p := fb_ct (fun s => decide (0 < su (4 * s + 0))) m) (q := fb_ct (fun s => decide (su (4 * s + 0) < 0)) m)
        show _ ≤ 16
        omega
      · have hm8 : m ≤ 16 := hm
        have := cnt_4 (M := 16) (by omega) (by decide) (z := fb_ct (fun s => decide (su (4 * s + 1) = 0)) m) (p := fb_ct (fun s => decide (0 < su (4 * s + 1))) m) (q := fb_ct (fun s => decide (su (4 * s + 1) < 0)) m)
        show _ ≤ 64
        omega
      · have hm8 : m ≤ 64 := hm
        have := cnt_4 (M := 64) (by omega) (by decide) (z := fb_ct (fun s => decide (su (4 * s + 2) = 0)) m) (p := fb_ct (fun s => decide (0 < su (4 * s + 2))) m) (q := fb_ct (fun s => decide (su (4 * s + 2) < 0)) m)
        show _ ≤ 1024
        omega
    obtain ⟨j', ne', nx', e, g1, g2⟩ := m_takeN (j := j) hm1024 hi hP hB1 hBB (Nat.le_trans hroom (NN_le _)) ne nx
    have c0 : ∀ s, (su (4 * s + i) = 0 ↔ cf_ i (tR_ su s) = 0) := fun s => by
      rw [← tR_cell hi]; exact ⟨fun h => by rw [h]; rfl, fun h => Int64.toInt_inj.mp h⟩
    have c1 : ∀ s, (0 < su (4 * s + i) ↔ 0 < cf_ i (tR_ su s)) := fun s => by rw [← tR_cell hi]; exact Int64.lt_iff_toInt_lt
    have c2 : ∀ s, (su (4 * s + i) < 0 ↔ cf_ i (tR_ su s) < 0) := fun s => by rw [← tR_cell hi]; exact Int64.lt_iff_toInt_lt
    refine fin hroom g1 ?_ ?_ e
    · intro s hs jj hj1 hj2
      rcases (g2 (fr_ nx' ne' s)).mp ⟨s, hs, rfl⟩ with ⟨s', s1, s2, s3⟩ | ⟨s', s1, o, o1, o2, o3, o4⟩
      · have : tR_ nx' s = tR_ su s' := congrArg Prod.fst s3
        rw [this]
        by_cases q : jj = i
        · rw [q]; exact (c0 s').mp s2
        · exact hcf s' s1 jj hj1 (by omega)
      · have : tR_ nx' s = _ := congrArg Prod.fst o4
        rw [this, cf_lc]
        by_cases q : jj = i
        · rw [q, ← tR_cell hi, ← tR_cell hi]; grind
        · rw [hcf s' s1 jj hj1 (by omega), hcf o o1 jj hj1 (by omega)]; simp
    · refine fm_non (i := i) ?_ ?_ ?_ ?_
      · intro x hx hx2
        obtain ⟨r, hr, rfl⟩ := rl_mem.mp hx
        exact (c0 r).mp (hno r hr (of_decide_eq_true hx2))
      · intro x hx
        obtain ⟨r, hr, rfl⟩ := rl_mem.mp hx
        rcases (g2 _).mp ⟨r, hr, rfl⟩ with ⟨s', s1, s2, s3⟩ | ⟨s', s1, o, o1, o2, o3, o4⟩
        · exact Or.inl (rl_mem.mpr ⟨s', s1, s3.symm⟩)
        · refine Or.inr ⟨fr_ su ev s', rl_mem.mpr ⟨s', s1, rfl⟩, fr_ su ev o, rl_mem.mpr ⟨o, o1, rfl⟩, (c1 s').mp o2, (c2 o).mp o3, ?_⟩
          rw [o4, tR_cell hi, tR_cell hi]; rfl
      · intro x hx hx2
        obtain ⟨r, hr, rfl⟩ := rl_mem.mp hx
        exact rl_mem.mpr ((g2 _).mpr (Or.inl ⟨r, hr, (c0 r).mpr hx2, rfl⟩))
      · intro x hx y hy hx2 hy2
        obtain ⟨r, hr, rfl⟩ := rl_mem.mp hx
        obtain ⟨o, ho, rfl⟩ := rl_mem.mp hy
        refine rl_mem.mpr ((g2 _).mpr (Or.inr ⟨r, hr, o, ho, (c1 r).mpr hx2, (c2 o).mpr hy2, ?_⟩))
        rw [tR_cell hi, tR_cell hi]; rfl
  · subst hu
    obtain ⟨j', nm, ne', nx', e, g0, g1, g2, g3⟩ := m_takeP (j := j) hm1024 hi hP hB1 hBB hp hne ne nx
    have hnm : nm ≤ NN_ (i + 1) := by
      refine Nat.le_trans g0 (Nat.le_trans hm ?_)
      rcases (show i = 0 ∨ i = 1 ∨ i = 2 by omega) with rfl | rfl | rfl <;> decide
    refine fin hnm g1 ?_ ?_ e
    · intro s hs jj hj1 hj2
      obtain ⟨s', s1, a, b, ha, s3, s4⟩ := g2 s hs
      have : tR_ nx' s = _ := congrArg Prod.fst s3
      rw [this]
      by_cases q : jj = i
      · rw [q]; exact s4
      · rw [cf_lc, hcf s' s1 jj hj1 (by omega), hcf p hp jj hj1 (by omega)]; simp
    · have hPm : (tR_ su p, true) ∈ rl_ m su ev := rl_mem.mpr ⟨p, hp, by unfold fr_; rw [hep]; rfl⟩
      refine fm_piv (i := i) hPm (by rw [← tR_cell hi]; exact tz_ hne) ?_ ?_
      · intro x hx
        obtain ⟨r, hr, rfl⟩ := rl_mem.mp hx
        obtain ⟨s', s1, a, b, ha, s3, s4⟩ := g2 r hr
        exact ⟨fr_ su ev s', rl_mem.mpr ⟨s', s1, rfl⟩, a, b, ha, s3⟩
      · intro x hx
        obtain ⟨r, hr, rfl⟩ := rl_mem.mp hx
        rcases g3 r hr with rfl | ⟨r', hr', a, b, ha, w1, w2⟩
        · exact Or.inl (by unfold fr_; rw [hep]; rfl)
        · exact Or.inr ⟨a, b, ha, rl_mem.mpr ⟨r', hr', w1⟩, w2⟩
def ng_ (w : Wl_) : Wl_ := (- w.1, - w.2.1, - w.2.2.1, - w.2.2.2)
theorem ev_ng (w : Wl_) (p : V3_) : ev_ (ng_ w) p = - ev_ w p := by
  simp only [ev_, dr_, ng_, Rat.intCast_neg]; grind
theorem m_adds {s k g : Nat} (hs : s < 1100) (hk : k < 8) (hg : g ≤ 2) {wl ev : Nat → Int32} {su : Nat → Int64} (hb : bw_ (gM_ wl k)) (hP : PB_ s su ev 99) :
    ∃ ev' su', fX6_adds (nI s) wl ev su (nI k) (nI g) = some (nI (s + 1), ev', su') ∧ PB_ (s + 1) su' ev' 99 ∧ (∀ r, r < s → fr_ su' ev' r = fr_ su ev r) ∧ fr_ su' ev' s = (if g = 2 then ng_ (gM_ wl k) else gM_ wl k, decide (g = 1)) := by
  unfold fX6_adds
  have hlp := lp_for (body := fun (st : (Int32 × (Nat → Int64))) => fX6_adds_L2 (nI g) wl (nI k) (nI s) st.1 st.2)
    (fun κ st => st.1 = nI κ ∧ (∀ c, c < κ → st.2 (4 * s + c) = if g = 2 then (- wl (4 * k + c)).toInt64 else (wl (4 * k + c)).toInt64) ∧ ∀ r c, c < 4 → r ≠ s → st.2 (4 * r + c) = su (4 * r + c))
    (fun st => (∀ c, c < 4 → st.2 (4 * s + c) = if g = 2 then (- wl (4 * k + c)).toInt64 else (wl (4 * k + c)).toInt64) ∧ ∀ r c, c < 4 → r ≠ s → st.2 (4 * r + c) = su (4 * r + c)) 4 (by decide) (s := ((0 : Int32), su))
    ⟨rfl, fun c hc => absurd hc (Nat.not_lt_zero c), fun _ _ _ _ => rfl⟩ ?_ ?_
  · obtain ⟨⟨j, su'⟩, h1, h2, h3⟩ := hlp
    dsimp only at h2 h3
    rw [bind_yes h1]
    have hgeq : (nI g = (1 : Int32)) ↔ g = 1 := nI_eq (b := 1) (by omega) (by decide)
    obtain ⟨b1, b2, b3, b4⟩ := hb
    have hcell : ∀ c, c < 4 → ∀ z : Int, z = (wl (4 * k + c)).toInt → ab_ z 99 → (su' (4 * s + c)).toInt = if g = 2 then - z else z := by
      intro c hc z hz hab
      rw [h2 c hc]
      by_cases q : g = 2
      · rw [if_pos q, if_pos q, Int32.toInt_toInt64, fb_negI (by unfold ab_ at hab; omega), hz]
      · rw [if_neg q, if_neg q, Int32.toInt_toInt64, hz]
    have k0 := hcell 0 (by decide) _ rfl (ab_mono b1 (by decide))
    have k1 := hcell 1 (by decide) _ rfl (ab_mono b2 (by decide))
    have k2 := hcell 2 (by decide) _ rfl (ab_mono b3 (by decide))
    have k3 := hcell 3 (by decide) _ rfl b4
    have hbd : ∀ c, c < 4 → ab_ (su' (4 * s + c)).toInt 99 := by
      intro c hc
      rcases (show c = 0 ∨ c = 1 ∨ c = 2 ∨ c = 3 by omega) with rfl | rfl | rfl | rfl
      · rw [k0]; split; exact ab_neg (ab_mono b1 (by decide)); exact ab_mono b1 (by decide)
      · rw [k1]; split; exact ab_neg (ab_mono b2 (by decide)); exact ab_mono b2 (by decide)
      · rw [k2]; split; exact ab_neg (ab_mono b3 (by decide)); exact ab_mono b3 (by decide)
      · rw [k3]; split; exact ab_neg b4; exact b4
    have fin : ∀ e : Int32, (e = 0 ∨ e = 1) → (e = 1 ↔ g = 1) → ∃ ev' su2, (some (nI (s + 1), upd ev s (vp_nar .boolean e), su') : Option (Int32 × (Nat → Int32) × (Nat → Int64))) = some (nI (s + 1), ev', su2) ∧ PB_ (s + 1) su2 ev' 99 ∧ (∀ r, r < s → fr_ su2 ev' r = fr_ su ev r) ∧ fr_ su2 ev' s = (if g = 2 then ng_ (gM_ wl k) else gM_ wl k, decide (g = 1)) := by
      intro e he heq
      have hnar : vp_nar .boolean e = e := by rcases he with rfl | rfl <;> rfl
      refine ⟨_, _, rfl, ?_, ?_, ?_⟩
      · intro r hr
        rcases (show r < s ∨ r = s by omega) with q | rfl
        · rw [pk_un (by omega)]
          exact ⟨(hP r q).1, fun c hc => by rw [h3 r c hc (by omega)]; exact (hP r q).2 c hc⟩
        · rw [pk_us, hnar]; exact ⟨he, hbd⟩
      · intro r hr
        unfold fr_
        rw [pk_un (by omega), tR_cg (s := su) (q := r) (fun c hc => h3 r c hc (by omega))]
      · unfold fr_
        rw [pk_us, hnar]
        simp only [heq]
        congr 1
        simp only [Nat.add_zero] at k0
        unfold tR_
        rw [k0, k1, k2, k3]
        by_cases q : g = 2
        · simp only [if_pos q]; rfl
        · simp only [if_neg q]; rfl
    by_cases q : g = 1
    · rw [if_pos (hgeq.mpr q), ck_yes (in_R_nI hs (by decide)), nI_clamp (by omega), nI_1]
      exact fin 1 (Or.inr rfl) ⟨fun _ => q, fun _ => rfl⟩
    · rw [if_neg (fun w => q (hgeq.mp w)), ck_yes (in_R_nI hs (by decide)), nI_clamp (by omega), nI_1]
      exact fin 0 (Or.inl rfl) ⟨fun w => absurd w (by decide), fun w => absurd w q⟩
  · rintro κ ⟨j, t⟩ hκ ⟨h1, h2, h3⟩
    dsimp only at h1 h2 h3 ⊢
    subst h1
    left
    have hgeq : (nI g = (2 : Int32)) ↔ g = 2 := nI_eq (b := 2) (by omega) (by decide)
    unfold fX6_adds_L2
    simp only [ix4]
    rw [if_neg (show ¬ (4 : Int32) ≤ nI κ from nI_ge (a := κ) (b := 4) hκ (by decide))]
    have fin : ∀ v, (if g = 2 then (- wl (4 * k + κ)).toInt64 else (wl (4 * k + κ)).toInt64) = v → ∃ s', (some (Sum.inl (nI (κ + 1), vp_updL t (4 * s + κ) v)) : Option ((Int32 × (Nat → Int64)) ⊕ (Int32 × (Nat → Int64)))) = some (Sum.inl s') ∧ s'.1 = nI (κ + 1) ∧ (∀ c, c < κ + 1 → s'.2 (4 * s + c) = if g = 2 then (- wl (4 * k + c)).toInt64 else (wl (4 * k + c)).toInt64) ∧ ∀ r c, c < 4 → r ≠ s → s'.2 (4 * r + c) = su (4 * r + c) := by
      intro v hv
      refine ⟨_, rfl, rfl, ?_, ?_⟩
      · intro c hc
        dsimp only
        rcases (show c < κ ∨ c = κ by omega) with w | rfl
        · rw [pk_uLn (by omega)]; exact h2 c w
        · rw [pk_uLs, hv]
      · intro r c hc hr
        dsimp only
        rw [pk_uLn (by omega)]; exact h3 r c hc hr
    by_cases q : g = 2
    · rw [if_pos (hgeq.mpr q), bind_yes (f_at wl (by omega)), ck_yes (in_R_nI (show 4 * s + κ < 4400 by omega) (by decide)), nI_clamp (by omega), nI_1]
      exact fin _ (if_pos q)
    · rw [if_neg (fun w => q (hgeq.mp w)), bind_yes (f_at wl (by omega)), ck_yes (in_R_nI (show 4 * s + κ < 4400 by omega) (by decide)), nI_clamp (by omega), nI_1]
      exact fin _ (if_neg q)
  · rintro ⟨j, t⟩ ⟨h1, h2, h3⟩
    dsimp only at h1 h2 h3 ⊢
    subst h1
    unfold fX6_adds_L2
    rw [if_pos (show (4 : Int32) ≤ nI 4 by decide)]
    exact ⟨_, rfl, h2, h3⟩
end
section
/-! the reference's isThere and works -/
/-- an answer of 1 or 0 -/
def yn_ (x : Int32) (P : Prop) : Prop := x = 1 ∧ P ∨ x = 0 ∧ ¬ P
theorem yn_cg {x : Int32} {P Q : Prop} (h : yn_ x P) (e : P ↔ Q) : yn_ x Q := by
  rcases h with ⟨h1, h2⟩ | ⟨h1, h2⟩
  · exact Or.inl ⟨h1, e.mp h2⟩
  · exact Or.inr ⟨h1, fun q => h2 (e.mpr q)⟩
theorem yn_01 {x : Int32} {P : Prop} (h : yn_ x P) : x = 0 ∨ x = 1 := by
  rcases h with ⟨h1, _⟩ | ⟨h1, _⟩
  · exact Or.inr h1
  · exact Or.inl h1
theorem yn_1 {x : Int32} {P : Prop} (h : yn_ x P) : x = 1 ↔ P := by
  rcases h with ⟨h1, h2⟩ | ⟨h1, h2⟩
  · exact ⟨fun _ => h2, fun _ => h1⟩
  · exact ⟨fun q => (by rw [h1] at q; cases q), fun q => absurd q h2⟩
theorem yn_0 {x : Int32} {P : Prop} (h : yn_ x P) : x = 0 ↔ ¬ P := by
  rcases h with ⟨h1, h2⟩ | ⟨h1, h2⟩
  · exact ⟨fun q => (by rw [h1] at q; cases q), fun q => absurd h2 q⟩
  · exact ⟨fun _ => h2, fun _ => h1⟩
section TH
variable {wl : Nat → Int32} {n d : Nat}
theorem m_L6 (hn : n ≤ 8) (hb : ∀ k, k < n → bw_ (gM_ wl k)) (hz : ∀ k, k < n → ∀ j, j < 3 → d ≤ j → cf_ j (gM_ wl k) = 0) {row f : Nat} (hrow : row < 2 ^ 31) (hf : f ≤ n) (ev : Nat → Int32) (su : Nat → Int64) :
    ∃ j ev' su', lp_ (fun (st : (Int32 × Int32 × (Nat → Int32) × (Nat → Int64))) => fX6_isThere_L6 (nI f) (nI row) wl st.1 st.2.1 st.2.2.1 st.2.2.2) fu_ ((0 : Int32), (0 : Int32), ev, su) = some (j, nI f, ev', su') ∧ FS_ d 0 f su' ev' ∧ (Sat_ (rl_ f su' ev') ↔ ∃ p, ∀ k, k < f → sg_ (ev_ (gM_ wl k) p) = dg_ row k) := by
  have hlp := lp_for (body := fun (st : (Int32 × Int32 × (Nat → Int32) × (Nat → Int64))) => fX6_isThere_L6 (nI f) (nI row) wl st.1 st.2.1 st.2.2.1 st.2.2.2)
    (fun κ st => st.1 = nI κ ∧ st.2.1 = nI κ ∧ PB_ κ st.2.2.2 st.2.2.1 99 ∧ ∀ r, r < κ → fr_ st.2.2.2 st.2.2.1 r = (if dg_ row r = 2 then ng_ (gM_ wl r) else gM_ wl r, decide (dg_ row r = 1)))
    (fun st => st.2.1 = nI f ∧ PB_ f st.2.2.2 st.2.2.1 99 ∧ ∀ r, r < f → fr_ st.2.2.2 st.2.2.1 r = (if dg_ row r = 2 then ng_ (gM_ wl r) else gM_ wl r, decide (dg_ row r = 1))) f (by omega) (s := ((0 : Int32), (0 : Int32), ev, su))
    ⟨rfl, rfl, fun r hr => absurd hr (Nat.not_lt_zero r), fun r hr => absurd hr (Nat.not_lt_zero r)⟩ ?_ ?_
  · obtain ⟨⟨j, x, ev', su'⟩, h1, h2, h3, h4⟩ := hlp
    dsimp only at h2 h3 h4
    subst h2
    refine ⟨j, ev', su', h1, ⟨show f ≤ 8 by omega, h3, ?_⟩, ?_⟩
    · intro s hs jj hj1 hj2
      have : tR_ su' s = _ := congrArg Prod.fst (h4 s hs)
      rw [this]
      have h0 := hz s (by omega) jj hj1 (by omega)
      dsimp only
      split
      · have : cf_ jj (ng_ (gM_ wl s)) = - cf_ jj (gM_ wl s) := by unfold cf_ ng_; split; rfl; split <;> rfl
        rw [this, h0]; rfl
      · exact h0
    · unfold Sat_
      have key : ∀ p r, r < f → (sat_ (fr_ su' ev' r) p ↔ sg_ (ev_ (gM_ wl r) p) = dg_ row r) := by
        intro p r hr
        rw [h4 r hr]
        have hle := dg_le row r
        rcases (show dg_ row r = 0 ∨ dg_ row r = 1 ∨ dg_ row r = 2 by omega) with q | q | q
        · rw [q, if_neg (by decide), show decide (0 = 1) = false from rfl, sat_f, sg_eq0]
        · rw [q, if_neg (by decide), show decide (1 = 1) = true from rfl, sat_t, sg_eq1]
        · rw [q, if_pos rfl, show decide (2 = 1) = false from rfl, sat_f, sg_eq2, ev_ng]
          constructor <;> (intro; grind)
      constructor
      · rintro ⟨p, hp⟩
        exact ⟨p, fun k hk => (key p k hk).mp (hp _ (rl_mem.mpr ⟨k, hk, rfl⟩))⟩
      · rintro ⟨p, hp⟩
        refine ⟨p, fun x hx => ?_⟩
        obtain ⟨r, hr, rfl⟩ := rl_mem.mp hx
        exact (key p r hr).mpr (hp r hr)
  · rintro κ ⟨j, x, ev', su'⟩ hκ ⟨h1, h2, h3, h4⟩
    dsimp only at h1 h2 h3 h4 ⊢
    subst h1 h2
    left
    unfold fX6_isThere_L6
    rw [if_neg (nI_ge hκ (by omega)), bind_yes (f_sign hrow (by omega))]
    obtain ⟨ev2, su2, e, g1, g2, g3⟩ := m_adds (s := κ) (k := κ) (g := dg_ row κ) (by omega) (by omega) (dg_le row κ) (hb κ (by omega)) h3
    rw [bind_yes e, nI_1]
    refine ⟨_, rfl, rfl, rfl, g1, fun r hr => ?_⟩
    dsimp only
    rcases (show r < κ ∨ r = κ by omega) with q | rfl
    · rw [g2 r q]; exact h4 r q
    · exact g3
  · rintro ⟨j, x, ev', su'⟩ ⟨h1, h2, h3, h4⟩
    dsimp only at h1 h2 h3 h4 ⊢
    subst h1 h2
    unfold fX6_isThere_L6
    rw [if_pos (nI_le (Nat.le_refl f) (by omega))]
    exact ⟨_, rfl, rfl, h3, h4⟩
theorem m_L29t (hd : d ≤ 3) {m : Nat} {ev : Nat → Int32} {su : Nat → Int64} (h : FS_ d 0 m su ev) (nm : Int32) (ne : Nat → Int32) (nx : Nat → Int64) :
    ∃ j m' nm' ev' ne' su' nx', lp_ (fun (st : (Int32 × Int32 × Int32 × (Nat → Int32) × (Nat → Int32) × (Nat → Int64) × (Nat → Int64))) => fX6_isThere_L29 (nI d) st.1 st.2.1 st.2.2.1 st.2.2.2.1 st.2.2.2.2.1 st.2.2.2.2.2.1 st.2.2.2.2.2.2) fu_ ((0 : Int32), nI m, nm, ev, ne, su, nx) = some (j, nI m', nm', ev', ne', su', nx') ∧ FS_ d d m' su' ev' ∧ (Sat_ (rl_ m su ev) ↔ Sat_ (rl_ m' su' ev')) := by
  have hlp := lp_for (body := fun (st : (Int32 × Int32 × Int32 × (Nat → Int32) × (Nat → Int32) × (Nat → Int64) × (Nat → Int64))) => fX6_isThere_L29 (nI d) st.1 st.2.1 st.2.2.1 st.2.2.2.1 st.2.2.2.2.1 st.2.2.2.2.2.1 st.2.2.2.2.2.2)
    (fun i st => st.1 = nI i ∧ ∃ m', st.2.1 = nI m' ∧ FS_ d i m' st.2.2.2.2.2.1 st.2.2.2.1 ∧ (Sat_ (rl_ m su ev) ↔ Sat_ (rl_ m' st.2.2.2.2.2.1 st.2.2.2.1)))
    (fun st => ∃ m', st.2.1 = nI m' ∧ FS_ d d m' st.2.2.2.2.2.1 st.2.2.2.1 ∧ (Sat_ (rl_ m su ev) ↔ Sat_ (rl_ m' st.2.2.2.2.2.1 st.2.2.2.1))) d (by omega) (s := ((0 : Int32), nI m, nm, ev, ne, su, nx))
    ⟨rfl, m, rfl, h, Iff.rfl⟩ ?_ ?_
  · obtain ⟨⟨j, x, nm', ev', ne', su', nx'⟩, h1, m', h2, h3, h4⟩ := hlp
    dsimp only at h2 h3 h4
    subst h2
    exact ⟨j, m', nm', ev', ne', su', nx', h1, h3, h4⟩
  · rintro i ⟨j, x, nm', ev', ne', su', nx'⟩ hi ⟨h1, m', h2, h3, h4⟩
    dsimp only at h1 h2 h3 h4 ⊢
    subst h1 h2
    left
    unfold fX6_isThere_L29
    obtain ⟨m2, ev2, ne2, su2, nx2, e, g1, g2⟩ := m_takesOut (d := d) (i := i) (by omega) h3 ne' nx'
    rw [if_neg (nI_ge hi (by omega)), bind_yes e, nI_1]
    exact ⟨_, rfl, rfl, m2, rfl, g1, h4.trans g2⟩
  · rintro ⟨j, x, nm', ev', ne', su', nx'⟩ ⟨h1, m', h2, h3⟩
    dsimp only at h1 h2 h3 ⊢
    subst h1 h2
    unfold fX6_isThere_L29
    rw [if_pos (nI_le (Nat.le_refl d) (by omega))]
    exact ⟨_, rfl, m', rfl, h3⟩
theorem m_isThere (hn : n ≤ 8) (hd : d ≤ 3) (hb : ∀ k, k < n → bw_ (gM_ wl k)) (hz : ∀ k, k < n → ∀ j, j < 3 → d ≤ j → cf_ j (gM_ wl k) = 0) {row f : Nat} (hrow : row < 2 ^ 31) (hf : f ≤ n) (nm : Int32) (ev ne : Nat → Int32) (su nx : Nat → Int64) :
    ∃ x sm' nm' ev' ne' su' nx', fX6_isThere (nI d) nm wl ev ne su nx (nI row) (nI f) = some (x, sm', nm', ev', ne', su', nx') ∧ yn_ x (∃ p, ∀ k, k < f → sg_ (ev_ (gM_ wl k) p) = dg_ row k) := by
  unfold fX6_isThere
  obtain ⟨j1, ev1, su1, e1, g1, g2⟩ := m_L6 (d := d) hn hb hz hrow hf ev su
  rw [show fX6_begins = some (0 : Int32) from rfl, Option.bind_some, bind_yes e1]
  obtain ⟨j2, m2, nm2, ev2, ne2, su2, nx2, e2, g3, g4⟩ := m_L29t (d := d) hd g1 nm ne nx
  dsimp only
  rw [bind_yes e2]
  have hm2 : m2 ≤ 1024 := Nat.le_trans g3.1 (NN_le d)
  have hflat : Sat_ (rl_ m2 su2 ev2) ↔ ∀ r, r < m2 → if ev2 r = 1 then (su2 (4 * r + 3)).toInt = 0 else 0 < (su2 (4 * r + 3)).toInt := by
    rw [sat_flat (fun x hx => ?_)]
    · constructor
      · intro h r hr
        have := h (fr_ su2 ev2 r) (rl_mem.mpr ⟨r, hr, rfl⟩)
        unfold fr_ at this
        dsimp only at this
        simp only [decide_eq_true_eq] at this
        exact this
      · intro h x hx
        obtain ⟨r, hr, rfl⟩ := rl_mem.mp hx
        have := h r hr
        unfold fr_
        dsimp only
        simp only [decide_eq_true_eq]
        exact this
    · obtain ⟨r, hr, rfl⟩ := rl_mem.mp hx
      exact ⟨g3.2.2 r hr 0 (by decide) (by omega), g3.2.2 r hr 1 (by decide) (by omega), g3.2.2 r hr 2 (by decide) (by omega)⟩
  have hlp := lp_for (body := fun (st : Int32) => fX6_isThere_L50 (j2, nI m2, nm2, ev2, ne2, su2, nx2) st)
    (fun κ st => st = nI κ ∧ ∀ r, r < κ → if ev2 r = 1 then (su2 (4 * r + 3)).toInt = 0 else 0 < (su2 (4 * r + 3)).toInt)
    (fun u => ∃ x sm' nm' ev' ne' su' nx', Sum.elim (fun (x27 : Int32) => some ((1 : Int32), nI m2, nm2, ev2, ne2, su2, nx2)) (fun y => some y) u = some (x, sm', nm', ev', ne', su', nx') ∧ yn_ x (∀ r, r < m2 → if ev2 r = 1 then (su2 (4 * r + 3)).toInt = 0 else 0 < (su2 (4 * r + 3)).toInt)) m2 (by omega) (s := (0 : Int32))
    ⟨rfl, fun r hr => absurd hr (Nat.not_lt_zero r)⟩ ?_ ?_
  · obtain ⟨u, h1, x, sm', nm', ev', ne', su', nx', h2, h3⟩ := hlp
    rw [bind_yes h1]
    exact ⟨x, sm', nm', ev', ne', su', nx', h2, yn_cg h3 (hflat.symm.trans (g4.symm.trans g2))⟩
  · rintro κ st hκ ⟨rfl, h2⟩
    unfold fX6_isThere_L50
    dsimp only
    have e3 : (4 : Int32) * nI κ + (3 : Int32) = nI (4 * κ + 3) := ix4 κ 3
    simp only [e3]
    rw [if_neg (nI_ge hκ (by omega)), ck_yes (in_R_nI (show 4 * κ + 3 < 4400 by omega) (by decide)), ck_yes (in_R_nI (show κ < 1100 by omega) (by decide)), nI_clamp (show κ < 2 ^ 31 by omega), nI_clamp (show 4 * κ + 3 < 2 ^ 31 by omega), nI_1]
    have bad : ¬ (if ev2 κ = 1 then (su2 (4 * κ + 3)).toInt = 0 else 0 < (su2 (4 * κ + 3)).toInt) → ∃ r, (some (Sum.inr (Sum.inr ((0 : Int32), nI m2, nm2, ev2, ne2, su2, nx2))) : Option (Int32 ⊕ (Int32 ⊕ (Int32 × Int32 × Int32 × (Nat → Int32) × (Nat → Int32) × (Nat → Int64) × (Nat → Int64))))) = some (Sum.inr r) ∧ ∃ x sm' nm' ev' ne' su' nx', Sum.elim (fun (x27 : Int32) => some ((1 : Int32), nI m2, nm2, ev2, ne2, su2, nx2)) (fun y => some y) r = some (x, sm', nm', ev', ne', su', nx') ∧ yn_ x (∀ r, r < m2 → if ev2 r = 1 then (su2 (4 * r + 3)).toInt = 0 else 0 < (su2 (4 * r + 3)).toInt) :=
      fun w => ⟨_, rfl, 0, _, _, _, _, _, _, rfl, Or.inr ⟨rfl, fun q => w (q κ hκ)⟩⟩
    have good : (if ev2 κ = 1 then (su2 (4 * κ + 3)).toInt = 0 else 0 < (su2 (4 * κ + 3)).toInt) → ∀ r, r < κ + 1 → if ev2 r = 1 then (su2 (4 * r + 3)).toInt = 0 else 0 < (su2 (4 * r + 3)).toInt := by
      intro w r hr
      rcases (show r < κ ∨ r = κ by omega) with q | rfl
      · exact h2 r q
      · exact w
    rcases (g3.2.1 κ hκ).1 with w | w
    · rw [if_pos w]
      rw [w] at bad good
      rw [if_neg (by decide)] at bad good
      by_cases q : 0 < su2 (4 * κ + 3)
      · left
        rw [if_pos ((lg_cmp_gt _ _).mpr q)]
        exact ⟨_, rfl, rfl, good (Int64.lt_iff_toInt_lt.mp q)⟩
      · right
        rw [if_neg (fun z => q ((lg_cmp_gt _ _).mp z))]
        exact bad (fun z => q (Int64.lt_iff_toInt_lt.mpr z))
    · rw [if_neg (by rw [w]; decide)]
      rw [w] at bad good
      rw [if_pos rfl] at bad good
      by_cases q : su2 (4 * κ + 3) = 0
      · left
        rw [if_pos ((lg_cmp_eq _ _).mpr q)]
        exact ⟨_, rfl, rfl, good (by rw [q]; rfl)⟩
      · right
        rw [if_neg (fun z => q ((lg_cmp_eq _ _).mp z))]
        exact bad (tz_ q)
  · rintro st ⟨rfl, h2⟩
    unfold fX6_isThere_L50
    dsimp only
    rw [if_pos (nI_le (Nat.le_refl m2) (by omega))]
    exact ⟨_, rfl, 1, _, _, _, _, _, _, rfl, Or.inl ⟨rfl, h2⟩⟩
end TH
end
section
/-! the reference's works: all faces -/
def WF_ (G : Nat → Wl_) (n : Nat) (wif : Nat → Int32) : Prop := ∀ r, r < 6561 → yn_ (wif r) (Fa_ G n r)
theorem Fa_down {G : Nat → Wl_} {m r s : Nat} (hr : r < 3 ^ m) (h : Fa_ G (m + 1) (r + s * 3 ^ m)) : Fa_ G m r := by
  obtain ⟨_, p, hp⟩ := Fa_iff.mp h
  exact Fa_iff.mpr ⟨hr, p, fun k hk => by rw [hp k (by omega), dg_add _ _ hk]⟩
theorem m_L15 (wif : Nat → Int32) : ∃ j w, lp_ (fun (st : (Int32 × (Nat → Int32))) => fX6_works_L15 st.1 st.2) fu_ ((0 : Int32), wif) = some (j, w) ∧ ∀ r, r < 6561 → w r = if r = 0 then 1 else 0 := by
  have hlp := lp_for (body := fun (st : (Int32 × (Nat → Int32))) => fX6_works_L15 st.1 st.2) (fun κ st => st.1 = nI κ ∧ ∀ r, r < κ → st.2 r = if r = 0 then 1 else 0) (fun st => ∀ r, r < 6561 → st.2 r = if r = 0 then 1 else 0) 6561 (by decide) (s := ((0 : Int32), wif)) ⟨rfl, fun r hr => absurd hr (Nat.not_lt_zero r)⟩ ?_ ?_
  · obtain ⟨⟨j, w⟩, h1, h2⟩ := hlp
    exact ⟨j, w, h1, h2⟩
  · rintro κ ⟨j, w⟩ hκ ⟨h1, h2⟩
    dsimp only at h1 h2 ⊢
    subst h1
    left
    unfold fX6_works_L15
    have hR : in_R (nI κ) 6561 := in_R_nI hκ (by decide)
    rw [if_neg (show ¬ (6561 : Int32) ≤ nI κ from nI_ge (a := κ) (b := 6561) hκ (by decide)), ck_yes hR, ck_yes hR, nI_clamp (by omega), nI_1]
    have e0 : (nI κ = 0) ↔ κ = 0 := nI_eq (b := 0) (by omega) (by decide)
    have fin : ∀ v : Int32, (if κ = 0 then 1 else 0) = v → ∃ s', (some (Sum.inl (nI (κ + 1), upd w κ v)) : Option ((Int32 × (Nat → Int32)) ⊕ (Int32 × (Nat → Int32)))) = some (Sum.inl s') ∧ s'.1 = nI (κ + 1) ∧ ∀ r, r < κ + 1 → s'.2 r = if r = 0 then 1 else 0 := by
      intro v hv
      refine ⟨_, rfl, rfl, fun r hr => ?_⟩
      dsimp only
      rcases (show r < κ ∨ r = κ by omega) with q | rfl
      · rw [pk_un (by omega)]; exact h2 r q
      · rw [pk_us, hv]
    by_cases q : κ = 0
    · rw [if_pos (e0.mpr q)]
      exact fin _ (if_pos q)
    · rw [if_neg (fun z => q (e0.mp z))]
      exact fin _ (if_neg q)
  · rintro ⟨j, w⟩ ⟨h1, h2⟩
    dsimp only at h1 h2 ⊢
    subst h1
    unfold fX6_works_L15
    rw [if_pos (show (6561 : Int32) ≤ nI 6561 by decide)]
    exact ⟨_, rfl, h2⟩
section WK
variable {wl : Nat → Int32} {n d : Nat}
theorem m_L73 (hn : n ≤ 8) (hd : d ≤ 3) (hb : ∀ k, k < n → bw_ (gM_ wl k)) (hz : ∀ k, k < n → ∀ j, j < 3 → d ≤ j → cf_ j (gM_ wl k) = 0) {m r : Nat} (hm : m < n) (hr : r < 3 ^ m) {w : Nat → Int32} (hw : yn_ (w r) (Fa_ (gM_ wl) m r)) (sm nm : Int32) (ev ne : Nat → Int32) (su nx : Nat → Int64) :
    ∃ j sm' nm' w' ev' ne' su' nx', lp_ (fun (st : (Int32 × Int32 × Int32 × (Nat → Int32) × (Nat → Int32) × (Nat → Int32) × (Nat → Int64) × (Nat → Int64))) => fX6_works_L73 (nI m) w (nI r) (nI d) wl st.1 st.2.1 st.2.2.1 st.2.2.2.1 st.2.2.2.2.1 st.2.2.2.2.2.1 st.2.2.2.2.2.2.1 st.2.2.2.2.2.2.2) fu_ ((0 : Int32), sm, nm, w, ev, ne, su, nx) = some (j, sm', nm', w', ev', ne', su', nx') ∧
      (∀ s, s < 3 → yn_ (w' (r + s * 3 ^ m)) (Fa_ (gM_ wl) (m + 1) (r + s * 3 ^ m))) ∧ ∀ q, (∀ s, s < 3 → q ≠ r + s * 3 ^ m) → w' q = w q := by
  have h3m : 3 ^ (m + 1) ≤ 6561 := p3_6561 (by omega)
  rw [Nat.pow_succ] at h3m
  have h3p : 0 < 3 ^ m := Nat.pow_pos (by decide)
  have hlp := lp_for (body := fun (st : (Int32 × Int32 × Int32 × (Nat → Int32) × (Nat → Int32) × (Nat → Int32) × (Nat → Int64) × (Nat → Int64))) => fX6_works_L73 (nI m) w (nI r) (nI d) wl st.1 st.2.1 st.2.2.1 st.2.2.2.1 st.2.2.2.2.1 st.2.2.2.2.2.1 st.2.2.2.2.2.2.1 st.2.2.2.2.2.2.2)
    (fun κ st => st.1 = nI κ ∧ (∀ s, s < κ → yn_ (st.2.2.2.1 (r + s * 3 ^ m)) (Fa_ (gM_ wl) (m + 1) (r + s * 3 ^ m))) ∧ ∀ q, (∀ s, s < κ → q ≠ r + s * 3 ^ m) → st.2.2.2.1 q = w q)
    (fun st => (∀ s, s < 3 → yn_ (st.2.2.2.1 (r + s * 3 ^ m)) (Fa_ (gM_ wl) (m + 1) (r + s * 3 ^ m))) ∧ ∀ q, (∀ s, s < 3 → q ≠ r + s * 3 ^ m) → st.2.2.2.1 q = w q) 3 (by decide) (s := ((0 : Int32), sm, nm, w, ev, ne, su, nx))
    ⟨rfl, fun s hs => absurd hs (Nat.not_lt_zero s), fun _ _ => rfl⟩ ?_ ?_
  · obtain ⟨⟨j, sm', nm', w', ev', ne', su', nx'⟩, h1, h2, h3⟩ := hlp
    exact ⟨j, sm', nm', w', ev', ne', su', nx', h1, h2, h3⟩
  · rintro κ ⟨j, sm', nm', w', ev', ne', su', nx'⟩ hκ ⟨h1, h2, h3⟩
    dsimp only at h1 h2 h3 ⊢
    subst h1
    left
    have hκm : κ * 3 ^ m ≤ 2 * 3 ^ m := Nat.mul_le_mul_right _ (by omega)
    have hidx : nI r + nI κ * nI (3 ^ m) = nI (r + κ * 3 ^ m) := by rw [pk_mul, nI_add]
    have hR : in_R (nI (r + κ * 3 ^ m)) 6561 := in_R_nI (by omega) (by decide)
    unfold fX6_works_L73
    rw [if_neg (show ¬ (3 : Int32) ≤ nI κ from nI_ge (a := κ) (b := 3) hκ (by decide)), bind_yes (f_power (by omega)), nI_clamp (show r < 2 ^ 31 by omega)]
    simp only [hidx]
    have fin : ∀ {v : Int32} {a1 a2 : Int32} {a3 a4 : Nat → Int32} {a5 a6 : Nat → Int64}, yn_ v (Fa_ (gM_ wl) (m + 1) (r + κ * 3 ^ m)) → ∃ s', (some (Sum.inl (nI κ + 1, a1, a2, upd w' (r + κ * 3 ^ m) (vp_nar .boolean v), a3, a4, a5, a6)) : Option ((Int32 × Int32 × Int32 × (Nat → Int32) × (Nat → Int32) × (Nat → Int32) × (Nat → Int64) × (Nat → Int64)) ⊕ (Int32 × Int32 × Int32 × (Nat → Int32) × (Nat → Int32) × (Nat → Int32) × (Nat → Int64) × (Nat → Int64)))) = some (Sum.inl s') ∧ s'.1 = nI (κ + 1) ∧ (∀ s, s < κ + 1 → yn_ (s'.2.2.2.1 (r + s * 3 ^ m)) (Fa_ (gM_ wl) (m + 1) (r + s * 3 ^ m))) ∧ ∀ q, (∀ s, s < κ + 1 → q ≠ r + s * 3 ^ m) → s'.2.2.2.1 q = w q := by
      intro v a1 a2 a3 a4 a5 a6 hv
      have hnar : vp_nar .boolean v = v := by rcases yn_01 hv with rfl | rfl <;> rfl
      refine ⟨_, rfl, nI_1 κ, ?_, ?_⟩
      · intro s hs
        dsimp only
        rcases (show s < κ ∨ s = κ by omega) with q | rfl
        · have hlt : s * 3 ^ m < κ * 3 ^ m := Nat.mul_lt_mul_of_pos_right q h3p
          rw [pk_un (by omega)]; exact h2 s q
        · rw [pk_us, hnar]; exact hv
      · intro q hq
        dsimp only
        rw [pk_un (hq κ (by omega))]
        exact h3 q (fun s hs => hq s (by omega))
    have hlt1 : r + κ * 3 ^ m < 3 ^ (m + 1) := by rw [Nat.pow_succ]; omega
    by_cases z : w r = 0
    · rw [if_pos z, ck_yes hR, nI_clamp (by omega)]
      exact fin (Or.inr ⟨rfl, fun q => (yn_0 hw).mp z (Fa_down hr q)⟩)
    · rw [if_neg z, bind_yes (f_power (by omega))]
      simp only [hidx, nI_1]
      obtain ⟨x, sm2, nm2, ev2, ne2, su2, nx2, e, g⟩ := m_isThere (d := d) hn hd hb hz (row := r + κ * 3 ^ m) (f := m + 1) (by omega) (by omega) nm' ev' ne' su' nx'
      have g' : yn_ x (Fa_ (gM_ wl) (m + 1) (r + κ * 3 ^ m)) := yn_cg g ⟨fun h => Fa_iff.mpr ⟨hlt1, h⟩, fun h => (Fa_iff.mp h).2⟩
      rw [bind_yes e, ck_yes hR, ck_yes hR, nI_clamp (show r + κ * 3 ^ m < 2 ^ 31 by omega)]
      dsimp only
      rcases yn_01 g' with rfl | rfl
      · have f := @fin 0 sm2 nm2 ev2 ne2 su2 nx2 g'
        rw [nI_1] at f
        rw [if_pos rfl]
        exact f
      · have f := @fin 1 sm2 nm2 ev2 ne2 su2 nx2 g'
        rw [nI_1] at f
        rw [if_neg (by decide)]
        exact f
  · rintro ⟨j, sm', nm', w', ev', ne', su', nx'⟩ ⟨h1, h2, h3⟩
    dsimp only at h1 h2 h3 ⊢
    subst h1
    unfold fX6_works_L73
    rw [if_pos (show (3 : Int32) ≤ nI 3 by decide)]
    exact ⟨_, rfl, h2, h3⟩
theorem m_L55 (hn : n ≤ 8) (hd : d ≤ 3) (hb : ∀ k, k < n → bw_ (gM_ wl k)) (hz : ∀ k, k < n → ∀ j, j < 3 → d ≤ j → cf_ j (gM_ wl k) = 0) {m : Nat} (hm : m < n) {w : Nat → Int32} (hw : WF_ (gM_ wl) m w) (sm nm : Int32) (ev ne : Nat → Int32) (su nx : Nat → Int64) :
    ∃ j sm' nm' w' ev' ne' su' nx', lp_ (fun (st : (Int32 × Int32 × Int32 × (Nat → Int32) × (Nat → Int32) × (Nat → Int32) × (Nat → Int64) × (Nat → Int64))) => fX6_works_L55 (nI m) (nI d) wl st.1 st.2.1 st.2.2.1 st.2.2.2.1 st.2.2.2.2.1 st.2.2.2.2.2.1 st.2.2.2.2.2.2.1 st.2.2.2.2.2.2.2) fu_ ((0 : Int32), sm, nm, w, ev, ne, su, nx) = some (j, sm', nm', w', ev', ne', su', nx') ∧ WF_ (gM_ wl) (m + 1) w' := by
  have h3m : 3 ^ (m + 1) ≤ 6561 := p3_6561 (by omega)
  rw [Nat.pow_succ] at h3m
  have h3p : 0 < 3 ^ m := Nat.pow_pos (by decide)
  have hlp := lp_for (body := fun (st : (Int32 × Int32 × Int32 × (Nat → Int32) × (Nat → Int32) × (Nat → Int32) × (Nat → Int64) × (Nat → Int64))) => fX6_works_L55 (nI m) (nI d) wl st.1 st.2.1 st.2.2.1 st.2.2.2.1 st.2.2.2.2.1 st.2.2.2.2.2.1 st.2.2.2.2.2.2.1 st.2.2.2.2.2.2.2)
    (fun κ st => st.1 = nI κ ∧ (∀ r s, r < κ → s < 3 → yn_ (st.2.2.2.1 (r + s * 3 ^ m)) (Fa_ (gM_ wl) (m + 1) (r + s * 3 ^ m))) ∧ (∀ r, κ ≤ r → r < 3 ^ m → yn_ (st.2.2.2.1 r) (Fa_ (gM_ wl) m r)) ∧ ∀ r, 3 ^ m * 3 ≤ r → r < 6561 → st.2.2.2.1 r = 0)
    (fun st => (∀ r s, r < 3 ^ m → s < 3 → yn_ (st.2.2.2.1 (r + s * 3 ^ m)) (Fa_ (gM_ wl) (m + 1) (r + s * 3 ^ m))) ∧ ∀ r, 3 ^ m * 3 ≤ r → r < 6561 → st.2.2.2.1 r = 0) (3 ^ m) (by omega) (s := ((0 : Int32), sm, nm, w, ev, ne, su, nx))
    ⟨rfl, fun r s hr => absurd hr (Nat.not_lt_zero r), fun r _ hr => hw r (by omega), fun r h1 h2 => (yn_0 (hw r h2)).mpr (fun q => by have := Fa_lt q; omega)⟩ ?_ ?_
  · obtain ⟨⟨j, sm', nm', w', ev', ne', su', nx'⟩, h1, h2, h3⟩ := hlp
    dsimp only at h2 h3
    refine ⟨j, sm', nm', w', ev', ne', su', nx', h1, fun r hr => ?_⟩
    by_cases q : r < 3 ^ m * 3
    · have hs : r / 3 ^ m < 3 := Nat.div_lt_of_lt_mul q
      have := h2 (r % 3 ^ m) (r / 3 ^ m) (Nat.mod_lt _ h3p) hs
      rw [Nat.mul_comm, Nat.mod_add_div] at this
      exact this
    · exact Or.inr ⟨h3 r (by omega) hr, fun w => by have := Fa_lt w; rw [Nat.pow_succ] at this; omega⟩
  · rintro κ ⟨j, sm', nm', w', ev', ne', su', nx'⟩ hκ ⟨h1, h2, h3, h4⟩
    dsimp only at h1 h2 h3 h4 ⊢
    subst h1
    left
    unfold fX6_works_L55
    rw [bind_yes (f_power (by omega)), if_neg (nI_ge hκ (by omega)), ck_yes (in_R_nI (show κ < 6561 by omega) (by decide))]
    obtain ⟨j2, sm2, nm2, w2, ev2, ne2, su2, nx2, e, g1, g2⟩ := m_L73 (d := d) hn hd hb hz hm hκ (h3 κ (Nat.le_refl _) hκ) sm' nm' ev' ne' su' nx'
    rw [bind_yes e]
    refine ⟨_, rfl, nI_1 κ, ?_, ?_, ?_⟩
    · intro r s hr hs
      dsimp only
      rcases (show r < κ ∨ r = κ by omega) with q | rfl
      · rw [g2]
        · exact h2 r s q hs
        · intro s' hs' heq
          have e1 := congrArg (fun x => x % 3 ^ m) heq
          simp only [Nat.add_mul_mod_self_right] at e1
          rw [Nat.mod_eq_of_lt (by omega), Nat.mod_eq_of_lt hκ] at e1
          omega
      · exact g1 s hs
    · intro r hr1 hr2
      dsimp only
      rw [g2]
      · exact h3 r (by omega) hr2
      · intro s' hs' heq
        have e1 := congrArg (fun x => x % 3 ^ m) heq
        simp only [Nat.add_mul_mod_self_right] at e1
        rw [Nat.mod_eq_of_lt hr2, Nat.mod_eq_of_lt hκ] at e1
        omega
    · intro r hr1 hr2
      dsimp only
      rw [g2]
      · exact h4 r hr1 hr2
      · intro s' hs' heq
        have : s' * 3 ^ m ≤ 2 * 3 ^ m := Nat.mul_le_mul_right _ (by omega)
        omega
  · rintro ⟨j, sm', nm', w', ev', ne', su', nx'⟩ ⟨h1, h2, h3, h4⟩
    dsimp only at h1 h2 h3 h4 ⊢
    subst h1
    unfold fX6_works_L55
    rw [bind_yes (f_power (by omega)), if_pos (nI_le (Nat.le_refl _) (by omega))]
    exact ⟨_, rfl, h2, h4⟩
theorem m_works (hn : n ≤ 8) (hd : d ≤ 3) (hb : ∀ k, k < n → bw_ (gM_ wl k)) (hz : ∀ k, k < n → ∀ j, j < 3 → d ≤ j → cf_ j (gM_ wl k) = 0) {od sm nm : Int32} {w ev ne : Nat → Int32} {su nx : Nat → Int64} (hod : od = 0 → WF_ (gM_ wl) n w) :
    ∃ sm' nm' w' ev' ne' su' nx', fX6_works (nI d) (nI n) od sm nm wl w ev ne su nx = some (0, sm', nm', w', ev', ne', su', nx') ∧ WF_ (gM_ wl) n w' := by
  unfold fX6_works
  by_cases q : od = 0
  · rw [if_pos q, q]
    exact ⟨_, _, _, _, _, _, _, rfl, hod q⟩
  · rw [if_neg q]
    obtain ⟨j0, w0, e0, g0⟩ := m_L15 w
    rw [bind_yes e0]
    have hW0 : WF_ (gM_ wl) 0 w0 := by
      intro r hr
      rw [g0 r hr]
      by_cases z : r = 0
      · rw [if_pos z, z]; exact Or.inl ⟨rfl, o3_, rfl⟩
      · rw [if_neg z]; exact Or.inr ⟨rfl, fun h => by have := Fa_lt h; simp at this; exact z this⟩
    have hlp := lp_for (body := fun (st : (Int32 × Int32 × Int32 × (Nat → Int32) × (Nat → Int32) × (Nat → Int32) × (Nat → Int64) × (Nat → Int64))) => fX6_works_L45 (nI n) (nI d) wl st.1 st.2.1 st.2.2.1 st.2.2.2.1 st.2.2.2.2.1 st.2.2.2.2.2.1 st.2.2.2.2.2.2.1 st.2.2.2.2.2.2.2)
      (fun m st => st.1 = nI m ∧ WF_ (gM_ wl) m st.2.2.2.1) (fun st => WF_ (gM_ wl) n st.2.2.2.1) n (by omega) (s := ((0 : Int32), sm, nm, w0, ev, ne, su, nx)) ⟨rfl, hW0⟩ ?_ ?_
    · obtain ⟨⟨j, sm', nm', w', ev', ne', su', nx'⟩, h1, h2⟩ := hlp
      dsimp only
      rw [bind_yes h1]
      exact ⟨_, _, _, _, _, _, _, rfl, h2⟩
    · rintro m ⟨j, sm', nm', w', ev', ne', su', nx'⟩ hm ⟨h1, h2⟩
      dsimp only at h1 h2 ⊢
      subst h1
      left
      unfold fX6_works_L45
      obtain ⟨j2, sm2, nm2, w2, ev2, ne2, su2, nx2, e, g⟩ := m_L55 (d := d) hn hd hb hz hm h2 sm' nm' ev' ne' su' nx'
      rw [if_neg (nI_ge hm (by omega)), bind_yes e]
      exact ⟨_, rfl, nI_1 m, g⟩
    · rintro ⟨j, sm', nm', w', ev', ne', su', nx'⟩ ⟨h1, h2⟩
      dsimp only at h1 h2 ⊢
      subst h1
      unfold fX6_works_L45
      rw [if_pos (nI_le (Nat.le_refl n) (by omega))]
      exact ⟨_, rfl, h2⟩
end WK
end
section
/-! questions about a row: faces, rooms, widths -/
noncomputable def pb_ (P : Prop) : Bool := @decide P (Classical.propDecidable P)
theorem pb_t {P : Prop} : pb_ P = true ↔ P := by unfold pb_; exact @decide_eq_true_iff P (Classical.propDecidable P)
theorem pb_f {P : Prop} : pb_ P = false ↔ ¬ P := by
  have := @pb_t P
  cases h : pb_ P with
  | false => exact ⟨fun _ q => (by rw [this.mpr q] at h; cases h), fun _ => rfl⟩
  | true => exact ⟨fun q => (by cases q), fun q => absurd (this.mp h) q⟩
noncomputable def ci2_ (P : Prop) (a b : Int32) : Int32 := @ite Int32 P (Classical.propDecidable P) a b
theorem ci2_t {P : Prop} {a b : Int32} (h : P) : ci2_ P a b = a := by unfold ci2_; exact if_pos h
theorem ci2_f {P : Prop} {a b : Int32} (h : ¬ P) : ci2_ P a b = b := by unfold ci2_; exact if_neg h
/-- a room: a face on no wall -/
def Ro_ (G : Nat → Wl_) (n r : Nat) : Prop := Fa_ G n r ∧ ∀ k, k < n → dg_ r k ≠ 1
def FaI_ (G : Nat → Wl_) (n : Nat) (p : Int32) : Prop := ∃ r, p = nI r ∧ Fa_ G n r
def RoI_ (G : Nat → Wl_) (n : Nat) (p : Int32) : Prop := ∃ r, p = nI r ∧ Ro_ G n r
theorem FaI_nI {G : Nat → Wl_} {n : Nat} (hn : n ≤ 8) {r : Nat} (hr : r < 2 ^ 31) : FaI_ G n (nI r) ↔ Fa_ G n r := by
  constructor
  · rintro ⟨r', e, h⟩
    have := Fa_lt h
    have h3 := p3_6561 hn
    rw [(nI_eq hr (by omega)).mp e]; exact h
  · intro h; exact ⟨r, rfl, h⟩
theorem RoI_nI {G : Nat → Wl_} {n : Nat} (hn : n ≤ 8) {r : Nat} (hr : r < 2 ^ 31) : RoI_ G n (nI r) ↔ Ro_ G n r := by
  constructor
  · rintro ⟨r', e, h⟩
    have := Fa_lt h.1
    have h3 := p3_6561 hn
    rw [(nI_eq hr (by omega)).mp e]; exact h
  · intro h; exact ⟨r, rfl, h⟩
theorem FaI_neg {G : Nat → Wl_} {n : Nat} (hn : n ≤ 8) {p : Int32} (h : p < 0 ∨ nI 6561 ≤ p) : ¬ FaI_ G n p := by
  rintro ⟨r, rfl, hF⟩
  have := Fa_lt hF
  have h3 := p3_6561 hn
  rcases h with h | h
  · exact nI_pos (by omega) h
  · exact nI_ge (show r < 6561 by omega) (by decide) h
theorem RoI_Fa {G : Nat → Wl_} {n : Nat} {p : Int32} (h : RoI_ G n p) : FaI_ G n p := by obtain ⟨r, e, h1, _⟩ := h; exact ⟨r, e, h1⟩
/-- a width's face -/
def Wd_ (G : Nat → Wl_) (n d r : Nat) (w : Int32) : Prop := Fa_ G n r ∧ nI d - nI (rk_ (hS_ G (mk_ 8 r 1))) = w
noncomputable def vw_ (G : Nat → Wl_) (n d : Nat) (p : Int32) : Int32 := ci2_ (FaI_ G n p) (nI d - nI (rk_ (hS_ G (mk_ 8 p.toNatClampNeg 1)))) (-1)
section QM
variable {wl : Nat → Int32} {n d : Nat}
/-- what the reference's walls keep to -/
def MI_ (G : Nat → Wl_) (n d : Nat) : Prop := n ≤ 8 ∧ 1 ≤ d ∧ d ≤ 3 ∧ (∀ k, k < n → bw_ (G k)) ∧ (∀ k, k < n → nv_ (G k) ≠ o3_) ∧ (∀ k, k < n → ∀ j, j < 3 → d ≤ j → cf_ j (G k) = 0) ∧ DI_ G n
theorem m_isFace (hI : MI_ (gM_ wl) n d) {od : Int32} {w : Nat → Int32} (hod : od = 0 → WF_ (gM_ wl) n w) (sm nm : Int32) (ev ne : Nat → Int32) (su nx : Nat → Int64) (p : Int32) :
    ∃ x od' sm' nm' w' ev' ne' su' nx', fX6_isFace (nI d) (nI n) od sm nm wl w ev ne su nx p = some (x, od', sm', nm', w', ev', ne', su', nx') ∧ yn_ x (FaI_ (gM_ wl) n p) ∧ (od' = 0 → WF_ (gM_ wl) n w') := by
  obtain ⟨hn, hd1, hd, hb, hnv, hz, _⟩ := hI
  unfold fX6_isFace
  obtain ⟨sm1, nm1, w1, ev1, ne1, su1, nx1, e, hW⟩ := m_works (d := d) hn hd hb hz (sm := sm) (nm := nm) (ev := ev) (ne := ne) (su := su) (nx := nx) hod
  rw [bind_yes e]
  dsimp only
  unfold fX6_in
  by_cases h0 : p < 0
  · rw [if_pos h0, Option.bind_some, if_pos rfl]
    exact ⟨_, _, _, _, _, _, _, _, _, rfl, Or.inr ⟨rfl, FaI_neg hn (Or.inl h0)⟩, fun _ => hW⟩
  · rw [if_neg h0]
    obtain ⟨r, hr, rfl⟩ := nI_of h0
    by_cases h1 : r < 6561
    · rw [if_neg (show ¬ (6560 : Int32) < nI r from nI_nlt (a := 6560) (b := r) (by omega) (by decide)), Option.bind_some, if_neg (show ¬ (1 : Int32) = 0 by decide), ck_yes (in_R_nI h1 (by decide)), nI_clamp hr]
      rcases hW r h1 with ⟨q, hF⟩ | ⟨q, hF⟩
      · rw [if_neg (by rw [q]; decide)]
        exact ⟨_, _, _, _, _, _, _, _, _, rfl, Or.inl ⟨rfl, (FaI_nI hn hr).mpr hF⟩, fun _ => hW⟩
      · rw [if_pos q]
        exact ⟨_, _, _, _, _, _, _, _, _, rfl, Or.inr ⟨rfl, fun w => hF ((FaI_nI hn hr).mp w)⟩, fun _ => hW⟩
    · rw [if_pos (show (6560 : Int32) < nI r from nI_lt (a := 6560) (b := r) (by omega) hr), Option.bind_some, if_pos rfl]
      exact ⟨_, _, _, _, _, _, _, _, _, rfl, Or.inr ⟨rfl, FaI_neg hn (Or.inr (nI_le (by omega) hr))⟩, fun _ => hW⟩
theorem m_onWalls (hn : n ≤ 8) {r : Nat} (hr : r < 2 ^ 31) : fX6_onWalls (nI n) (nI r) = some (nI (bn_ (fun k => decide (dg_ r k = 1)) n)) := by
  unfold fX6_onWalls
  refine bind_yes (a := (nI n, nI (bn_ (fun k => decide (dg_ r k = 1)) n))) ?_
  refine lp_seq (body := fun (st : (Int32 × Int32)) => fX6_onWalls_L4 (nI n) (nI r) st.1 st.2) (fun k => (nI k, nI (bn_ (fun k => decide (dg_ r k = 1)) k))) n (by omega) ?_ ?_
  · intro k hk
    show fX6_onWalls_L4 (nI n) (nI r) (nI k) _ = _
    unfold fX6_onWalls_L4
    rw [if_neg (nI_ge hk (by omega)), bind_yes (f_sign hr (by omega))]
    have hle := dg_le r k
    have e1 : (nI (dg_ r k) = (1 : Int32)) ↔ dg_ r k = 1 := nI_eq (b := 1) (by omega) (by decide)
    by_cases q : dg_ r k = 1
    · rw [if_pos (e1.mpr q), sh_1 k (by omega), nI_or, or_add (bn_lt _ k), nI_1]
      simp [bn_, q]
    · rw [if_neg (fun z => q (e1.mp z)), nI_1, show (0 : Int32) = nI 0 from rfl, nI_or]
      simp [bn_, q]
  · show fX6_onWalls_L4 (nI n) (nI r) (nI n) _ = _
    unfold fX6_onWalls_L4
    rw [if_pos (nI_le (Nat.le_refl n) (by omega))]
theorem on_0 {r n : Nat} : bn_ (fun k => decide (dg_ r k = 1)) n = 0 ↔ ∀ k, k < n → dg_ r k ≠ 1 := by
  rw [bn_zero]
  simp only [decide_eq_false_iff_not]
theorem m_isRoom (hI : MI_ (gM_ wl) n d) {od : Int32} {w : Nat → Int32} (hod : od = 0 → WF_ (gM_ wl) n w) (sm nm : Int32) (ev ne : Nat → Int32) (su nx : Nat → Int64) (p : Int32) :
    ∃ x od' sm' nm' w' ev' ne' su' nx', fX6_isRoom (nI d) (nI n) od sm nm wl w ev ne su nx p = some (x, od', sm', nm', w', ev', ne', su', nx') ∧ yn_ x (RoI_ (gM_ wl) n p) ∧ (od' = 0 → WF_ (gM_ wl) n w') := by
  obtain ⟨x, od1, sm1, nm1, w1, ev1, ne1, su1, nx1, e, hy, hW⟩ := m_isFace hI hod sm nm ev ne su nx p
  have hn := hI.1
  unfold fX6_isRoom
  rw [bind_yes e]
  dsimp only
  rcases hy with ⟨rfl, r, rfl, hF⟩ | ⟨rfl, hF⟩
  · have h3 := p3_6561 hn
    have hr := Fa_lt hF
    have hb8 := bn_lt8 (fun k => decide (dg_ r k = 1)) hn
    rw [if_neg (by decide), bind_yes (m_onWalls hn (by omega))]
    by_cases q : bn_ (fun k => decide (dg_ r k = 1)) n = 0
    · rw [if_pos (by rw [q]; rfl)]
      exact ⟨_, _, _, _, _, _, _, _, _, rfl, Or.inl ⟨rfl, r, rfl, hF, on_0.mp q⟩, hW⟩
    · rw [if_neg (nI_ne0 (by omega) (by omega))]
      exact ⟨_, _, _, _, _, _, _, _, _, rfl, Or.inr ⟨rfl, fun z => q (on_0.mpr ((RoI_nI hn (by omega)).mp z).2)⟩, hW⟩
  · rw [if_pos rfl]
    exact ⟨_, _, _, _, _, _, _, _, _, rfl, Or.inr ⟨rfl, fun z => hF (RoI_Fa z)⟩, hW⟩
theorem m_width (hI : MI_ (gM_ wl) n d) {od : Int32} {w : Nat → Int32} (hod : od = 0 → WF_ (gM_ wl) n w) (sm nm : Int32) (ev ne : Nat → Int32) (su nx ta : Nat → Int64) (p : Int32) :
    ∃ od' sm' nm' w' ev' ne' su' nx' ta', fX6_width (nI d) (nI n) od sm nm wl w ev ne su nx ta p = some (vw_ (gM_ wl) n d p, od', sm', nm', w', ev', ne', su', nx', ta') ∧ (od' = 0 → WF_ (gM_ wl) n w') := by
  obtain ⟨x, od1, sm1, nm1, w1, ev1, ne1, su1, nx1, e, hy, hW⟩ := m_isFace hI hod sm nm ev ne su nx p
  obtain ⟨hn, hd1, hd, hb, hnv, hz, _⟩ := hI
  unfold fX6_width vw_
  rw [bind_yes e]
  dsimp only
  rcases hy with ⟨rfl, hF⟩ | ⟨rfl, hF⟩
  · rw [ci2_t hF]
    obtain ⟨r, rfl, hF⟩ := hF
    have h3 := p3_6561 hn
    have hr := Fa_lt hF
    obtain ⟨t', e2⟩ := m_rank3 hn hb hnv (h := bn_ (fun k => decide (dg_ r k = 1)) n) (bn_lt _ n) ta
    rw [if_neg (by decide), bind_yes (m_onWalls hn (by omega)), bind_yes e2, nI_clamp (by omega), mk_dig hn hr (by decide)]
    exact ⟨_, _, _, _, _, _, _, _, _, rfl, hW⟩
  · rw [ci2_f hF, if_pos rfl]
    exact ⟨_, _, _, _, _, _, _, _, _, rfl, hW⟩
end QM
section QC
variable {G : Nat → Wl_} {n d fo li : Nat} {rk cm mk ro wi la lb : Nat → Int32}
theorem f_hasFace (hn : n ≤ 8) (hC : CU_ G n d fo li rk cm mk ro wi la lb) (p : Int32) : ∃ x, fX1_hasFace mk p = some x ∧ yn_ x (FaI_ G n p) := by
  unfold fX1_hasFace
  by_cases h0 : p < 0
  · rw [if_pos h0]; exact ⟨_, rfl, Or.inr ⟨rfl, FaI_neg hn (Or.inl h0)⟩⟩
  · rw [if_neg h0]
    obtain ⟨r, hr, rfl⟩ := nI_of h0
    by_cases h1 : r < 6561
    · rw [if_neg (show ¬ (6561 : Int32) ≤ nI r from nI_ge (a := r) (b := 6561) h1 (by decide)), bind_yes (f_isMarked mk h1)]
      have := hC.1 r h1
      cases e : mkd_ mk r with
      | false =>
        rw [if_pos (show (if false = true then (1 : Int32) else 0) = 0 from rfl)]
        exact ⟨_, rfl, Or.inr ⟨rfl, fun z => by rw [this.mpr ((FaI_nI hn hr).mp z)] at e; cases e⟩⟩
      | true =>
        rw [if_pos rfl, if_neg (by decide)]
        exact ⟨_, rfl, Or.inl ⟨rfl, (FaI_nI hn hr).mpr (this.mp e)⟩⟩
    · rw [if_pos (show (6561 : Int32) ≤ nI r from nI_le (a := 6561) (b := r) (by omega) hr)]
      exact ⟨_, rfl, Or.inr ⟨rfl, FaI_neg hn (Or.inr (nI_le (by omega) hr))⟩⟩
theorem f_hasRoom (hn : n ≤ 8) (hC : CU_ G n d fo li rk cm mk ro wi la lb) (p : Int32) : ∃ x, fX1_hasRoom mk p = some x ∧ yn_ x (RoI_ G n p) := by
  obtain ⟨x, e, hy⟩ := f_hasFace hn hC p
  unfold fX1_hasRoom
  rw [bind_yes e]
  rcases hy with ⟨rfl, r, rfl, hF⟩ | ⟨rfl, hF⟩
  · have h3 := p3_6561 hn
    have hr := Fa_lt hF
    have hb8 := bn_lt8 (fun k => decide (dg_ r k = 1)) hn
    rw [if_neg (by decide), show (1 : Int32) = nI 1 from rfl, bind_yes (f_maskOf (by omega) (by decide)), mk_dig hn hr (by decide)]
    by_cases q : bn_ (fun k => decide (dg_ r k = 1)) n = 0
    · rw [if_pos (by rw [q]; rfl)]
      exact ⟨_, rfl, Or.inl ⟨rfl, r, rfl, hF, on_0.mp q⟩⟩
    · rw [if_neg (nI_ne0 (by omega) (by omega))]
      exact ⟨_, rfl, Or.inr ⟨rfl, fun z => q (on_0.mpr ((RoI_nI hn (by omega)).mp z).2)⟩⟩
  · rw [if_pos rfl]
    exact ⟨_, rfl, Or.inr ⟨rfl, fun z => hF (RoI_Fa z)⟩⟩
end QC
end
section
/-! the class's fresh cut; how many faces of a width -/
abbrev NI_ : Type := Nat → Int32
abbrev CT_ : Type := Int32 × Int32 × Int32 × NI_ × NI_ × NI_ × NI_ × NI_ × NI_ × NI_ × NI_ × NI_ × NI_ × NI_ × Int32 × Int32 × Int32 × Int32 × Int32 × Int32 × Int32 × Int32 × Int32 × Int32 × Int32 × Int32
abbrev MT_ : Type := Int32 × Int32 × Int32 × NI_ × NI_ × NI_ × (Nat → Int64) × (Nat → Int64) × (Nat → Int64)
/-- the cut is there -/
def cF_ (G : Nat → Wl_) (n d : Nat) (u : CT_) : Prop := u.1 = 1 ∧ u.2.2.2.1 0 = 0 ∧ ∃ fo li, u.2.1 = nI fo ∧ u.2.2.1 = nI li ∧ CU_ G n d fo li u.2.2.2.1 u.2.2.2.2.1 u.2.2.2.2.2.2.2.2.1 u.2.2.2.2.2.2.2.2.2.2.1 u.2.2.2.2.2.2.2.2.2.2.2.1 u.2.2.2.2.2.2.2.2.2.2.2.2.1 u.2.2.2.2.2.2.2.2.2.2.2.2.2.1
/-- the cut is there, or is to be made anew -/
def cI_ (G : Nat → Wl_) (n d : Nat) (u : CT_) : Prop := u.1 = 0 ∧ u.2.2.2.1 0 = 0 ∨ cF_ G n d u
def mI_ (G : Nat → Wl_) (n : Nat) (s : MT_) : Prop := s.1 = 0 → WF_ G n s.2.2.2.1
section FR
variable {va vb vc ve vth : Nat → Int32} {n d : Nat}
theorem f_freshCut (hP : PI_ (gC_ va vb vc ve) n) (hT : TH_ vth) {u : CT_} (hu : cI_ (gC_ va vb vc ve) n d u) : ∃ u' : CT_, fX5_freshCut (nI d) (nI n) u.1 u.2.1 u.2.2.1 va vb vc ve vth u.2.2.2.1 u.2.2.2.2.1 u.2.2.2.2.2.1 u.2.2.2.2.2.2.1 u.2.2.2.2.2.2.2.1 u.2.2.2.2.2.2.2.2.1 u.2.2.2.2.2.2.2.2.2.1 u.2.2.2.2.2.2.2.2.2.2.1 u.2.2.2.2.2.2.2.2.2.2.2.1 u.2.2.2.2.2.2.2.2.2.2.2.2.1 u.2.2.2.2.2.2.2.2.2.2.2.2.2.1 u.2.2.2.2.2.2.2.2.2.2.2.2.2.2.1 u.2.2.2.2.2.2.2.2.2.2.2.2.2.2.2.1 u.2.2.2.2.2.2.2.2.2.2.2.2.2.2.2.2.1 u.2.2.2.2.2.2.2.2.2.2.2.2.2.2.2.2.2.1 u.2.2.2.2.2.2.2.2.2.2.2.2.2.2.2.2.2.2.1 u.2.2.2.2.2.2.2.2.2.2.2.2.2.2.2.2.2.2.2.1 u.2.2.2.2.2.2.2.2.2.2.2.2.2.2.2.2.2.2.2.2.1 u.2.2.2.2.2.2.2.2.2.2.2.2.2.2.2.2.2.2.2.2.2.1 u.2.2.2.2.2.2.2.2.2.2.2.2.2.2.2.2.2.2.2.2.2.2.1 u.2.2.2.2.2.2.2.2.2.2.2.2.2.2.2.2.2.2.2.2.2.2.2.1 u.2.2.2.2.2.2.2.2.2.2.2.2.2.2.2.2.2.2.2.2.2.2.2.2.1 u.2.2.2.2.2.2.2.2.2.2.2.2.2.2.2.2.2.2.2.2.2.2.2.2.2 = some u' ∧ cF_ (gC_ va vb vc ve) n d u' := by
  unfold fX5_freshCut
  rcases hu with ⟨h0, h1⟩ | hF
  · rw [if_pos h0]
    obtain ⟨fo, li, rk, cm, kx, ky, kz, mk, re, ro, wi, la, lb, a1, a2, a3, a4, a5, a6, a7, a8, a9, a10, a11, a12, e, hr, hC⟩ := f_cutAnew (d := d) (vcm := u.2.2.2.2.1) (vkx := u.2.2.2.2.2.1) (vky := u.2.2.2.2.2.2.1) (vkz := u.2.2.2.2.2.2.2.1) (vmk := u.2.2.2.2.2.2.2.2.1) (vre := u.2.2.2.2.2.2.2.2.2.1) (vro := u.2.2.2.2.2.2.2.2.2.2.1) (vwi := u.2.2.2.2.2.2.2.2.2.2.2.1) (vla := u.2.2.2.2.2.2.2.2.2.2.2.2.1) (vlb := u.2.2.2.2.2.2.2.2.2.2.2.2.2.1) hP hT h1 u.2.2.2.2.2.2.2.2.2.2.2.2.2.2.1 u.2.2.2.2.2.2.2.2.2.2.2.2.2.2.2.1 u.2.2.2.2.2.2.2.2.2.2.2.2.2.2.2.2.1 u.2.2.2.2.2.2.2.2.2.2.2.2.2.2.2.2.2.1 u.2.2.2.2.2.2.2.2.2.2.2.2.2.2.2.2.2.2.1 u.2.2.2.2.2.2.2.2.2.2.2.2.2.2.2.2.2.2.2.1 u.2.2.2.2.2.2.2.2.2.2.2.2.2.2.2.2.2.2.2.2.1 u.2.2.2.2.2.2.2.2.2.2.2.2.2.2.2.2.2.2.2.2.2.1 u.2.2.2.2.2.2.2.2.2.2.2.2.2.2.2.2.2.2.2.2.2.2.1 u.2.2.2.2.2.2.2.2.2.2.2.2.2.2.2.2.2.2.2.2.2.2.2.1 u.2.2.2.2.2.2.2.2.2.2.2.2.2.2.2.2.2.2.2.2.2.2.2.2.1 u.2.2.2.2.2.2.2.2.2.2.2.2.2.2.2.2.2.2.2.2.2.2.2.2.2
    rw [bind_yes e]
    exact ⟨_, rfl, rfl, hr, fo, li, rfl, rfl, hC⟩
  · rw [if_neg (by rw [hF.1]; decide)]
    exact ⟨u, rfl, hF⟩
end FR
/-- sums over what is marked -/
theorem sm_ct (p : Nat → Bool) (g : Nat → Nat) : ∀ N, fb_sm g (fb_ct p N) = fb_sm (fun r => if p r = true then g (fb_ct p r) else 0) N := by
  intro N
  induction N with
  | zero => rfl
  | succ N ih =>
    rw [fb_ct_succ, fb_sm_succ]
    cases e : p N with
    | false => simp; exact ih
    | true => simp only [if_true]; rw [fb_sm_succ, ih]
theorem ct_sm (p : Nat → Bool) : ∀ N, fb_ct p N = fb_sm (fun r => if p r = true then 1 else 0) N := by
  intro N
  induction N with
  | zero => rfl
  | succ N ih => rw [fb_ct_succ, fb_sm_succ, ih]
theorem ct_iN (P : Nat → Prop) : ∀ N, fb_ct (fun r => pb_ (P r)) N = fb_sm (fun r => iN_ (P r)) N := by
  intro N
  rw [ct_sm]
  refine fb_sm_cong (fun r _ => ?_)
  by_cases h : P r
  · rw [if_pos (pb_t.mpr h), iN_1 h]
  · rw [if_neg (fun q => h (pb_t.mp q)), iN_0 h]
theorem rk_d {G : Nat → Wl_} {n d : Nat} (hI : MI_ G n d) {h : Nat} (hh : h < 2 ^ n) : rk_ (hS_ G h) ≤ d := by
  obtain ⟨_, hd1, hd, _, _, hz, _⟩ := hI
  have z : ∀ x, hS_ G h x → ∀ j, j < 3 → d ≤ j → cf_ j x = 0 := by
    rintro x ⟨k, hk, rfl⟩ j hj hdj
    exact hz k (lt_bit hh hk) j hj hdj
  have h3 := rk_le3 (hS_ G h)
  rcases (show d = 3 ∨ d = 2 ∨ d = 1 by omega) with rfl | rfl | rfl
  · exact h3
  · refine Classical.byContradiction fun q => ?_
    obtain ⟨x, y, w, hx, hy, hw, hd⟩ := rk_inv3 (show rk_ (hS_ G h) = 3 by omega)
    apply hd
    have a := z x hx 2 (by decide) (by decide)
    have b := z y hy 2 (by decide) (by decide)
    have c := z w hw 2 (by decide) (by decide)
    simp only [cf_] at a b c
    simp at a b c
    simp only [dt_, dr_, cx_, a, b, c]
    grind
  · refine Classical.byContradiction fun q => ?_
    have hR2 : R2_ (hS_ G h) := by
      rcases (show rk_ (hS_ G h) = 3 ∨ rk_ (hS_ G h) = 2 by omega) with w | w
      · exact R3_R2 (rk_inv3 w)
      · exact (rk_inv2 w).1
    obtain ⟨x, y, hx, hy, hc⟩ := hR2
    apply hc
    have a := z x hx 2 (by decide) (by decide)
    have b := z y hy 2 (by decide) (by decide)
    have a' := z x hx 1 (by decide) (by decide)
    have b' := z y hy 1 (by decide) (by decide)
    simp only [cf_] at a b a' b'
    simp at a b a' b'
    simp only [cx_, a, b, a', b', o3_, Prod.mk.injEq]
    refine ⟨?_, ?_, ?_⟩ <;> grind
theorem Wd_in {G : Nat → Wl_} {n d : Nat} (hI : MI_ G n d) {r : Nat} {w : Int32} (h : Wd_ G n d r w) : ∃ j, j ≤ d ∧ w = nI j := by
  obtain ⟨hF, rfl⟩ := h
  have := rk_d hI (hS_row hI.1 (Fa_lt hF))
  exact ⟨d - rk_ (hS_ G (mk_ 8 r 1)), by omega, pk_sub this⟩
theorem Wd_vw {G : Nat → Wl_} {n d : Nat} (hI : MI_ G n d) {r : Nat} (hr : r < 2 ^ 31) {w : Int32} (hw : w ≠ -1) : vw_ G n d (nI r) = w ↔ Wd_ G n d r w := by
  unfold vw_ Wd_
  by_cases h : FaI_ G n (nI r)
  · rw [ci2_t h, nI_clamp hr]
    exact ⟨fun e => ⟨(FaI_nI hI.1 hr).mp h, e⟩, fun e => e.2⟩
  · rw [ci2_f h]
    exact ⟨fun e => absurd e.symm hw, fun e => absurd ((FaI_nI hI.1 hr).mpr e.1) h⟩
noncomputable def vf_ (G : Nat → Wl_) (n d : Nat) (w : Int32) : Int32 := ci2_ (w < 0 ∨ nI d < w) (-1) (nI (fb_sm (fun r => iN_ (Wd_ G n d r w)) (3 ^ n)))
theorem sm_iN_le (P : Nat → Prop) : ∀ N, fb_sm (fun r => iN_ (P r)) N ≤ N := by
  intro N
  induction N with
  | zero => exact Nat.le_refl _
  | succ N ih =>
    have := iN_le (P N)
    rw [fb_sm_succ]
    omega
section FW
variable {wl : Nat → Int32} {n d : Nat}
theorem m_faces (hI : MI_ (gM_ wl) n d) {s : MT_} (hs : mI_ (gM_ wl) n s) (w : Int32) : ∃ s' : MT_, fX6_faces (nI d) (nI n) s.1 s.2.1 s.2.2.1 wl s.2.2.2.1 s.2.2.2.2.1 s.2.2.2.2.2.1 s.2.2.2.2.2.2.1 s.2.2.2.2.2.2.2.1 s.2.2.2.2.2.2.2.2 w = some (vf_ (gM_ wl) n d w, s') ∧ mI_ (gM_ wl) n s' := by
  have hn := hI.1
  have hd := hI.2.2.1
  have h3 := p3_6561 hn
  unfold fX6_faces fX6_in vf_
  by_cases h0 : w < 0
  · rw [if_pos h0, Option.bind_some, if_pos rfl, ci2_t (Or.inl h0)]
    exact ⟨s, rfl, hs⟩
  · rw [if_neg h0]
    by_cases h1 : nI d < w
    · rw [if_pos h1, Option.bind_some, if_pos rfl, ci2_t (Or.inr h1)]
      exact ⟨s, rfl, hs⟩
    · rw [if_neg h1, Option.bind_some, if_neg (show ¬ (1 : Int32) = 0 by decide), ci2_f (fun q => by rcases q with q | q; exact h0 q; exact h1 q)]
      have hw : w ≠ -1 := fun q => h0 (by rw [q]; decide)
      have hlp := lp_for (body := fun (st : (Int32 × Int32 × MT_)) => fX6_faces_L18 (nI n) (nI d) wl w st.1 st.2.1 st.2.2.1 st.2.2.2.1 st.2.2.2.2.1 st.2.2.2.2.2.1 st.2.2.2.2.2.2.1 st.2.2.2.2.2.2.2.1 st.2.2.2.2.2.2.2.2.1 st.2.2.2.2.2.2.2.2.2.1 st.2.2.2.2.2.2.2.2.2.2)
        (fun r st => st.1 = nI r ∧ st.2.1 = nI (fb_sm (fun r => iN_ (Wd_ (gM_ wl) n d r w)) r) ∧ mI_ (gM_ wl) n st.2.2)
        (fun st => st.2.1 = nI (fb_sm (fun r => iN_ (Wd_ (gM_ wl) n d r w)) (3 ^ n)) ∧ mI_ (gM_ wl) n st.2.2) (3 ^ n) (by omega) (s := ((0 : Int32), (0 : Int32), s)) ⟨rfl, rfl, hs⟩ ?_ ?_
      · obtain ⟨⟨i, x, s'⟩, e1, e2, e3⟩ := hlp
        dsimp only at e2 e3
        subst e2
        refine ⟨s', ?_, e3⟩
        rw [bind_yes e1]
      · rintro r ⟨i, x, t⟩ hr ⟨e1, e2, e3⟩
        dsimp only at e1 e2 e3 ⊢
        subst e1 e2
        left
        unfold fX6_faces_L18
        obtain ⟨od', sm', nm', w', ev', ne', su', nx', ta', e, hW⟩ := m_width hI e3 t.2.1 t.2.2.1 t.2.2.2.2.1 t.2.2.2.2.2.1 t.2.2.2.2.2.2.1 t.2.2.2.2.2.2.2.1 t.2.2.2.2.2.2.2.2 (nI r)
        rw [bind_yes (f_power (by omega)), if_neg (nI_ge hr (by omega)), bind_yes e]
        dsimp only
        by_cases q : vw_ (gM_ wl) n d (nI r) = w
        · rw [if_pos q]
          refine ⟨_, rfl, nI_1 r, ?_, hW⟩
          rw [fb_sm_succ, iN_1 ((Wd_vw hI (by omega) hw).mp q)]
          exact nI_1 _
        · rw [if_neg q]
          refine ⟨_, rfl, nI_1 r, ?_, hW⟩
          rw [fb_sm_succ, iN_0 (fun z => q ((Wd_vw hI (by omega) hw).mpr z))]
          exact nI_add _ 0
      · rintro ⟨i, x, t⟩ ⟨e1, e2, e3⟩
        dsimp only at e1 e2 e3 ⊢
        subst e1 e2
        unfold fX6_faces_L18
        rw [bind_yes (f_power (by omega)), if_pos (nI_le (Nat.le_refl _) (by omega))]
        exact ⟨_, rfl, rfl, e3⟩
end FW
section FC
variable {G : Nat → Wl_} {n d fo li : Nat} {rk cm mk ro wi la lb : Nat → Int32}
theorem f_countOf (hfo : fo ≤ 577) (w : Int32) : fX1_countOfWidth (nI fo) wi w = some (nI (fb_ct (fun i => decide (wi i = w)) fo)) := by
  unfold fX1_countOfWidth
  refine bind_yes (a := (nI fo, nI (fb_ct (fun i => decide (wi i = w)) fo))) ?_
  refine lp_seq (body := fun (st : (Int32 × Int32)) => fX1_countOfWidth_L4 (nI fo) wi w st.1 st.2) (fun k => (nI k, nI (fb_ct (fun i => decide (wi i = w)) k))) fo (by omega) ?_ ?_
  · intro k hk
    show fX1_countOfWidth_L4 (nI fo) wi w (nI k) _ = _
    unfold fX1_countOfWidth_L4
    rw [if_neg (nI_ge hk (by omega)), ck_yes (in_R_nI (show k < 577 by omega) (by decide)), nI_clamp (by omega), nI_1]
    by_cases q : wi k = w
    · rw [if_pos q, nI_1]; simp [fb_ct_succ, q]
    · rw [if_neg q]; simp [fb_ct_succ, q]
  · show fX1_countOfWidth_L4 (nI fo) wi w (nI fo) _ = _
    unfold fX1_countOfWidth_L4
    rw [if_pos (nI_le (Nat.le_refl _) (by omega))]
/-- widths in the order of the rows -/
theorem ct_W (hC : CU_ G n d fo li rk cm mk ro wi la lb) (w : Int32) : ∀ r, r ≤ 6561 → fb_ct (fun i => decide (wi i = w)) (fb_ct (mkd_ mk) r) = fb_ct (fun r => pb_ (Wd_ G n d r w)) r := by
  intro r
  induction r with
  | zero => intro _; rfl
  | succ r ih =>
    intro hr
    have ihr := ih (by omega)
    have hm := hC.1 r (by omega)
    rw [fb_ct_succ (mkd_ mk), fb_ct_succ (fun r => pb_ (Wd_ G n d r w))]
    cases e : mkd_ mk r with
    | false =>
      have : pb_ (Wd_ G n d r w) = false := pb_f.mpr (fun q => by rw [hm.mpr q.1] at e; cases e)
      simp only [this, Bool.false_eq_true, if_false, Nat.add_zero]
      exact ihr
    | true =>
      simp only [if_true]
      rw [fb_ct_succ, ihr]
      congr 1
      have hw := (hC.2.2.2.1 r (by omega) e).2
      by_cases q : Wd_ G n d r w
      · rw [pb_t.mpr q, if_pos (decide_eq_true (by rw [hw]; exact q.2))]; rfl
      · rw [pb_f.mpr q, if_neg (fun z => q ⟨hm.mp e, by rw [← hw]; exact of_decide_eq_true z⟩)]; rfl
theorem ct_W_all (hn : n ≤ 8) (hC : CU_ G n d fo li rk cm mk ro wi la lb) (w : Int32) : fb_ct (fun i => decide (wi i = w)) fo = fb_sm (fun r => iN_ (Wd_ G n d r w)) (3 ^ n) := by
  have h3 := p3_6561 hn
  have e := ct_W hC w 6561 (Nat.le_refl _)
  rw [← hC.2.1] at e
  rw [e, show 6561 = 3 ^ n + (6561 - 3 ^ n) by omega, fb_ct_split, ← ct_iN]
  have : fb_ct (fun k => pb_ (Wd_ G n d (3 ^ n + k) w)) (6561 - 3 ^ n) = 0 := fb_ct_zero.mpr (fun k _ => pb_f.mpr (fun q => by have := Fa_lt q.1; omega))
  omega
end FC
section FX
variable {va vb vc ve vth : Nat → Int32} {n d : Nat}
theorem c_faces (hP : PI_ (gC_ va vb vc ve) n) (hT : TH_ vth) {u : CT_} (hu : cI_ (gC_ va vb vc ve) n d u) (w : Int32) : ∃ u' : CT_, fX5_faces (nI d) (nI n) u.1 u.2.1 u.2.2.1 va vb vc ve vth u.2.2.2.1 u.2.2.2.2.1 u.2.2.2.2.2.1 u.2.2.2.2.2.2.1 u.2.2.2.2.2.2.2.1 u.2.2.2.2.2.2.2.2.1 u.2.2.2.2.2.2.2.2.2.1 u.2.2.2.2.2.2.2.2.2.2.1 u.2.2.2.2.2.2.2.2.2.2.2.1 u.2.2.2.2.2.2.2.2.2.2.2.2.1 u.2.2.2.2.2.2.2.2.2.2.2.2.2.1 u.2.2.2.2.2.2.2.2.2.2.2.2.2.2.1 u.2.2.2.2.2.2.2.2.2.2.2.2.2.2.2.1 u.2.2.2.2.2.2.2.2.2.2.2.2.2.2.2.2.1 u.2.2.2.2.2.2.2.2.2.2.2.2.2.2.2.2.2.1 u.2.2.2.2.2.2.2.2.2.2.2.2.2.2.2.2.2.2.1 u.2.2.2.2.2.2.2.2.2.2.2.2.2.2.2.2.2.2.2.1 u.2.2.2.2.2.2.2.2.2.2.2.2.2.2.2.2.2.2.2.2.1 u.2.2.2.2.2.2.2.2.2.2.2.2.2.2.2.2.2.2.2.2.2.1 u.2.2.2.2.2.2.2.2.2.2.2.2.2.2.2.2.2.2.2.2.2.2.1 u.2.2.2.2.2.2.2.2.2.2.2.2.2.2.2.2.2.2.2.2.2.2.2.1 u.2.2.2.2.2.2.2.2.2.2.2.2.2.2.2.2.2.2.2.2.2.2.2.2.1 u.2.2.2.2.2.2.2.2.2.2.2.2.2.2.2.2.2.2.2.2.2.2.2.2.2 w = some (vf_ (gC_ va vb vc ve) n d w, u') ∧ cI_ (gC_ va vb vc ve) n d u' := by
  unfold fX5_faces vf_
  by_cases h0 : w < 0
  · rw [if_pos h0, ci2_t (Or.inl h0)]
    exact ⟨u, rfl, hu⟩
  · rw [if_neg h0]
    by_cases h1 : nI d < w
    · rw [if_neg (fun q => by
        rw [Int32.le_iff_toInt_le] at q
        rw [Int32.lt_iff_toInt_lt] at h1
        omega), ci2_t (Or.inr h1)]
      exact ⟨u, rfl, hu⟩
    · rw [if_pos (by
        rw [Int32.le_iff_toInt_le]
        rw [Int32.lt_iff_toInt_lt] at h1
        omega), ci2_f (fun q => by rcases q with q | q; exact h0 q; exact h1 q)]
      obtain ⟨u', e, hF⟩ := f_freshCut hP hT hu
      obtain ⟨h5, h6, fo, li, h7, h8, hC⟩ := hF
      rw [bind_yes e, h7, bind_yes (f_countOf hC.2.2.1 w), ct_W_all hP.1 hC w, ← h7]
      exact ⟨u', rfl, Or.inr ⟨h5, h6, fo, li, h7, h8, hC⟩⟩
theorem c_width (hP : PI_ (gC_ va vb vc ve) n) (hT : TH_ vth) {u : CT_} (hu : cI_ (gC_ va vb vc ve) n d u) (p : Int32) : ∃ u' : CT_, fX5_width (nI d) (nI n) u.1 u.2.1 u.2.2.1 va vb vc ve vth u.2.2.2.1 u.2.2.2.2.1 u.2.2.2.2.2.1 u.2.2.2.2.2.2.1 u.2.2.2.2.2.2.2.1 u.2.2.2.2.2.2.2.2.1 u.2.2.2.2.2.2.2.2.2.1 u.2.2.2.2.2.2.2.2.2.2.1 u.2.2.2.2.2.2.2.2.2.2.2.1 u.2.2.2.2.2.2.2.2.2.2.2.2.1 u.2.2.2.2.2.2.2.2.2.2.2.2.2.1 u.2.2.2.2.2.2.2.2.2.2.2.2.2.2.1 u.2.2.2.2.2.2.2.2.2.2.2.2.2.2.2.1 u.2.2.2.2.2.2.2.2.2.2.2.2.2.2.2.2.1 u.2.2.2.2.2.2.2.2.2.2.2.2.2.2.2.2.2.1 u.2.2.2.2.2.2.2.2.2.2.2.2.2.2.2.2.2.2.1 u.2.2.2.2.2.2.2.2.2.2.2.2.2.2.2.2.2.2.2.1 u.2.2.2.2.2.2.2.2.2.2.2.2.2.2.2.2.2.2.2.2.1 u.2.2.2.2.2.2.2.2.2.2.2.2.2.2.2.2.2.2.2.2.2.1 u.2.2.2.2.2.2.2.2.2.2.2.2.2.2.2.2.2.2.2.2.2.2.1 u.2.2.2.2.2.2.2.2.2.2.2.2.2.2.2.2.2.2.2.2.2.2.2.1 u.2.2.2.2.2.2.2.2.2.2.2.2.2.2.2.2.2.2.2.2.2.2.2.2.1 u.2.2.2.2.2.2.2.2.2.2.2.2.2.2.2.2.2.2.2.2.2.2.2.2.2 p = some (vw_ (gC_ va vb vc ve) n d p, u') ∧ cI_ (gC_ va vb vc ve) n d u' := by
  unfold fX5_width vw_
  have hn := hP.1
  obtain ⟨u', e, hF⟩ := f_freshCut hP hT hu
  obtain ⟨h5, h6, fo, li, h7, h8, hC⟩ := hF
  obtain ⟨x, e2, hy⟩ := f_hasFace hn hC p
  rw [bind_yes e, bind_yes e2]
  rcases hy with ⟨rfl, hFa⟩ | ⟨rfl, hFa⟩
  · rw [ci2_t hFa]
    obtain ⟨r, rfl, hFa⟩ := hFa
    have h3 := p3_6561 hn
    have hr := Fa_lt hFa
    have hm := hS_row hn hr
    have h2n : 2 ^ n ≤ 256 := Nat.pow_le_pow_right (n := 2) (j := 8) (by decide) hn
    rw [if_neg (by decide), show (1 : Int32) = nI 1 from rfl, bind_yes (f_maskOf (by omega) (by decide)), ck_yes (in_R_nI (show mk_ 8 r 1 < 256 by omega) (by decide)), nI_clamp (by omega), nI_clamp (by omega), hC.2.2.2.2.1 _ hm]
    exact ⟨u', rfl, Or.inr ⟨h5, h6, fo, li, h7, h8, hC⟩⟩
  · rw [ci2_f hFa, if_pos rfl]
    exact ⟨u', rfl, Or.inr ⟨h5, h6, fo, li, h7, h8, hC⟩⟩
end FX
end
section
/-! how many bits: the JDK's way -/
theorem by_4 (x m : Nat) (hx : x < 2 ^ 32) : x &&& m = (x % 256 &&& m % 256) + 256 * (x / 256 % 256 &&& m / 256 % 256) + 65536 * (x / 65536 % 256 &&& m / 65536 % 256) + 16777216 * (x / 16777216 &&& m / 16777216) := by
  have step : ∀ a b : Nat, a &&& b = (a % 256 &&& b % 256) + 256 * (a / 256 &&& b / 256) := by
    intro a b
    have h1 := Nat.and_mod_two_pow (a := a) (b := b) (n := 8)
    have h2 := Nat.and_div_two_pow (a := a) (b := b) (n := 8)
    have h3 := Nat.mod_add_div (a &&& b) 256
    simp only [show (2 : Nat) ^ 8 = 256 from rfl] at h1 h2
    rw [h1, h2] at h3
    exact h3.symm
  rw [step x m, step (x / 256) (m / 256), step (x / 256 / 256) (m / 256 / 256)]
  simp only [Nat.div_div_eq_div_mul, show 256 * 256 = 65536 from rfl, show 65536 * 256 = 16777216 from rfl]
  omega
theorem dig_4 {y a b c d : Nat} (h : y = a + 256 * b + 65536 * c + 16777216 * d) (ha : a < 256) (hb : b < 256) (hc : c < 256) : y % 256 = a ∧ y / 256 % 256 = b ∧ y / 65536 % 256 = c ∧ y / 16777216 = d := by omega
theorem ar_x {h0 l0 h1 l1 h2 l2 h3 l3 x : Nat} (a0 : l0 ≤ 4) (a1 : l1 ≤ 4) (a2 : l2 ≤ 4) (a3 : l3 ≤ 4) (b0 : h0 ≤ 4) (b1 : h1 ≤ 4) (b2 : h2 ≤ 4) (b3 : h3 ≤ 4) (hx : x = (16 * h0 + l0) + 256 * (16 * h1 + l1) + 65536 * (16 * h2 + l2) + 16777216 * (16 * h3 + l3)) : x / 16 = h0 + 16 * l1 + 256 * h1 + 4096 * l2 + 65536 * h2 + 1048576 * l3 + 16777216 * h3 := by omega
theorem ar_3 {c0 c1 c2 c3 x : Nat} (hx : x = c0 + 256 * c1 + 65536 * c2 + 16777216 * c3) (k0 : c0 % 16 ≤ 4 ∧ c0 / 16 ≤ 4) (k1 : c1 % 16 ≤ 4 ∧ c1 / 16 ≤ 4) (k2 : c2 % 16 ≤ 4 ∧ c2 / 16 ≤ 4) (k3 : c3 % 16 ≤ 4 ∧ c3 / 16 ≤ 4) :
    (x + x / 16) % 256 = c0 + c0 / 16 + 16 * (c1 % 16) ∧ (x + x / 16) / 256 % 256 = c1 + c1 / 16 + 16 * (c2 % 16) ∧ (x + x / 16) / 65536 % 256 = c2 + c2 / 16 + 16 * (c3 % 16) ∧ (x + x / 16) / 16777216 = c3 + c3 / 16 := by
  have e0 := Nat.div_add_mod c0 16
  have e1 := Nat.div_add_mod c1 16
  have e2 := Nat.div_add_mod c2 16
  have e3 := Nat.div_add_mod c3 16
  generalize c0 / 16 = h0 at *
  generalize c0 % 16 = l0 at *
  generalize c1 / 16 = h1 at *
  generalize c1 % 16 = l1 at *
  generalize c2 / 16 = h2 at *
  generalize c2 % 16 = l2 at *
  generalize c3 / 16 = h3 at *
  generalize c3 % 16 = l3 at *
  rw [← e0, ← e1, ← e2, ← e3] at hx
  rw [ar_x k0.1 k1.1 k2.1 k3.1 k0.2 k1.2 k2.2 k3.2 hx]
  refine dig_4 ?_ (by omega) (by omega) (by omega)
  rw [hx]
  omega
theorem ar_4 {p0 p1 p2 p3 : Nat} (c0 : p0 ≤ 8) (c1 : p1 ≤ 8) (c2 : p2 ≤ 8) (c3 : p3 ≤ 8) :
    (p0 + 256 * p1 + 65536 * p2 + 16777216 * p3 + (p0 + 256 * p1 + 65536 * p2 + 16777216 * p3) / 2 ^ 8 + (p0 + 256 * p1 + 65536 * p2 + 16777216 * p3 + (p0 + 256 * p1 + 65536 * p2 + 16777216 * p3) / 2 ^ 8) / 2 ^ 16) % 2 ^ 6 = p0 + p1 + p2 + p3 := by
  have e1 : (p0 + 256 * p1 + 65536 * p2 + 16777216 * p3) / 2 ^ 8 = p1 + 256 * p2 + 65536 * p3 := by omega
  rw [e1]
  have e2 : (p0 + 256 * p1 + 65536 * p2 + 16777216 * p3 + (p1 + 256 * p2 + 65536 * p3)) / 2 ^ 16 = p2 + 256 * p3 + p3 := by omega
  rw [e2]
  omega
def pf1_ (b : Nat) : Nat := b - (b / 2 &&& 85)
def pf2_ (c : Nat) : Nat := (c &&& 51) + (c / 4 &&& 51)
def pf3_ (e : Nat) : Nat := (e + e / 16) % 16
theorem pt_1 : ∀ b : Fin 256, ∀ t : Fin 2, (b.val / 2 + 128 * t.val) &&& 85 = b.val / 2 &&& 85 := by decide +kernel
theorem pt_1l : ∀ b : Fin 256, (b.val / 2 &&& 85) ≤ b.val ∧ pf1_ b.val < 256 := by decide +kernel
theorem pt_2 : ∀ b : Fin 256, ∀ t : Fin 4, (b.val / 4 + 64 * t.val) &&& 51 = b.val / 4 &&& 51 := by decide +kernel
theorem pt_3 : ∀ b : Fin 256, pf2_ (pf1_ b.val) % 16 ≤ 4 ∧ pf2_ (pf1_ b.val) / 16 ≤ 4 := by decide +kernel
theorem pt_4 : ∀ b : Fin 256, pf3_ (pf2_ (pf1_ b.val)) = fb_ct (fun k => b.val.testBit k) 8 := by decide +kernel
theorem pt_5 : ∀ b : Fin 256, b.val &&& 15 = b.val % 16 := by decide +kernel
theorem bit_at (m i j : Nat) (hj : j < 8) : m.testBit (8 * i + j) = (m / 2 ^ (8 * i) % 256).testBit j := by
  rw [show (256 : Nat) = 2 ^ 8 from rfl, Nat.testBit_mod_two_pow, Nat.testBit_div_two_pow]
  simp [hj, Nat.add_comm]
theorem f_bitCount {m : Nat} (hm : m < 2 ^ 32) : fJ6_bitCount_0f7a4 (nI m) = some (nI (fb_ct (fun k => m.testBit k) 32)) := by
  obtain ⟨b0, h0⟩ : ∃ b, b = m % 256 := ⟨_, rfl⟩
  obtain ⟨b1, h1⟩ : ∃ b, b = m / 256 % 256 := ⟨_, rfl⟩
  obtain ⟨b2, h2⟩ : ∃ b, b = m / 65536 % 256 := ⟨_, rfl⟩
  obtain ⟨b3, h3⟩ : ∃ b, b = m / 16777216 := ⟨_, rfl⟩
  have l0 : b0 < 256 := by omega
  have l1 : b1 < 256 := by omega
  have l2 : b2 < 256 := by omega
  have l3 : b3 < 256 := by omega
  have hmb : m = b0 + 256 * b1 + 65536 * b2 + 16777216 * b3 := by omega
  have hct : fb_ct (fun k => m.testBit k) 32 = fb_ct (fun k => b0.testBit k) 8 + fb_ct (fun k => b1.testBit k) 8 + fb_ct (fun k => b2.testBit k) 8 + fb_ct (fun k => b3.testBit k) 8 := by
    rw [show 32 = 8 + (8 + (8 + 8)) from rfl, fb_ct_split, fb_ct_split, fb_ct_split]
    have e0 : fb_ct (fun k => m.testBit k) 8 = fb_ct (fun k => b0.testBit k) 8 := fb_ct_cong (fun k hk => by have := bit_at m 0 k hk; simp at this; rw [this, h0])
    have e1 : fb_ct (fun k => m.testBit (8 + k)) 8 = fb_ct (fun k => b1.testBit k) 8 := fb_ct_cong (fun k hk => by have := bit_at m 1 k hk; simp at this; rw [this, h1])
    have e2 : fb_ct (fun k => m.testBit (8 + (8 + k))) 8 = fb_ct (fun k => b2.testBit k) 8 := fb_ct_cong (fun k hk => by
      have := bit_at m 2 k hk
      rw [show 8 + (8 + k) = 8 * 2 + k by omega, this, h2])
    have e3 : fb_ct (fun k => m.testBit (8 + (8 + (8 + k)))) 8 = fb_ct (fun k => b3.testBit k) 8 := fb_ct_cong (fun k hk => by
      have := bit_at m 3 k hk
      rw [show 8 + (8 + (8 + k)) = 8 * 3 + k by omega, this, h3, Nat.mod_eq_of_lt (by omega)])
    rw [e0, e1, e2, e3]; omega
  have q0 := pt_1l ⟨b0, l0⟩
  have q1 := pt_1l ⟨b1, l1⟩
  have q2 := pt_1l ⟨b2, l2⟩
  have q3 := pt_1l ⟨b3, l3⟩
  dsimp only at q0 q1 q2 q3
  -- the first step
  have s1 : nI m - (((nI m).toUInt32 >>> ((1 : Int32).toUInt32 &&& Int32.toUInt32 31)).toInt32 &&& (1431655765 : Int32)) = nI (pf1_ b0 + 256 * pf1_ b1 + 65536 * pf1_ b2 + 16777216 * pf1_ b3) := by
    rw [pk_ushrN hm 1 1 (by decide), show (1431655765 : Int32) = nI 1431655765 from rfl, nI_and, by_4 _ _ (by omega)]
    have a0 : m / 2 ^ 1 % 256 = b0 / 2 + 128 * (b1 % 2) := by omega
    have a1 : m / 2 ^ 1 / 256 % 256 = b1 / 2 + 128 * (b2 % 2) := by omega
    have a2 : m / 2 ^ 1 / 65536 % 256 = b2 / 2 + 128 * (b3 % 2) := by omega
    have a3 : m / 2 ^ 1 / 16777216 = b3 / 2 := by omega
    rw [a0, a1, a2, a3]
    have t0 := pt_1 ⟨b0, l0⟩ ⟨b1 % 2, by omega⟩
    have t1 := pt_1 ⟨b1, l1⟩ ⟨b2 % 2, by omega⟩
    have t2 := pt_1 ⟨b2, l2⟩ ⟨b3 % 2, by omega⟩
    dsimp only at t0 t1 t2
    simp only [show 1431655765 % 256 = 85 from rfl, show 1431655765 / 256 % 256 = 85 from rfl, show 1431655765 / 65536 % 256 = 85 from rfl, show 1431655765 / 16777216 = 85 from rfl, t0, t1, t2]
    rw [pk_sub (by omega)]
    unfold pf1_
    congr 1
    omega
  have g0 : pf1_ b0 < 256 := q0.2
  have g1 : pf1_ b1 < 256 := q1.2
  have g2 : pf1_ b2 < 256 := q2.2
  have g3 : pf1_ b3 < 256 := q3.2
  have s2 : ∀ c0 c1 c2 c3 : Nat, c0 < 256 → c1 < 256 → c2 < 256 → c3 < 256 → (nI (c0 + 256 * c1 + 65536 * c2 + 16777216 * c3) &&& (858993459 : Int32)) + (((nI (c0 + 256 * c1 + 65536 * c2 + 16777216 * c3)).toUInt32 >>> ((2 : Int32).toUInt32 &&& Int32.toUInt32 31)).toInt32 &&& (858993459 : Int32)) = nI (pf2_ c0 + 256 * pf2_ c1 + 65536 * pf2_ c2 + 16777216 * pf2_ c3) := by
    intro c0 c1 c2 c3 k0 k1 k2 k3
    obtain ⟨x, hx⟩ : ∃ x, x = c0 + 256 * c1 + 65536 * c2 + 16777216 * c3 := ⟨_, rfl⟩
    rw [← hx, pk_ushrN (by omega) 2 2 (by decide), show (858993459 : Int32) = nI 858993459 from rfl, nI_and, nI_and, by_4 x _ (by omega), by_4 (x / 2 ^ 2) _ (by omega)]
    have a0 : x / 2 ^ 2 % 256 = c0 / 4 + 64 * (c1 % 4) := by omega
    have a1 : x / 2 ^ 2 / 256 % 256 = c1 / 4 + 64 * (c2 % 4) := by omega
    have a2 : x / 2 ^ 2 / 65536 % 256 = c2 / 4 + 64 * (c3 % 4) := by omega
    have a3 : x / 2 ^ 2 / 16777216 = c3 / 4 := by omega
    have d0 : x % 256 = c0 := by omega
    have d1 : x / 256 % 256 = c1 := by omega
    have d2 : x / 65536 % 256 = c2 := by omega
    have d3 : x / 16777216 = c3 := by omega
    rw [a0, a1, a2, a3, d0, d1, d2, d3]
    have t0 := pt_2 ⟨c0, k0⟩ ⟨c1 % 4, by omega⟩
    have t1 := pt_2 ⟨c1, k1⟩ ⟨c2 % 4, by omega⟩
    have t2 := pt_2 ⟨c2, k2⟩ ⟨c3 % 4, by omega⟩
    dsimp only at t0 t1 t2
    simp only [show 858993459 % 256 = 51 from rfl, show 858993459 / 256 % 256 = 51 from rfl, show 858993459 / 65536 % 256 = 51 from rfl, show 858993459 / 16777216 = 51 from rfl, t0, t1, t2]
    rw [nI_add]
    unfold pf2_
    congr 1
    omega
  have s3 : ∀ c0 c1 c2 c3 : Nat, (c0 % 16 ≤ 4 ∧ c0 / 16 ≤ 4) → (c1 % 16 ≤ 4 ∧ c1 / 16 ≤ 4) → (c2 % 16 ≤ 4 ∧ c2 / 16 ≤ 4) → (c3 % 16 ≤ 4 ∧ c3 / 16 ≤ 4) → (nI (c0 + 256 * c1 + 65536 * c2 + 16777216 * c3) + ((nI (c0 + 256 * c1 + 65536 * c2 + 16777216 * c3)).toUInt32 >>> ((4 : Int32).toUInt32 &&& Int32.toUInt32 31)).toInt32) &&& (252645135 : Int32) = nI (pf3_ c0 + 256 * pf3_ c1 + 65536 * pf3_ c2 + 16777216 * pf3_ c3) := by
    intro c0 c1 c2 c3 k0 k1 k2 k3
    obtain ⟨x, hx⟩ : ∃ x, x = c0 + 256 * c1 + 65536 * c2 + 16777216 * c3 := ⟨_, rfl⟩
    rw [← hx, pk_ushrN (by omega) 4 4 (by decide), nI_add, show (252645135 : Int32) = nI 252645135 from rfl, nI_and, by_4 _ _ (by omega)]
    obtain ⟨d0, d1, d2, d3⟩ := ar_3 hx k0 k1 k2 k3
    rw [show (2 : Nat) ^ 4 = 16 from rfl]
    rw [d0, d1, d2, d3]
    have t0 := pt_5 ⟨c0 + c0 / 16 + 16 * (c1 % 16), by omega⟩
    have t1 := pt_5 ⟨c1 + c1 / 16 + 16 * (c2 % 16), by omega⟩
    have t2 := pt_5 ⟨c2 + c2 / 16 + 16 * (c3 % 16), by omega⟩
    have t3 := pt_5 ⟨c3 + c3 / 16, by omega⟩
    dsimp only at t0 t1 t2 t3
    rw [show 252645135 % 256 = 15 from rfl, show 252645135 / 16777216 = 15 from rfl, t0, t1, t2, t3, Nat.add_mul_mod_self_left, Nat.add_mul_mod_self_left, Nat.add_mul_mod_self_left]
    rfl
  have z0 := pt_3 ⟨b0, l0⟩
  have z1 := pt_3 ⟨b1, l1⟩
  have z2 := pt_3 ⟨b2, l2⟩
  have z3 := pt_3 ⟨b3, l3⟩
  have w0 := pt_4 ⟨b0, l0⟩
  have w1 := pt_4 ⟨b1, l1⟩
  have w2 := pt_4 ⟨b2, l2⟩
  have w3 := pt_4 ⟨b3, l3⟩
  dsimp only at z0 z1 z2 z3 w0 w1 w2 w3
  unfold fJ6_bitCount_0f7a4
  dsimp only [nm_]
  rw [s1, s2 _ _ _ _ g0 g1 g2 g3, s3 _ _ _ _ z0 z1 z2 z3, w0, w1, w2, w3]
  have c0 := fb_ct_le (fun k => b0.testBit k) 8
  have c1 := fb_ct_le (fun k => b1.testBit k) 8
  have c2 := fb_ct_le (fun k => b2.testBit k) 8
  have c3 := fb_ct_le (fun k => b3.testBit k) 8
  rw [hct]
  generalize fb_ct (fun k => b0.testBit k) 8 = p0 at *
  generalize fb_ct (fun k => b1.testBit k) 8 = p1 at *
  generalize fb_ct (fun k => b2.testBit k) 8 = p2 at *
  generalize fb_ct (fun k => b3.testBit k) 8 = p3 at *
  clear s1 s2 s3 z0 z1 z2 z3 w0 w1 w2 w3 q0 q1 q2 q3 g0 g1 g2 g3 hmb h0 h1 h2 h3
  rw [pk_ushrN (by omega) 8 8 (by decide), nI_add, pk_ushrN (by omega) 16 16 (by decide), nI_add, pk_andN (m := 63) (by omega) 6 (by decide), ar_4 c0 c1 c2 c3]
end
section
/-! the i-th face; rooms, walls of a room, ways -/
abbrev MU_ : Type := Int32 × Int32 × Int32 × NI_ × NI_ × NI_ × (Nat → Int64) × (Nat → Int64)
def mJ_ (G : Nat → Wl_) (n : Nat) (s : MU_) : Prop := s.1 = 0 → WF_ G n s.2.2.2.1
/-- the row of the i-th face of a width -/
def vF_ (G : Nat → Wl_) (n d : Nat) (w i x : Int32) : Prop :=
  (∃ r, Wd_ G n d r w ∧ i = nI (fb_ct (fun r => pb_ (Wd_ G n d r w)) r) ∧ x = nI r) ∨ (¬ ∃ r, Wd_ G n d r w ∧ i = nI (fb_ct (fun r => pb_ (Wd_ G n d r w)) r)) ∧ x = -1
theorem vF_one {G : Nat → Wl_} {n d : Nat} (hn : n ≤ 8) {w i x y : Int32} (hx : vF_ G n d w i x) (hy : vF_ G n d w i y) : x = y := by
  have h3 := p3_6561 hn
  rcases hx with ⟨r, h1, h2, rfl⟩ | ⟨h1, rfl⟩
  · rcases hy with ⟨r', g1, g2, rfl⟩ | ⟨g1, rfl⟩
    · have hr := Fa_lt h1.1
      have hr' := Fa_lt g1.1
      have a := fb_ct_le (fun r => pb_ (Wd_ G n d r w)) r
      have b := fb_ct_le (fun r => pb_ (Wd_ G n d r w)) r'
      have e := (nI_eq (by omega) (by omega)).mp (h2.symm.trans g2)
      rw [fb_ct_kth_one (p := fun r => pb_ (Wd_ G n d r w)) (pb_t.mpr h1) (pb_t.mpr g1) e]
    · exact absurd ⟨r, h1, h2⟩ g1
  · rcases hy with ⟨r', g1, g2, rfl⟩ | ⟨g1, rfl⟩
    · exact absurd ⟨r', g1, g2⟩ h1
    · rfl
section FA
variable {wl : Nat → Int32} {n d : Nat}
theorem m_face (hI : MI_ (gM_ wl) n d) {s : MT_} (hs : mI_ (gM_ wl) n s) (w i : Int32) : ∃ x, ∃ s' : MT_, fX6_face (nI d) (nI n) s.1 s.2.1 s.2.2.1 wl s.2.2.2.1 s.2.2.2.2.1 s.2.2.2.2.2.1 s.2.2.2.2.2.2.1 s.2.2.2.2.2.2.2.1 s.2.2.2.2.2.2.2.2 w i = some (x, s') ∧ vF_ (gM_ wl) n d w i x ∧ mI_ (gM_ wl) n s' := by
  have hn := hI.1
  have hd := hI.2.2.1
  have h3 := p3_6561 hn
  unfold fX6_face fX6_in
  by_cases h0 : w < 0
  · rw [if_pos h0, Option.bind_some, if_pos rfl]
    refine ⟨_, s, rfl, Or.inr ⟨?_, rfl⟩, hs⟩
    rintro ⟨r, h1, _⟩
    obtain ⟨j, hj, rfl⟩ := Wd_in hI h1
    exact nI_pos (by omega) h0
  · rw [if_neg h0]
    by_cases h1 : nI d < w
    · rw [if_pos h1, Option.bind_some, if_pos rfl]
      refine ⟨_, s, rfl, Or.inr ⟨?_, rfl⟩, hs⟩
      rintro ⟨r, h2, _⟩
      obtain ⟨j, hj, rfl⟩ := Wd_in hI h2
      exact nI_nlt hj (by omega) h1
    · rw [if_neg h1, Option.bind_some, if_neg (show ¬ (1 : Int32) = 0 by decide)]
      have hw : w ≠ -1 := fun q => h0 (by rw [q]; decide)
      by_cases h2 : 0 ≤ i
      · rw [if_pos h2]
        have h2' : ¬ i < 0 := fun q => by
          rw [Int32.lt_iff_toInt_lt] at q
          rw [Int32.le_iff_toInt_le] at h2
          omega
        obtain ⟨i0, hi0, rfl⟩ := nI_of h2'
        have hlp := lp_for (body := fun (st : (Int32 × Int32 × MT_)) => fX6_face_L23 (nI n) (nI d) wl w st.1 st.2.1 st.2.2.1 st.2.2.2.1 st.2.2.2.2.1 st.2.2.2.2.2.1 st.2.2.2.2.2.2.1 st.2.2.2.2.2.2.2.1 st.2.2.2.2.2.2.2.2.1 st.2.2.2.2.2.2.2.2.2.1 st.2.2.2.2.2.2.2.2.2.2)
          (fun r st => st.1 = nI r ∧ fb_ct (fun r => pb_ (Wd_ (gM_ wl) n d r w)) r ≤ i0 ∧ st.2.1 = nI (i0 - fb_ct (fun r => pb_ (Wd_ (gM_ wl) n d r w)) r) ∧ mI_ (gM_ wl) n st.2.2)
          (fun u => ∃ x, ∃ s' : MT_, Sum.elim (fun (x20 : (Int32 × Int32 × MT_)) => some ((-1 : Int32), x20.2.2.1, x20.2.2.2.1, x20.2.2.2.2.1, x20.2.2.2.2.2.1, x20.2.2.2.2.2.2.1, x20.2.2.2.2.2.2.2.1, x20.2.2.2.2.2.2.2.2.1, x20.2.2.2.2.2.2.2.2.2.1, x20.2.2.2.2.2.2.2.2.2.2)) (fun y => some y) u = some (x, s') ∧ vF_ (gM_ wl) n d w (nI i0) x ∧ mI_ (gM_ wl) n s') (3 ^ n) (by omega) (s := ((0 : Int32), nI i0, s)) ⟨rfl, Nat.zero_le _, rfl, hs⟩ ?_ ?_
        · obtain ⟨u, e1, x, s', e2, e3, e4⟩ := hlp
          refine ⟨x, s', ?_, e3, e4⟩
          rw [bind_yes e1]
          exact e2
        · rintro r ⟨j, y, t⟩ hr ⟨e1, e2, e3, e4⟩
          dsimp only at e1 e2 e3 e4 ⊢
          subst e1 e3
          unfold fX6_face_L23
          obtain ⟨od', sm', nm', w', ev', ne', su', nx', ta', e, hW⟩ := m_width hI e4 t.2.1 t.2.2.1 t.2.2.2.2.1 t.2.2.2.2.2.1 t.2.2.2.2.2.2.1 t.2.2.2.2.2.2.2.1 t.2.2.2.2.2.2.2.2 (nI r)
          rw [bind_yes (f_power (by omega)), if_neg (nI_ge hr (by omega)), bind_yes e]
          dsimp only
          by_cases q : vw_ (gM_ wl) n d (nI r) = w
          · have hWd := (Wd_vw hI (by omega) hw).mp q
            rw [if_pos q]
            by_cases z : i0 = fb_ct (fun r => pb_ (Wd_ (gM_ wl) n d r w)) r
            · right
              rw [if_pos (by rw [← z, Nat.sub_self]; rfl)]
              exact ⟨_, rfl, _, _, rfl, Or.inl ⟨r, hWd, by rw [← z], rfl⟩, hW⟩
            · left
              have hc : fb_ct (fun r => pb_ (Wd_ (gM_ wl) n d r w)) (r + 1) = fb_ct (fun r => pb_ (Wd_ (gM_ wl) n d r w)) r + 1 := by rw [fb_ct_succ, pb_t.mpr hWd]; rfl
              rw [if_neg (nI_ne0 (by omega) (by omega))]
              refine ⟨_, rfl, nI_1 r, by rw [hc]; omega, ?_, hW⟩
              rw [hc]
              obtain ⟨m, hm⟩ : ∃ m, i0 - fb_ct (fun r => pb_ (Wd_ (gM_ wl) n d r w)) r = m + 1 := ⟨i0 - fb_ct (fun r => pb_ (Wd_ (gM_ wl) n d r w)) r - 1, by omega⟩
              dsimp only
              rw [hm, pk_m1]
              congr 1
              omega
          · left
            have hc : fb_ct (fun r => pb_ (Wd_ (gM_ wl) n d r w)) (r + 1) = fb_ct (fun r => pb_ (Wd_ (gM_ wl) n d r w)) r := by
              rw [fb_ct_succ, pb_f.mpr (fun z => q ((Wd_vw hI (by omega) hw).mpr z))]; simp
            rw [if_neg q]
            exact ⟨_, rfl, nI_1 r, by rw [hc]; exact e2, by rw [hc], hW⟩
        · rintro ⟨j, y, t⟩ ⟨e1, e2, e3, e4⟩
          dsimp only at e1 e2 e3 e4 ⊢
          subst e1 e3
          unfold fX6_face_L23
          rw [bind_yes (f_power (by omega)), if_pos (nI_le (Nat.le_refl _) (by omega))]
          refine ⟨_, rfl, _, t, rfl, Or.inr ⟨?_, rfl⟩, e4⟩
          rintro ⟨r, g1, g2⟩
          have hr := Fa_lt g1.1
          have m := fb_ct_mono (fun r => pb_ (Wd_ (gM_ wl) n d r w)) (show r + 1 ≤ 3 ^ n by omega)
          rw [fb_ct_succ] at m
          simp only [pb_t.mpr g1, if_true] at m
          have a := fb_ct_le (fun r => pb_ (Wd_ (gM_ wl) n d r w)) r
          have e := (nI_eq hi0 (by omega)).mp g2
          omega
      · rw [if_neg h2]
        refine ⟨_, s, rfl, Or.inr ⟨?_, rfl⟩, hs⟩
        rintro ⟨r, h4, h5⟩
        apply h2
        rw [h5]
        have hr := Fa_lt h4.1
        have a := fb_ct_le (fun r => pb_ (Wd_ (gM_ wl) n d r w)) r
        exact nI_pos' (by omega)
/-- rooms, with the state in one piece -/
theorem m_room (hI : MI_ (gM_ wl) n d) {s : MU_} (hs : mJ_ (gM_ wl) n s) (p : Int32) : ∃ x, ∃ s' : MU_, fX6_isRoom (nI d) (nI n) s.1 s.2.1 s.2.2.1 wl s.2.2.2.1 s.2.2.2.2.1 s.2.2.2.2.2.1 s.2.2.2.2.2.2.1 s.2.2.2.2.2.2.2 p = some (x, s') ∧ yn_ x (RoI_ (gM_ wl) n p) ∧ mJ_ (gM_ wl) n s' := by
  obtain ⟨x, od1, sm1, nm1, w1, ev1, ne1, su1, nx1, e, hy, hW⟩ := m_isRoom hI hs s.2.1 s.2.2.1 s.2.2.2.2.1 s.2.2.2.2.2.1 s.2.2.2.2.2.2.1 s.2.2.2.2.2.2.2 p
  exact ⟨x, (od1, sm1, nm1, w1, ev1, ne1, su1, nx1), e, hy, hW⟩
theorem m_faceQ (hI : MI_ (gM_ wl) n d) {s : MU_} (hs : mJ_ (gM_ wl) n s) (p : Int32) : ∃ x, ∃ s' : MU_, fX6_isFace (nI d) (nI n) s.1 s.2.1 s.2.2.1 wl s.2.2.2.1 s.2.2.2.2.1 s.2.2.2.2.2.1 s.2.2.2.2.2.2.1 s.2.2.2.2.2.2.2 p = some (x, s') ∧ yn_ x (FaI_ (gM_ wl) n p) ∧ mJ_ (gM_ wl) n s' := by
  obtain ⟨x, od1, sm1, nm1, w1, ev1, ne1, su1, nx1, e, hy, hW⟩ := m_isFace hI hs s.2.1 s.2.2.1 s.2.2.2.2.1 s.2.2.2.2.2.1 s.2.2.2.2.2.2.1 s.2.2.2.2.2.2.2 p
  exact ⟨x, (od1, sm1, nm1, w1, ev1, ne1, su1, nx1), e, hy, hW⟩
end FA
section FB
variable {G : Nat → Wl_} {n d fo li : Nat} {rk cm mk ro wi la lb : Nat → Int32}
theorem f_rowOf2 (hn : n ≤ 8) (hC : CU_ G n d fo li rk cm mk ro wi la lb) (w i : Int32) : ∃ x, fX1_rowOfWidth (nI fo) ro wi w i = some x ∧ vF_ G n d w i x := by
  have h577 := hC.2.2.1
  have h3 := p3_6561 hn
  -- the row at a place of the order
  have at_ : ∀ k, k < fo → ∃ r, r < 6561 ∧ mkd_ mk r = true ∧ fb_ct (mkd_ mk) r = k := by
    intro k hk
    rw [hC.2.1] at hk
    obtain ⟨r, h1, h2, h4⟩ := fb_ct_kth hk
    exact ⟨r, h1, h2, h4⟩
  unfold fX1_rowOfWidth
  have hlp := lp_for (body := fun (st : (Int32 × Int32)) => fX1_rowOfWidth_L5 (nI fo) wi w i ro st.1 st.2)
    (fun k st => st.1 = nI k ∧ st.2 = nI (fb_ct (fun i => decide (wi i = w)) k) ∧ ∀ k', k' < k → wi k' = w → i ≠ nI (fb_ct (fun i => decide (wi i = w)) k'))
    (fun u => ∃ x, Sum.elim (fun (x7 : (Int32 × Int32)) => some (-1 : Int32)) (fun y => some y) u = some x ∧ vF_ G n d w i x) fo (by omega) (s := ((0 : Int32), (0 : Int32))) ⟨rfl, rfl, fun k' hk => absurd hk (Nat.not_lt_zero k')⟩ ?_ ?_
  · obtain ⟨u, e1, x, e2, e3⟩ := hlp
    refine ⟨x, ?_, e3⟩
    rw [bind_yes e1]; exact e2
  · rintro k ⟨j, y⟩ hk ⟨e1, e2, e3⟩
    dsimp only at e1 e2 e3 ⊢
    subst e1 e2
    unfold fX1_rowOfWidth_L5
    rw [if_neg (nI_ge hk (by omega)), ck_yes (in_R_nI (show k < 577 by omega) (by decide)), ck_yes (in_R_nI (show k < 577 by omega) (by decide)), nI_clamp (by omega), nI_1]
    by_cases q : wi k = w
    · rw [if_pos q]
      by_cases z : nI (fb_ct (fun i => decide (wi i = w)) k) = i
      · right
        rw [if_pos z]
        refine ⟨_, rfl, _, rfl, Or.inl ?_⟩
        obtain ⟨r, hr, hm, hc⟩ := at_ k hk
        obtain ⟨hro, hwi⟩ := hC.2.2.2.1 r hr hm
        rw [hc] at hro hwi
        refine ⟨r, ⟨(hC.1 r hr).mp hm, by rw [← hwi]; exact q⟩, ?_, hro⟩
        rw [← z, ← ct_W hC w r (by omega), hc]
      · left
        rw [if_neg z, nI_1]
        refine ⟨_, rfl, rfl, by rw [fb_ct_succ, if_pos (decide_eq_true q)], fun k' hk' hw' => ?_⟩
        rcases (show k' < k ∨ k' = k by omega) with c | rfl
        · exact e3 k' c hw'
        · exact fun c => z c.symm
    · left
      rw [if_neg q]
      refine ⟨_, rfl, rfl, by rw [fb_ct_succ, if_neg (fun c => q (of_decide_eq_true c))]; rfl, fun k' hk' hw' => ?_⟩
      rcases (show k' < k ∨ k' = k by omega) with c | rfl
      · exact e3 k' c hw'
      · exact absurd hw' q
  · rintro ⟨j, y⟩ ⟨e1, e2, e3⟩
    dsimp only at e1 e2 e3 ⊢
    subst e1 e2
    unfold fX1_rowOfWidth_L5
    rw [if_pos (nI_le (Nat.le_refl _) (by omega))]
    refine ⟨_, rfl, _, rfl, Or.inr ⟨?_, rfl⟩⟩
    rintro ⟨r, g1, g2⟩
    have hr := Fa_lt g1.1
    have hm := (hC.1 r (by omega)).mpr g1.1
    have hwi := (hC.2.2.2.1 r (by omega) hm).2
    have hlt : fb_ct (mkd_ mk) r < fo := by
      have m := fb_ct_mono (mkd_ mk) (show r + 1 ≤ 6561 by omega)
      rw [fb_ct_succ, hm] at m
      simp only [if_true] at m
      rw [hC.2.1]; omega
    refine e3 _ hlt (by rw [hwi]; exact g1.2) ?_
    rw [ct_W hC w r (by omega)]; exact g2
end FB
section FD
variable {va vb vc ve vth : Nat → Int32} {n d : Nat}
theorem c_face (hP : PI_ (gC_ va vb vc ve) n) (hT : TH_ vth) {u : CT_} (hu : cI_ (gC_ va vb vc ve) n d u) (w i : Int32) : ∃ x, ∃ u' : CT_, fX5_face (nI d) (nI n) u.1 u.2.1 u.2.2.1 va vb vc ve vth u.2.2.2.1 u.2.2.2.2.1 u.2.2.2.2.2.1 u.2.2.2.2.2.2.1 u.2.2.2.2.2.2.2.1 u.2.2.2.2.2.2.2.2.1 u.2.2.2.2.2.2.2.2.2.1 u.2.2.2.2.2.2.2.2.2.2.1 u.2.2.2.2.2.2.2.2.2.2.2.1 u.2.2.2.2.2.2.2.2.2.2.2.2.1 u.2.2.2.2.2.2.2.2.2.2.2.2.2.1 u.2.2.2.2.2.2.2.2.2.2.2.2.2.2.1 u.2.2.2.2.2.2.2.2.2.2.2.2.2.2.2.1 u.2.2.2.2.2.2.2.2.2.2.2.2.2.2.2.2.1 u.2.2.2.2.2.2.2.2.2.2.2.2.2.2.2.2.2.1 u.2.2.2.2.2.2.2.2.2.2.2.2.2.2.2.2.2.2.1 u.2.2.2.2.2.2.2.2.2.2.2.2.2.2.2.2.2.2.2.1 u.2.2.2.2.2.2.2.2.2.2.2.2.2.2.2.2.2.2.2.2.1 u.2.2.2.2.2.2.2.2.2.2.2.2.2.2.2.2.2.2.2.2.2.1 u.2.2.2.2.2.2.2.2.2.2.2.2.2.2.2.2.2.2.2.2.2.2.1 u.2.2.2.2.2.2.2.2.2.2.2.2.2.2.2.2.2.2.2.2.2.2.2.1 u.2.2.2.2.2.2.2.2.2.2.2.2.2.2.2.2.2.2.2.2.2.2.2.2.1 u.2.2.2.2.2.2.2.2.2.2.2.2.2.2.2.2.2.2.2.2.2.2.2.2.2 w i = some (x, u') ∧ vF_ (gC_ va vb vc ve) n d w i x ∧ cI_ (gC_ va vb vc ve) n d u' := by
  unfold fX5_face
  obtain ⟨u', e, hF⟩ := f_freshCut hP hT hu
  obtain ⟨h5, h6, fo, li, h7, h8, hC⟩ := hF
  obtain ⟨x, e2, hx⟩ := f_rowOf2 hP.1 hC w i
  rw [← h7] at e2
  rw [bind_yes e, bind_yes e2]
  exact ⟨x, u', rfl, hx, Or.inr ⟨h5, h6, fo, li, h7, h8, hC⟩⟩
end FD
end
section
/-! rooms: walls of a room, beside, ways, steps -/
/-- the row with the other sign at a wall -/
def xr_ (r k : Nat) : Nat := if dg_ r k = 0 then r + 2 * 3 ^ k else r - 2 * 3 ^ k
theorem dg2_le {r k : Nat} (h : dg_ r k = 2) : 2 * 3 ^ k ≤ r := by
  unfold dg_ at h
  have : 2 ≤ r / 3 ^ k := by have := Nat.mod_le (r / 3 ^ k) 3; omega
  exact (Nat.le_div_iff_mul_le (Nat.pow_pos (by decide))).mp this
theorem xr_lt {r k : Nat} (hr : r < 6561) (hk : k < 8) : xr_ r k < 100000 := by
  have : 3 ^ k ≤ 3 ^ 8 := Nat.pow_le_pow_right (by decide) (by omega)
  unfold xr_
  split <;> omega
theorem f_across {r k : Nat} (hr : r < 6561) (hk : k < 8) (h1 : dg_ r k ≠ 1) : fX5_across (nI r) (nI k) = some (nI (xr_ r k)) := by
  have h3 : 3 ^ k ≤ 3 ^ 8 := Nat.pow_le_pow_right (by decide) (by omega)
  have h3p : 0 < 3 ^ k := Nat.pow_pos (by decide)
  have hle := dg_le r k
  unfold fX5_across
  rw [if_neg (nI_pos (by omega)), if_pos (show nI k < 8 from nI_lt (a := k) (b := 8) hk (by decide)), ck_yes (in_R_nI hk (by decide)), ck_yes (in_R_nI hk (by decide)), nI_clamp (by omega)]
  unfold pw_
  rw [ck_yes (nI_ne0 h3p (by omega)), pk_div (by omega) h3p (by omega), show (3 : Int32) = nI 3 from rfl, pk_rem (Nat.lt_of_le_of_lt (Nat.div_le_self _ _) (by omega)) (by decide) (by decide), show (2 : Int32) = nI 2 from rfl, pk_mul, nI_add]
  show (if nI (dg_ r k) = 0 then _ else _) = _
  unfold xr_
  by_cases q : dg_ r k = 0
  · rw [if_pos (by rw [q]; rfl), if_pos q]
  · rw [if_neg (nI_ne0 (by omega) (by omega)), if_neg q, pk_sub (dg2_le (by omega))]
theorem m_across {r k : Nat} (hr : r < 6561) (hk : k < 8) (h1 : dg_ r k ≠ 1) : fX6_across (nI r) (nI k) = some (nI (xr_ r k)) := by
  have h3 : 3 ^ k ≤ 3 ^ 8 := Nat.pow_le_pow_right (by decide) (by omega)
  have hle := dg_le r k
  unfold fX6_across
  rw [bind_yes (f_power (by omega)), bind_yes (f_sign (by omega) (by omega))]
  unfold xr_
  rcases (show dg_ r k = 0 ∨ dg_ r k = 2 by omega) with q | q
  · rw [q, if_pos rfl]
    have : (2 : Int32) - (2 : Int32) * nI 0 = nI 2 := by decide
    rw [this, pk_mul, nI_add, Nat.mul_comm]
  · rw [q, if_neg (by decide)]
    have : (2 : Int32) - (2 : Int32) * nI 2 = iI_ (-2) := by decide
    have h2 := dg2_le q
    rw [this, ← iI_nat, ← iI_nat, iI_mul, iI_add, ← iI_nat]
    congr 2
    omega
/-- the walls of a room, as bits -/
noncomputable def wm_ (G : Nat → Wl_) (n r : Nat) : Nat := bn_ (fun k => pb_ (Ro_ G n (xr_ r k))) n
noncomputable def vW_ (G : Nat → Wl_) (n : Nat) (p : Int32) : Int32 := ci2_ (RoI_ G n p) (nI (wm_ G n p.toNatClampNeg)) (-1)
noncomputable def vB_ (G : Nat → Wl_) (n : Nat) (p q : Int32) : Int32 := ci2_ (RoI_ G n p ∧ (∃ k, k < n ∧ q = nI k) ∧ Ro_ G n (xr_ p.toNatClampNeg q.toNatClampNeg)) (nI (xr_ p.toNatClampNeg q.toNatClampNeg)) (-1)
/-- the walls that part two rows -/
def pt_ (n r r' : Nat) : Nat := bn_ (fun k => !decide (dg_ r k = dg_ r' k)) n
noncomputable def vY_ (G : Nat → Wl_) (n : Nat) (p q : Int32) : Int32 := ci2_ (RoI_ G n p ∧ RoI_ G n q) (nI (fb_ct (fun k => (pt_ n p.toNatClampNeg q.toNatClampNeg).testBit k) 8)) (-1)
/-- the least bit -/
def fs_ (n m : Nat) (x : Int32) : Prop := (∃ k, k < n ∧ m.testBit k = true ∧ (∀ j, j < k → m.testBit j = false) ∧ x = nI k) ∨ (∀ k, k < n → m.testBit k = false) ∧ x = -1
theorem fs_one {n m : Nat} {x y : Int32} (hx : fs_ n m x) (hy : fs_ n m y) : x = y := by
  rcases hx with ⟨k, k1, k2, k3, rfl⟩ | ⟨h, rfl⟩
  · rcases hy with ⟨j, j1, j2, j3, rfl⟩ | ⟨h', rfl⟩
    · rcases (show k < j ∨ k = j ∨ j < k by omega) with q | rfl | q
      · rw [j3 k q] at k2; cases k2
      · rfl
      · rw [k3 j q] at j2; cases j2
    · rw [h' k k1] at k2; cases k2
  · rcases hy with ⟨j, j1, j2, j3, rfl⟩ | ⟨h', rfl⟩
    · rw [h j j1] at j2; cases j2
    · rfl
def vS_ (G : Nat → Wl_) (n : Nat) (p q x : Int32) : Prop := (RoI_ G n p ∧ RoI_ G n q) ∧ fs_ n (pt_ n p.toNatClampNeg q.toNatClampNeg &&& wm_ G n p.toNatClampNeg) x ∨ ¬ (RoI_ G n p ∧ RoI_ G n q) ∧ x = -1
theorem vS_one {G : Nat → Wl_} {n : Nat} {p q x y : Int32} (hx : vS_ G n p q x) (hy : vS_ G n p q y) : x = y := by
  rcases hx with ⟨h1, h2⟩ | ⟨h1, h2⟩
  · rcases hy with ⟨g1, g2⟩ | ⟨g1, g2⟩
    · exact fs_one h2 g2
    · exact absurd h1 g1
  · rcases hy with ⟨g1, g2⟩ | ⟨g1, g2⟩
    · exact absurd g1 h1
    · rw [h2, g2]
theorem m_bits {m : Nat} (hm : m < 2 ^ 31) : fX6_bits (nI m) = some (nI (fb_ct (fun k => m.testBit k) 8)) := by
  unfold fX6_bits
  refine bind_yes (a := (nI 8, nI (fb_ct (fun k => m.testBit k) 8))) ?_
  refine lp_seq (body := fun (st : (Int32 × Int32)) => fX6_bits_L4 (nI m) st.1 st.2) (fun k => (nI k, nI (fb_ct (fun k => m.testBit k) k))) 8 (by decide) ?_ ?_
  · intro k hk
    show fX6_bits_L4 (nI m) (nI k) _ = _
    unfold fX6_bits_L4
    rw [if_neg (show ¬ (8 : Int32) ≤ nI k from nI_ge (a := k) (b := 8) hk (by decide)), bit_t hm (by omega), nI_add, nI_1]
    rfl
  · show fX6_bits_L4 (nI m) (nI 8) _ = _
    unfold fX6_bits_L4
    rw [if_pos (show (8 : Int32) ≤ nI 8 by decide)]
theorem pop_8 {m : Nat} (hm : m < 256) : fb_ct (fun k => m.testBit k) 32 = fb_ct (fun k => m.testBit k) 8 := by
  rw [show 32 = 8 + 24 from rfl, fb_ct_split]
  have : fb_ct (fun k => m.testBit (8 + k)) 24 = 0 := fb_ct_zero.mpr (fun k _ => Nat.testBit_lt_two_pow (Nat.lt_of_lt_of_le hm (Nat.pow_le_pow_right (n := 2) (i := 8) (by decide) (by omega))))
  omega
theorem m_parted {n r r' : Nat} (hn : n ≤ 8) (hr : r < 2 ^ 31) (hr' : r' < 2 ^ 31) : fX6_parted (nI n) (nI r) (nI r') = some (nI (pt_ n r r')) := by
  unfold fX6_parted
  refine bind_yes (a := (nI n, nI (pt_ n r r'))) ?_
  refine lp_seq (body := fun (st : (Int32 × Int32)) => fX6_parted_L5 (nI n) (nI r) (nI r') st.1 st.2) (fun k => (nI k, nI (pt_ k r r'))) n (by omega) ?_ ?_
  · intro k hk
    show fX6_parted_L5 (nI n) (nI r) (nI r') (nI k) _ = _
    unfold fX6_parted_L5
    have a := dg_le r k
    have b := dg_le r' k
    rw [if_neg (nI_ge hk (by omega)), bind_yes (f_sign hr (by omega)), bind_yes (f_sign hr' (by omega)), nI_1]
    unfold pt_
    by_cases q : dg_ r k = dg_ r' k
    · rw [if_pos (by rw [q]), show (0 : Int32) = nI 0 from rfl, nI_or]
      simp [bn_, q]
    · rw [if_neg (fun z => q ((nI_eq (by omega) (by omega)).mp z)), sh_1 k (by omega), nI_or, or_add (bn_lt _ k)]
      simp [bn_, q]
  · show fX6_parted_L5 (nI n) (nI r) (nI r') (nI n) _ = _
    unfold fX6_parted_L5
    rw [if_pos (nI_le (Nat.le_refl n) (by omega))]
theorem c_parted {n r r' : Nat} (hn : n ≤ 8) (hr : r < 3 ^ n) (hr' : r' < 3 ^ n) (h1 : ∀ k, k < n → dg_ r k ≠ 1) (h1' : ∀ k, k < n → dg_ r' k ≠ 1) : fX5_parting (nI r) (nI r') = some (nI (pt_ n r r')) := by
  have h3 := p3_6561 hn
  rw [f_parting (by omega) (by omega), mk_dig hn hr (by decide), mk_dig hn hr' (by decide), bn_xor]
  congr 2
  unfold pt_
  refine bn_cg (fun k hk => ?_)
  have a := dg_le r k
  have b := dg_le r' k
  have c := h1 k hk
  have e := h1' k hk
  rcases (show dg_ r k = 0 ∨ dg_ r k = 2 by omega) with q | q <;> rcases (show dg_ r' k = 0 ∨ dg_ r' k = 2 by omega) with w | w <;> rw [q, w] <;> rfl
section WS
variable {G : Nat → Wl_} {n d fo li : Nat} {rk cm mk ro wi la lb : Nat → Int32}
theorem f_wallsOf (hn : n ≤ 8) (hC : CU_ G n d fo li rk cm mk ro wi la lb) {r : Nat} (hr : r < 6561) (h1 : ∀ k, k < n → dg_ r k ≠ 1) : fX1_wallsOf (nI n) mk (nI r) = some (nI (wm_ G n r)) := by
  unfold fX1_wallsOf
  refine bind_yes (a := (nI n, nI (wm_ G n r))) ?_
  refine lp_seq (body := fun (st : (Int32 × Int32)) => fX1_wallsOf_L4 (nI n) (nI r) mk st.1 st.2) (fun k => (nI k, nI (bn_ (fun k => pb_ (Ro_ G n (xr_ r k))) k))) n (by omega) ?_ ?_
  · intro k hk
    show fX1_wallsOf_L4 (nI n) (nI r) mk (nI k) _ = _
    unfold fX1_wallsOf_L4
    have hax := xr_lt hr (show k < 8 by omega)
    obtain ⟨x, e, hy⟩ := f_hasRoom hn hC (nI (xr_ r k))
    rw [if_neg (nI_ge hk (by omega)), bind_yes (f_across hr (by omega) (h1 k hk)), bind_yes e, nI_1]
    have hy' := yn_cg hy (RoI_nI hn (by omega))
    rcases hy' with ⟨rfl, q⟩ | ⟨rfl, q⟩
    · rw [if_neg (by decide), sh_1 k (by omega), nI_or, or_add (bn_lt _ k)]
      simp [bn_, pb_t.mpr q]
    · rw [if_pos rfl]
      simp [bn_, pb_f.mpr q]
  · show fX1_wallsOf_L4 (nI n) (nI r) mk (nI n) _ = _
    unfold fX1_wallsOf_L4
    rw [if_pos (nI_le (Nat.le_refl n) (by omega))]
    rfl
end WS
section WM
variable {wl : Nat → Int32} {n d : Nat}
theorem m_walls (hI : MI_ (gM_ wl) n d) {s : MU_} (hs : mJ_ (gM_ wl) n s) (p : Int32) : ∃ s' : MU_, fX6_walls (nI d) (nI n) s.1 s.2.1 s.2.2.1 wl s.2.2.2.1 s.2.2.2.2.1 s.2.2.2.2.2.1 s.2.2.2.2.2.2.1 s.2.2.2.2.2.2.2 p = some (vW_ (gM_ wl) n p, s') ∧ mJ_ (gM_ wl) n s' := by
  have hn := hI.1
  have h3 := p3_6561 hn
  unfold fX6_walls vW_
  obtain ⟨x, s1, e, hy, hs1⟩ := m_room hI hs p
  rw [bind_yes e]
  dsimp only
  rcases hy with ⟨rfl, hR⟩ | ⟨rfl, hR⟩
  · rw [ci2_t hR, if_neg (by decide)]
    obtain ⟨r, rfl, hR⟩ := hR
    have hr := Fa_lt hR.1
    rw [nI_clamp (by omega)]
    have hlp := lp_for (body := fun (st : (Int32 × Int32 × MU_)) => fX6_walls_L14 (nI n) (nI r) (nI d) wl st.1 st.2.1 st.2.2.1 st.2.2.2.1 st.2.2.2.2.1 st.2.2.2.2.2.1 st.2.2.2.2.2.2.1 st.2.2.2.2.2.2.2.1 st.2.2.2.2.2.2.2.2.1 st.2.2.2.2.2.2.2.2.2)
      (fun k st => st.1 = nI k ∧ st.2.1 = nI (bn_ (fun k => pb_ (Ro_ (gM_ wl) n (xr_ r k))) k) ∧ mJ_ (gM_ wl) n st.2.2)
      (fun st => st.2.1 = nI (wm_ (gM_ wl) n r) ∧ mJ_ (gM_ wl) n st.2.2) n (by omega) (s := ((0 : Int32), (0 : Int32), s1)) ⟨rfl, rfl, hs1⟩ ?_ ?_
    · obtain ⟨⟨i, y, s'⟩, e1, e2, e3⟩ := hlp
      dsimp only at e2 e3
      subst e2
      refine ⟨s', ?_, e3⟩
      rw [bind_yes e1]
    · rintro k ⟨i, y, t⟩ hk ⟨e1, e2, e3⟩
      dsimp only at e1 e2 e3 ⊢
      subst e1 e2
      left
      unfold fX6_walls_L14
      have hax := xr_lt (show r < 6561 by omega) (show k < 8 by omega)
      obtain ⟨x, t', e4, hy, ht⟩ := m_room hI e3 (nI (xr_ r k))
      rw [if_neg (nI_ge hk (by omega)), bind_yes (m_across (by omega) (by omega) (hR.2 k hk)), bind_yes e4]
      dsimp only
      have hy' := yn_cg hy (RoI_nI hn (by omega))
      rcases hy' with ⟨rfl, q⟩ | ⟨rfl, q⟩
      · rw [if_neg (by decide), sh_1 k (by omega), nI_or, or_add (bn_lt _ k)]
        refine ⟨_, rfl, nI_1 k, ?_, ht⟩
        simp [bn_, pb_t.mpr q]
      · rw [if_pos rfl, show (0 : Int32) = nI 0 from rfl, nI_or]
        refine ⟨_, rfl, nI_1 k, ?_, ht⟩
        simp [bn_, pb_f.mpr q]
    · rintro ⟨i, y, t⟩ ⟨e1, e2, e3⟩
      dsimp only at e1 e2 e3 ⊢
      subst e1 e2
      unfold fX6_walls_L14
      rw [if_pos (nI_le (Nat.le_refl n) (by omega))]
      exact ⟨_, rfl, rfl, e3⟩
  · rw [ci2_f hR, if_pos rfl]
    exact ⟨s1, rfl, hs1⟩
theorem m_beside (hI : MI_ (gM_ wl) n d) {s : MU_} (hs : mJ_ (gM_ wl) n s) (p q : Int32) : ∃ s' : MU_, fX6_beside (nI d) (nI n) s.1 s.2.1 s.2.2.1 wl s.2.2.2.1 s.2.2.2.2.1 s.2.2.2.2.2.1 s.2.2.2.2.2.2.1 s.2.2.2.2.2.2.2 p q = some (vB_ (gM_ wl) n p q, s') ∧ mJ_ (gM_ wl) n s' := by
  have hn := hI.1
  have h3 := p3_6561 hn
  unfold fX6_beside vB_
  obtain ⟨x, s1, e, hy, hs1⟩ := m_room hI hs p
  rw [bind_yes e]
  dsimp only
  rcases hy with ⟨rfl, hR⟩ | ⟨rfl, hR⟩
  · rw [if_neg (by decide)]
    have hR0 := hR
    obtain ⟨r, rfl, hR⟩ := hR
    have hr := Fa_lt hR.1
    rw [nI_clamp (show r < 2 ^ 31 by omega)]
    unfold fX6_in
    by_cases h0 : q < 0
    · rw [if_pos h0, Option.bind_some, if_pos rfl, ci2_f (fun w => by
        obtain ⟨_, ⟨k, hk, rfl⟩, _⟩ := w
        exact nI_pos (by omega) h0)]
      exact ⟨s1, rfl, hs1⟩
    · rw [if_neg h0]
      obtain ⟨k, hk, rfl⟩ := nI_of h0
      by_cases h1 : k < n
      · rw [if_neg (fun w => by
          rw [show nI n - (1 : Int32) = nI (n - 1) from sub_1 (by omega)] at w
          exact nI_nlt (show k ≤ n - 1 by omega) (by omega) w), Option.bind_some, if_neg (show ¬ (1 : Int32) = 0 by decide), bind_yes (m_across (by omega) (by omega) (hR.2 k h1)), nI_clamp (by omega)]
        have hax := xr_lt (show r < 6561 by omega) (show k < 8 by omega)
        obtain ⟨x, t', e4, hy, ht⟩ := m_room hI hs1 (nI (xr_ r k))
        rw [bind_yes e4]
        dsimp only
        have hy' := yn_cg hy (RoI_nI hn (by omega))
        rcases hy' with ⟨rfl, w⟩ | ⟨rfl, w⟩
        · rw [if_neg (by decide), ci2_t ⟨hR0, ⟨k, h1, rfl⟩, w⟩]
          exact ⟨t', rfl, ht⟩
        · rw [if_pos rfl, ci2_f (fun z => w z.2.2)]
          exact ⟨t', rfl, ht⟩
      · rw [if_pos (show nI n - (1 : Int32) < nI k by
          rw [Int32.lt_iff_toInt_lt, nI_toInt hk]
          have : (nI n - (1 : Int32)).toInt = (n : Int) - 1 := pk_sub_toInt (a := n) (b := 1) (by omega) (by decide)
          rw [this]
          omega), Option.bind_some, if_pos rfl, ci2_f (fun w => by
          obtain ⟨_, ⟨k', hk', e⟩, _⟩ := w
          have := (nI_eq hk (by omega)).mp e
          omega)]
        exact ⟨s1, rfl, hs1⟩
  · rw [if_pos rfl, ci2_f (fun w => hR w.1)]
    exact ⟨s1, rfl, hs1⟩
theorem m_way (hI : MI_ (gM_ wl) n d) {s : MU_} (hs : mJ_ (gM_ wl) n s) (p q : Int32) : ∃ s' : MU_, fX6_way (nI d) (nI n) s.1 s.2.1 s.2.2.1 wl s.2.2.2.1 s.2.2.2.2.1 s.2.2.2.2.2.1 s.2.2.2.2.2.2.1 s.2.2.2.2.2.2.2 p q = some (vY_ (gM_ wl) n p q, s') ∧ mJ_ (gM_ wl) n s' := by
  have hn := hI.1
  have h3 := p3_6561 hn
  unfold fX6_way vY_
  obtain ⟨x, s1, e, hy, hs1⟩ := m_room hI hs p
  rw [bind_yes e]
  dsimp only
  rcases hy with ⟨rfl, hR⟩ | ⟨rfl, hR⟩
  · obtain ⟨x, s2, e2, hy2, hs2⟩ := m_room hI hs1 q
    rw [if_neg (by decide), bind_yes e2]
    dsimp only
    rcases hy2 with ⟨rfl, hR2⟩ | ⟨rfl, hR2⟩
    · rw [if_neg (by decide), ci2_t ⟨hR, hR2⟩]
      obtain ⟨r, rfl, hR⟩ := hR
      obtain ⟨r', rfl, hR2⟩ := hR2
      have hr := Fa_lt hR.1
      have hr' := Fa_lt hR2.1
      have hpt := bn_lt8 (fun k => !decide (dg_ r k = dg_ r' k)) hn
      rw [nI_clamp (by omega), nI_clamp (by omega), bind_yes (m_parted hn (by omega) (by omega)), bind_yes (m_bits (show pt_ n r r' < 2 ^ 31 from Nat.lt_trans hpt (by decide)))]
      exact ⟨s2, rfl, hs2⟩
    · rw [if_pos rfl, ci2_f (fun z => hR2 z.2)]
      exact ⟨s2, rfl, hs2⟩
  · rw [if_pos rfl, ci2_f (fun z => hR z.1)]
    exact ⟨s1, rfl, hs1⟩
theorem m_step (hI : MI_ (gM_ wl) n d) {s : MU_} (hs : mJ_ (gM_ wl) n s) (p q : Int32) : ∃ x, ∃ s' : MU_, fX6_step (nI d) (nI n) s.1 s.2.1 s.2.2.1 wl s.2.2.2.1 s.2.2.2.2.1 s.2.2.2.2.2.1 s.2.2.2.2.2.2.1 s.2.2.2.2.2.2.2 p q = some (x, s') ∧ vS_ (gM_ wl) n p q x ∧ mJ_ (gM_ wl) n s' := by
  have hn := hI.1
  have h3 := p3_6561 hn
  unfold fX6_step
  obtain ⟨x, s1, e, hy, hs1⟩ := m_room hI hs p
  rw [bind_yes e]
  dsimp only
  rcases hy with ⟨rfl, hR⟩ | ⟨rfl, hR⟩
  · obtain ⟨x, s2, e2, hy2, hs2⟩ := m_room hI hs1 q
    rw [if_neg (by decide), bind_yes e2]
    dsimp only
    rcases hy2 with ⟨rfl, hR2⟩ | ⟨rfl, hR2⟩
    · rw [if_neg (by decide)]
      have hRR : RoI_ (gM_ wl) n p ∧ RoI_ (gM_ wl) n q := ⟨hR, hR2⟩
      obtain ⟨s3, e3, hs3⟩ := m_walls hI hs2 p
      have hv : vW_ (gM_ wl) n p = nI (wm_ (gM_ wl) n p.toNatClampNeg) := ci2_t hR
      rw [hv] at e3
      obtain ⟨r, rfl, hR⟩ := hR
      obtain ⟨r', rfl, hR2⟩ := hR2
      have hr := Fa_lt hR.1
      have hr' := Fa_lt hR2.1
      rw [nI_clamp (by omega)] at e3
      rw [bind_yes (m_parted hn (by omega) (by omega)), bind_yes e3]
      have hpt : pt_ n r r' < 256 := bn_lt8 _ hn
      have hand : pt_ n r r' &&& wm_ (gM_ wl) n r < 2 ^ 31 := Nat.lt_of_le_of_lt Nat.and_le_left (by omega)
      have hlp := lp_for (body := fun (st : Int32) => fX6_step_L34 (nI n) (nI (pt_ n r r')) (nI (wm_ (gM_ wl) n r), s3) st)
        (fun k st => st = nI k ∧ ∀ j, j < k → (pt_ n r r' &&& wm_ (gM_ wl) n r).testBit j = false)
        (fun u => ∃ x, ∃ s' : MU_, Sum.elim (fun (x16 : Int32) => some ((-1 : Int32), s3)) (fun y => some y) u = some (x, s') ∧ fs_ n (pt_ n r r' &&& wm_ (gM_ wl) n r) x ∧ mJ_ (gM_ wl) n s') n (by omega) (s := (0 : Int32)) ⟨rfl, fun j hj => absurd hj (Nat.not_lt_zero j)⟩ ?_ ?_
      · obtain ⟨u, g1, x, s', g2, g3, g4⟩ := hlp
        refine ⟨x, s', ?_, Or.inl ⟨hRR, by rw [nI_clamp (by omega), nI_clamp (by omega)]; exact g3⟩, g4⟩
        rw [bind_yes g1]; exact g2
      · rintro k st hk ⟨rfl, h5⟩
        unfold fX6_step_L34
        dsimp only
        rw [if_neg (nI_ge hk (by omega)), nI_and]
        have hb := bit_t1 hand (show k < 31 by omega)
        cases e : (pt_ n r r' &&& wm_ (gM_ wl) n r).testBit k with
        | false =>
          left
          rw [if_neg (fun w => by rw [hb.mp w] at e; cases e)]
          refine ⟨_, rfl, nI_1 k, fun j hj => ?_⟩
          rcases (show j < k ∨ j = k by omega) with w | rfl
          · exact h5 j w
          · exact e
        | true =>
          right
          rw [if_pos (hb.mpr e)]
          exact ⟨_, rfl, _, s3, rfl, Or.inl ⟨k, hk, e, h5, rfl⟩, hs3⟩
      · rintro st ⟨rfl, h5⟩
        unfold fX6_step_L34
        rw [if_pos (nI_le (Nat.le_refl n) (by omega))]
        exact ⟨_, rfl, _, s3, rfl, Or.inr ⟨h5, rfl⟩, hs3⟩
    · rw [if_pos rfl]
      exact ⟨_, s2, rfl, Or.inr ⟨fun z => hR2 z.2, rfl⟩, hs2⟩
  · rw [if_pos rfl]
    exact ⟨_, s1, rfl, Or.inr ⟨fun z => hR z.1, rfl⟩, hs1⟩
end WM
end
section
/-! rooms of the class; counts; the farthest way -/
section RC
variable {va vb vc ve vth : Nat → Int32} {n d : Nat}
theorem f_holds {p : Int32} (hn : n ≤ 8) : ∃ x, fX3_holds (nI n) p = some x ∧ yn_ x (∃ k, k < n ∧ p = nI k) := by
  unfold fX3_holds
  by_cases h0 : p < 0
  · rw [if_pos h0]
    exact ⟨_, rfl, Or.inr ⟨rfl, fun w => by
      obtain ⟨k, hk, rfl⟩ := w
      exact nI_pos (by omega) h0⟩⟩
  · rw [if_neg h0]
    obtain ⟨k, hk, rfl⟩ := nI_of h0
    by_cases h1 : k < n
    · rw [if_neg (nI_ge h1 (by omega))]
      exact ⟨_, rfl, Or.inl ⟨rfl, k, h1, rfl⟩⟩
    · rw [if_pos (nI_le (show n ≤ k by omega) hk)]
      exact ⟨_, rfl, Or.inr ⟨rfl, fun w => by
        obtain ⟨k', hk', e⟩ := w
        have := (nI_eq hk (by omega)).mp e
        omega⟩⟩
theorem c_walls (hP : PI_ (gC_ va vb vc ve) n) (hT : TH_ vth) {u : CT_} (hu : cI_ (gC_ va vb vc ve) n d u) (p : Int32) : ∃ u' : CT_, fX5_walls (nI d) (nI n) u.1 u.2.1 u.2.2.1 va vb vc ve vth u.2.2.2.1 u.2.2.2.2.1 u.2.2.2.2.2.1 u.2.2.2.2.2.2.1 u.2.2.2.2.2.2.2.1 u.2.2.2.2.2.2.2.2.1 u.2.2.2.2.2.2.2.2.2.1 u.2.2.2.2.2.2.2.2.2.2.1 u.2.2.2.2.2.2.2.2.2.2.2.1 u.2.2.2.2.2.2.2.2.2.2.2.2.1 u.2.2.2.2.2.2.2.2.2.2.2.2.2.1 u.2.2.2.2.2.2.2.2.2.2.2.2.2.2.1 u.2.2.2.2.2.2.2.2.2.2.2.2.2.2.2.1 u.2.2.2.2.2.2.2.2.2.2.2.2.2.2.2.2.1 u.2.2.2.2.2.2.2.2.2.2.2.2.2.2.2.2.2.1 u.2.2.2.2.2.2.2.2.2.2.2.2.2.2.2.2.2.2.1 u.2.2.2.2.2.2.2.2.2.2.2.2.2.2.2.2.2.2.2.1 u.2.2.2.2.2.2.2.2.2.2.2.2.2.2.2.2.2.2.2.2.1 u.2.2.2.2.2.2.2.2.2.2.2.2.2.2.2.2.2.2.2.2.2.1 u.2.2.2.2.2.2.2.2.2.2.2.2.2.2.2.2.2.2.2.2.2.2.1 u.2.2.2.2.2.2.2.2.2.2.2.2.2.2.2.2.2.2.2.2.2.2.2.1 u.2.2.2.2.2.2.2.2.2.2.2.2.2.2.2.2.2.2.2.2.2.2.2.2.1 u.2.2.2.2.2.2.2.2.2.2.2.2.2.2.2.2.2.2.2.2.2.2.2.2.2 p = some (vW_ (gC_ va vb vc ve) n p, u') ∧ cI_ (gC_ va vb vc ve) n d u' := by
  unfold fX5_walls vW_
  have hn := hP.1
  have h3 := p3_6561 hn
  obtain ⟨u', e, hF⟩ := f_freshCut hP hT hu
  obtain ⟨h5, h6, fo, li, h7, h8, hC⟩ := hF
  obtain ⟨x, e2, hy⟩ := f_hasRoom hn hC p
  rw [bind_yes e, bind_yes e2]
  rcases hy with ⟨rfl, hR⟩ | ⟨rfl, hR⟩
  · rw [if_neg (by decide), ci2_t hR]
    obtain ⟨r, rfl, hR⟩ := hR
    have hr := Fa_lt hR.1
    rw [bind_yes (f_wallsOf hn hC (by omega) hR.2), nI_clamp (by omega)]
    exact ⟨u', rfl, Or.inr ⟨h5, h6, fo, li, h7, h8, hC⟩⟩
  · rw [if_pos rfl, ci2_f hR]
    exact ⟨u', rfl, Or.inr ⟨h5, h6, fo, li, h7, h8, hC⟩⟩
theorem c_beside (hP : PI_ (gC_ va vb vc ve) n) (hT : TH_ vth) {u : CT_} (hu : cI_ (gC_ va vb vc ve) n d u) (p q : Int32) : ∃ u' : CT_, fX5_beside (nI d) (nI n) u.1 u.2.1 u.2.2.1 va vb vc ve vth u.2.2.2.1 u.2.2.2.2.1 u.2.2.2.2.2.1 u.2.2.2.2.2.2.1 u.2.2.2.2.2.2.2.1 u.2.2.2.2.2.2.2.2.1 u.2.2.2.2.2.2.2.2.2.1 u.2.2.2.2.2.2.2.2.2.2.1 u.2.2.2.2.2.2.2.2.2.2.2.1 u.2.2.2.2.2.2.2.2.2.2.2.2.1 u.2.2.2.2.2.2.2.2.2.2.2.2.2.1 u.2.2.2.2.2.2.2.2.2.2.2.2.2.2.1 u.2.2.2.2.2.2.2.2.2.2.2.2.2.2.2.1 u.2.2.2.2.2.2.2.2.2.2.2.2.2.2.2.2.1 u.2.2.2.2.2.2.2.2.2.2.2.2.2.2.2.2.2.1 u.2.2.2.2.2.2.2.2.2.2.2.2.2.2.2.2.2.2.1 u.2.2.2.2.2.2.2.2.2.2.2.2.2.2.2.2.2.2.2.1 u.2.2.2.2.2.2.2.2.2.2.2.2.2.2.2.2.2.2.2.2.1 u.2.2.2.2.2.2.2.2.2.2.2.2.2.2.2.2.2.2.2.2.2.1 u.2.2.2.2.2.2.2.2.2.2.2.2.2.2.2.2.2.2.2.2.2.2.1 u.2.2.2.2.2.2.2.2.2.2.2.2.2.2.2.2.2.2.2.2.2.2.2.1 u.2.2.2.2.2.2.2.2.2.2.2.2.2.2.2.2.2.2.2.2.2.2.2.2.1 u.2.2.2.2.2.2.2.2.2.2.2.2.2.2.2.2.2.2.2.2.2.2.2.2.2 p q = some (vB_ (gC_ va vb vc ve) n p q, u') ∧ cI_ (gC_ va vb vc ve) n d u' := by
  unfold fX5_beside vB_
  have hn := hP.1
  have h3 := p3_6561 hn
  obtain ⟨u', e, hF⟩ := f_freshCut hP hT hu
  obtain ⟨h5, h6, fo, li, h7, h8, hC⟩ := hF
  have hU : cI_ (gC_ va vb vc ve) n d u' := Or.inr ⟨h5, h6, fo, li, h7, h8, hC⟩
  obtain ⟨y, e3, hy3⟩ := f_holds (p := q) hn
  obtain ⟨x, e2, hy⟩ := f_hasRoom hn hC p
  rw [bind_yes e, bind_yes e3]
  rcases hy3 with ⟨rfl, hq⟩ | ⟨rfl, hq⟩
  · rw [if_neg (by decide), bind_yes e2]
    rcases hy with ⟨rfl, hR⟩ | ⟨rfl, hR⟩
    · rw [if_neg (by decide)]
      have hR0 := hR
      have hq0 := hq
      obtain ⟨r, rfl, hR⟩ := hR
      obtain ⟨k, hk, rfl⟩ := hq
      have hr := Fa_lt hR.1
      have hax := xr_lt (show r < 6561 by omega) (show k < 8 by omega)
      obtain ⟨z, e4, hz⟩ := f_hasRoom hn hC (nI (xr_ r k))
      rw [bind_yes (f_across (by omega) (by omega) (hR.2 k hk)), bind_yes e4, nI_clamp (by omega), nI_clamp (by omega)]
      have hz' := yn_cg hz (RoI_nI hn (by omega))
      rcases hz' with ⟨rfl, w⟩ | ⟨rfl, w⟩
      · rw [if_neg (by decide), ci2_t ⟨hR0, hq0, w⟩]
        exact ⟨u', rfl, hU⟩
      · rw [if_pos rfl, ci2_f (fun z => w z.2.2)]
        exact ⟨u', rfl, hU⟩
    · rw [if_pos rfl, ci2_f (fun z => hR z.1)]
      exact ⟨u', rfl, hU⟩
  · rw [if_pos rfl, ci2_f (fun z => hq z.2.1)]
    exact ⟨u', rfl, hU⟩
theorem c_way (hP : PI_ (gC_ va vb vc ve) n) (hT : TH_ vth) {u : CT_} (hu : cI_ (gC_ va vb vc ve) n d u) (p q : Int32) : ∃ u' : CT_, fX5_way (nI d) (nI n) u.1 u.2.1 u.2.2.1 va vb vc ve vth u.2.2.2.1 u.2.2.2.2.1 u.2.2.2.2.2.1 u.2.2.2.2.2.2.1 u.2.2.2.2.2.2.2.1 u.2.2.2.2.2.2.2.2.1 u.2.2.2.2.2.2.2.2.2.1 u.2.2.2.2.2.2.2.2.2.2.1 u.2.2.2.2.2.2.2.2.2.2.2.1 u.2.2.2.2.2.2.2.2.2.2.2.2.1 u.2.2.2.2.2.2.2.2.2.2.2.2.2.1 u.2.2.2.2.2.2.2.2.2.2.2.2.2.2.1 u.2.2.2.2.2.2.2.2.2.2.2.2.2.2.2.1 u.2.2.2.2.2.2.2.2.2.2.2.2.2.2.2.2.1 u.2.2.2.2.2.2.2.2.2.2.2.2.2.2.2.2.2.1 u.2.2.2.2.2.2.2.2.2.2.2.2.2.2.2.2.2.2.1 u.2.2.2.2.2.2.2.2.2.2.2.2.2.2.2.2.2.2.2.1 u.2.2.2.2.2.2.2.2.2.2.2.2.2.2.2.2.2.2.2.2.1 u.2.2.2.2.2.2.2.2.2.2.2.2.2.2.2.2.2.2.2.2.2.1 u.2.2.2.2.2.2.2.2.2.2.2.2.2.2.2.2.2.2.2.2.2.2.1 u.2.2.2.2.2.2.2.2.2.2.2.2.2.2.2.2.2.2.2.2.2.2.2.1 u.2.2.2.2.2.2.2.2.2.2.2.2.2.2.2.2.2.2.2.2.2.2.2.2.1 u.2.2.2.2.2.2.2.2.2.2.2.2.2.2.2.2.2.2.2.2.2.2.2.2.2 p q = some (vY_ (gC_ va vb vc ve) n p q, u') ∧ cI_ (gC_ va vb vc ve) n d u' := by
  unfold fX5_way vY_
  have hn := hP.1
  have h3 := p3_6561 hn
  obtain ⟨u', e, hF⟩ := f_freshCut hP hT hu
  obtain ⟨h5, h6, fo, li, h7, h8, hC⟩ := hF
  have hU : cI_ (gC_ va vb vc ve) n d u' := Or.inr ⟨h5, h6, fo, li, h7, h8, hC⟩
  obtain ⟨x, e2, hy⟩ := f_hasRoom hn hC p
  obtain ⟨y, e3, hy3⟩ := f_hasRoom hn hC q
  rw [bind_yes e, bind_yes e2]
  rcases hy with ⟨rfl, hR⟩ | ⟨rfl, hR⟩
  · rw [if_neg (by decide), bind_yes e3]
    rcases hy3 with ⟨rfl, hR2⟩ | ⟨rfl, hR2⟩
    · rw [if_neg (by decide), ci2_t ⟨hR, hR2⟩]
      obtain ⟨r, rfl, hR⟩ := hR
      obtain ⟨r', rfl, hR2⟩ := hR2
      have hr := Fa_lt hR.1
      have hr' := Fa_lt hR2.1
      have hpt : pt_ n r r' < 256 := bn_lt8 _ hn
      rw [nI_clamp (by omega), nI_clamp (by omega), bind_yes (c_parted hn hr hr' hR.2 hR2.2), bind_yes (f_bitCount (show pt_ n r r' < 2 ^ 32 from Nat.lt_trans hpt (by decide))), pop_8 hpt]
      exact ⟨u', rfl, hU⟩
    · rw [if_pos rfl, ci2_f (fun z => hR2 z.2)]
      exact ⟨u', rfl, hU⟩
  · rw [if_pos rfl, ci2_f (fun z => hR z.1)]
    exact ⟨u', rfl, hU⟩
theorem c_step (hP : PI_ (gC_ va vb vc ve) n) (hT : TH_ vth) {u : CT_} (hu : cI_ (gC_ va vb vc ve) n d u) (p q : Int32) : ∃ x, ∃ u' : CT_, fX5_step (nI d) (nI n) u.1 u.2.1 u.2.2.1 va vb vc ve vth u.2.2.2.1 u.2.2.2.2.1 u.2.2.2.2.2.1 u.2.2.2.2.2.2.1 u.2.2.2.2.2.2.2.1 u.2.2.2.2.2.2.2.2.1 u.2.2.2.2.2.2.2.2.2.1 u.2.2.2.2.2.2.2.2.2.2.1 u.2.2.2.2.2.2.2.2.2.2.2.1 u.2.2.2.2.2.2.2.2.2.2.2.2.1 u.2.2.2.2.2.2.2.2.2.2.2.2.2.1 u.2.2.2.2.2.2.2.2.2.2.2.2.2.2.1 u.2.2.2.2.2.2.2.2.2.2.2.2.2.2.2.1 u.2.2.2.2.2.2.2.2.2.2.2.2.2.2.2.2.1 u.2.2.2.2.2.2.2.2.2.2.2.2.2.2.2.2.2.1 u.2.2.2.2.2.2.2.2.2.2.2.2.2.2.2.2.2.2.1 u.2.2.2.2.2.2.2.2.2.2.2.2.2.2.2.2.2.2.2.1 u.2.2.2.2.2.2.2.2.2.2.2.2.2.2.2.2.2.2.2.2.1 u.2.2.2.2.2.2.2.2.2.2.2.2.2.2.2.2.2.2.2.2.2.1 u.2.2.2.2.2.2.2.2.2.2.2.2.2.2.2.2.2.2.2.2.2.2.1 u.2.2.2.2.2.2.2.2.2.2.2.2.2.2.2.2.2.2.2.2.2.2.2.1 u.2.2.2.2.2.2.2.2.2.2.2.2.2.2.2.2.2.2.2.2.2.2.2.2.1 u.2.2.2.2.2.2.2.2.2.2.2.2.2.2.2.2.2.2.2.2.2.2.2.2.2 p q = some (x, u') ∧ vS_ (gC_ va vb vc ve) n p q x ∧ cI_ (gC_ va vb vc ve) n d u' := by
  unfold fX5_step
  have hn := hP.1
  have h3 := p3_6561 hn
  obtain ⟨u', e, hF⟩ := f_freshCut hP hT hu
  obtain ⟨h5, h6, fo, li, h7, h8, hC⟩ := hF
  have hU : cI_ (gC_ va vb vc ve) n d u' := Or.inr ⟨h5, h6, fo, li, h7, h8, hC⟩
  obtain ⟨x, e2, hy⟩ := f_hasRoom hn hC p
  obtain ⟨y, e3, hy3⟩ := f_hasRoom hn hC q
  rw [bind_yes e, bind_yes e2]
  rcases hy with ⟨rfl, hR⟩ | ⟨rfl, hR⟩
  · rw [if_neg (by decide), bind_yes e3]
    rcases hy3 with ⟨rfl, hR2⟩ | ⟨rfl, hR2⟩
    · rw [if_neg (by decide)]
      have hRR : RoI_ (gC_ va vb vc ve) n p ∧ RoI_ (gC_ va vb vc ve) n q := ⟨hR, hR2⟩
      obtain ⟨r, rfl, hR⟩ := hR
      obtain ⟨r', rfl, hR2⟩ := hR2
      have hr := Fa_lt hR.1
      have hr' := Fa_lt hR2.1
      have hpt : pt_ n r r' < 256 := bn_lt8 _ hn
      rw [bind_yes (c_parted hn hr hr' hR.2 hR2.2), bind_yes (f_wallsOf hn hC (by omega) hR.2)]
      have hand : pt_ n r r' &&& wm_ (gC_ va vb vc ve) n r < 2 ^ 31 := Nat.lt_of_le_of_lt Nat.and_le_left (by omega)
      have hlp := lp_for (body := fun (st : Int32) => fX5_step_L39 (nI n) (nI (pt_ n r r')) (nI (wm_ (gC_ va vb vc ve) n r)) u' st)
        (fun k st => st = nI k ∧ ∀ j, j < k → (pt_ n r r' &&& wm_ (gC_ va vb vc ve) n r).testBit j = false)
        (fun w => ∃ x, ∃ s' : CT_, Sum.elim (fun (x16 : Int32) => some ((-1 : Int32), u')) (fun y => some y) w = some (x, s') ∧ fs_ n (pt_ n r r' &&& wm_ (gC_ va vb vc ve) n r) x ∧ cI_ (gC_ va vb vc ve) n d s') n (by omega) (s := (0 : Int32)) ⟨rfl, fun j hj => absurd hj (Nat.not_lt_zero j)⟩ ?_ ?_
      · obtain ⟨w, g1, x, s', g2, g3, g4⟩ := hlp
        refine ⟨x, s', ?_, Or.inl ⟨hRR, by rw [nI_clamp (by omega), nI_clamp (by omega)]; exact g3⟩, g4⟩
        rw [bind_yes g1]; exact g2
      · rintro k st hk ⟨rfl, h5⟩
        unfold fX5_step_L39
        rw [if_neg (nI_ge hk (by omega)), nI_and]
        have hb := bit_t1 hand (show k < 31 by omega)
        cases e : (pt_ n r r' &&& wm_ (gC_ va vb vc ve) n r).testBit k with
        | false =>
          left
          rw [if_neg (fun w => by rw [hb.mp w] at e; cases e)]
          refine ⟨_, rfl, nI_1 k, fun j hj => ?_⟩
          rcases (show j < k ∨ j = k by omega) with w | rfl
          · exact h5 j w
          · exact e
        | true =>
          right
          rw [if_pos (hb.mpr e)]
          exact ⟨_, rfl, _, u', rfl, Or.inl ⟨k, hk, e, h5, rfl⟩, hU⟩
      · rintro st ⟨rfl, h5⟩
        unfold fX5_step_L39
        rw [if_pos (nI_le (Nat.le_refl n) (by omega))]
        exact ⟨_, rfl, _, u', rfl, Or.inr ⟨h5, rfl⟩, hU⟩
    · rw [if_pos rfl]
      exact ⟨_, u', rfl, Or.inr ⟨fun z => hR2 z.2, rfl⟩, hU⟩
  · rw [if_pos rfl]
    exact ⟨_, u', rfl, Or.inr ⟨fun z => hR z.1, rfl⟩, hU⟩
end RC
noncomputable def vC_ (G : Nat → Wl_) (n d : Nat) (p : Int32) : Int32 :=
  if p = 0 then nI d else if p = 1 then nI n else if p = 2 then nI (fb_sm (fun r => iN_ (Ro_ G n r)) (3 ^ n)) else if p = 3 then nI (fb_sm (fun r => iN_ (Fa_ G n r)) (3 ^ n)) else if p = 4 then nI (rk_ (hS_ G (2 ^ n - 1))) else -1
theorem Wd_room {G : Nat → Wl_} {n d : Nat} (hn : n ≤ 8) (hd : d ≤ 3) {r : Nat} : Wd_ G n d r (nI d) ↔ Ro_ G n r := by
  unfold Wd_ Ro_
  constructor
  · rintro ⟨hF, h⟩
    refine ⟨hF, fun k hk hdg => ?_⟩
    have hr := Fa_lt hF
    have h3 := rk_le3 (hS_ G (mk_ 8 r 1))
    have h0 : rk_ (hS_ G (mk_ 8 r 1)) = 0 := by
      have e : (nI d - nI (rk_ (hS_ G (mk_ 8 r 1)))).toInt = (d : Int) - rk_ (hS_ G (mk_ 8 r 1)) := pk_sub_toInt (by omega) (by omega)
      rw [h, nI_toInt (by omega)] at e
      omega
    apply rk_inv0 h0
    exact ⟨G k, k, by rw [mk_dig hn hr (by decide), bn_bit]; simp [hk, hdg], rfl⟩
  · rintro ⟨hF, h⟩
    refine ⟨hF, ?_⟩
    have hr := Fa_lt hF
    have h0 : mk_ 8 r 1 = 0 := by rw [mk_dig hn hr (by decide)]; exact on_0.mpr h
    have hk0 := (KV_0 G 0 0 0).1
    rw [h0, ← hk0]
    exact Int32.sub_zero _
section CN
variable {wl : Nat → Int32} {n d : Nat}
theorem m_count (hI : MI_ (gM_ wl) n d) {s : MT_} (hs : mI_ (gM_ wl) n s) (p : Int32) : ∃ s' : MT_, fX6_count (nI d) (nI n) s.1 s.2.1 s.2.2.1 wl s.2.2.2.1 s.2.2.2.2.1 s.2.2.2.2.2.1 s.2.2.2.2.2.2.1 s.2.2.2.2.2.2.2.1 s.2.2.2.2.2.2.2.2 p = some (vC_ (gM_ wl) n d p, s') ∧ mI_ (gM_ wl) n s' := by
  have hn := hI.1
  have h3 := p3_6561 hn
  unfold fX6_count vC_
  by_cases h0 : p = 0
  · rw [if_pos h0, if_pos h0]; exact ⟨s, rfl, hs⟩
  rw [if_neg h0, if_neg h0]
  by_cases h1 : p = 1
  · rw [if_pos h1, if_pos h1]; exact ⟨s, rfl, hs⟩
  rw [if_neg h1, if_neg h1]
  by_cases h2 : p = 2
  · rw [if_pos h2, if_pos h2]
    have hlp := lp_for (body := fun (st : (Int32 × Int32 × MU_)) => fX6_count_L48 (nI n) (nI d) wl st.1 st.2.1 st.2.2.1 st.2.2.2.1 st.2.2.2.2.1 st.2.2.2.2.2.1 st.2.2.2.2.2.2.1 st.2.2.2.2.2.2.2.1 st.2.2.2.2.2.2.2.2.1 st.2.2.2.2.2.2.2.2.2)
      (fun r st => st.1 = nI r ∧ st.2.1 = nI (fb_sm (fun r => iN_ (Ro_ (gM_ wl) n r)) r) ∧ mJ_ (gM_ wl) n st.2.2)
      (fun st => st.2.1 = nI (fb_sm (fun r => iN_ (Ro_ (gM_ wl) n r)) (3 ^ n)) ∧ mJ_ (gM_ wl) n st.2.2) (3 ^ n) (by omega) (s := ((0 : Int32), (0 : Int32), s.1, s.2.1, s.2.2.1, s.2.2.2.1, s.2.2.2.2.1, s.2.2.2.2.2.1, s.2.2.2.2.2.2.1, s.2.2.2.2.2.2.2.1)) ⟨rfl, rfl, hs⟩ ?_ ?_
    · obtain ⟨⟨i, y, s'⟩, e1, e2, e3⟩ := hlp
      dsimp only at e2 e3
      subst e2
      rw [bind_yes e1]
      exact ⟨(s'.1, s'.2.1, s'.2.2.1, s'.2.2.2.1, s'.2.2.2.2.1, s'.2.2.2.2.2.1, s'.2.2.2.2.2.2.1, s'.2.2.2.2.2.2.2, s.2.2.2.2.2.2.2.2), rfl, e3⟩
    · rintro r ⟨i, y, t⟩ hr ⟨e1, e2, e3⟩
      dsimp only at e1 e2 e3 ⊢
      subst e1 e2
      left
      unfold fX6_count_L48
      obtain ⟨x, t', e4, hy, ht⟩ := m_room hI e3 (nI r)
      rw [bind_yes (f_power (by omega)), if_neg (nI_ge hr (by omega)), bind_yes e4]
      dsimp only
      have hy' := yn_cg hy (RoI_nI hn (by omega))
      rcases hy' with ⟨rfl, q⟩ | ⟨rfl, q⟩
      · rw [if_neg (by decide)]
        exact ⟨_, rfl, nI_1 r, by rw [fb_sm_succ, iN_1 q]; exact nI_1 _, ht⟩
      · rw [if_pos rfl]
        exact ⟨_, rfl, nI_1 r, by rw [fb_sm_succ, iN_0 q]; exact nI_add _ 0, ht⟩
    · rintro ⟨i, y, t⟩ ⟨e1, e2, e3⟩
      dsimp only at e1 e2 e3 ⊢
      subst e1 e2
      unfold fX6_count_L48
      rw [bind_yes (f_power (by omega)), if_pos (nI_le (Nat.le_refl _) (by omega))]
      exact ⟨_, rfl, rfl, e3⟩
  rw [if_neg h2, if_neg h2]
  by_cases h4 : p = 3
  · rw [if_pos h4, if_pos h4]
    have hlp := lp_for (body := fun (st : (Int32 × Int32 × MU_)) => fX6_count_L85 (nI n) (nI d) wl st.1 st.2.1 st.2.2.1 st.2.2.2.1 st.2.2.2.2.1 st.2.2.2.2.2.1 st.2.2.2.2.2.2.1 st.2.2.2.2.2.2.2.1 st.2.2.2.2.2.2.2.2.1 st.2.2.2.2.2.2.2.2.2)
      (fun r st => st.1 = nI r ∧ st.2.1 = nI (fb_sm (fun r => iN_ (Fa_ (gM_ wl) n r)) r) ∧ mJ_ (gM_ wl) n st.2.2)
      (fun st => st.2.1 = nI (fb_sm (fun r => iN_ (Fa_ (gM_ wl) n r)) (3 ^ n)) ∧ mJ_ (gM_ wl) n st.2.2) (3 ^ n) (by omega) (s := ((0 : Int32), (0 : Int32), s.1, s.2.1, s.2.2.1, s.2.2.2.1, s.2.2.2.2.1, s.2.2.2.2.2.1, s.2.2.2.2.2.2.1, s.2.2.2.2.2.2.2.1)) ⟨rfl, rfl, hs⟩ ?_ ?_
    · obtain ⟨⟨i, y, s'⟩, e1, e2, e3⟩ := hlp
      dsimp only at e2 e3
      subst e2
      rw [bind_yes e1]
      exact ⟨(s'.1, s'.2.1, s'.2.2.1, s'.2.2.2.1, s'.2.2.2.2.1, s'.2.2.2.2.2.1, s'.2.2.2.2.2.2.1, s'.2.2.2.2.2.2.2, s.2.2.2.2.2.2.2.2), rfl, e3⟩
    · rintro r ⟨i, y, t⟩ hr ⟨e1, e2, e3⟩
      dsimp only at e1 e2 e3 ⊢
      subst e1 e2
      left
      unfold fX6_count_L85
      obtain ⟨x, t', e4, hy, ht⟩ := m_faceQ hI e3 (nI r)
      rw [bind_yes (f_power (by omega)), if_neg (nI_ge hr (by omega)), bind_yes e4]
      dsimp only
      have hy' := yn_cg hy (FaI_nI hn (by omega))
      rcases hy' with ⟨rfl, q⟩ | ⟨rfl, q⟩
      · rw [if_neg (by decide)]
        exact ⟨_, rfl, nI_1 r, by rw [fb_sm_succ, iN_1 q]; exact nI_1 _, ht⟩
      · rw [if_pos rfl]
        exact ⟨_, rfl, nI_1 r, by rw [fb_sm_succ, iN_0 q]; exact nI_add _ 0, ht⟩
    · rintro ⟨i, y, t⟩ ⟨e1, e2, e3⟩
      dsimp only at e1 e2 e3 ⊢
      subst e1 e2
      unfold fX6_count_L85
      rw [bind_yes (f_power (by omega)), if_pos (nI_le (Nat.le_refl _) (by omega))]
      exact ⟨_, rfl, rfl, e3⟩
  rw [if_neg h4, if_neg h4]
  by_cases h5 : p = 4
  · rw [if_pos h5, if_pos h5, nI_all hn]
    obtain ⟨t', e⟩ := m_rank3 hn hI.2.2.2.1 hI.2.2.2.2.1 (h := 2 ^ n - 1) (by have := Nat.pow_pos (n := n) (show 0 < 2 by decide); omega) s.2.2.2.2.2.2.2.2
    rw [bind_yes e]
    exact ⟨(s.1, s.2.1, s.2.2.1, s.2.2.2.1, s.2.2.2.2.1, s.2.2.2.2.2.1, s.2.2.2.2.2.2.1, s.2.2.2.2.2.2.2.1, t'), rfl, hs⟩
  · rw [if_neg h5, if_neg h5]; exact ⟨s, rfl, hs⟩
end CN
section CP
variable {va vb vc ve vth : Nat → Int32} {n d : Nat}
theorem f_rankAll (hn : n ≤ 8) {G : Nat → Wl_} {fo li : Nat} {rk cm mk ro wi la lb : Nat → Int32} (hC : CU_ G n d fo li rk cm mk ro wi la lb) : fX2_rankOfAll (nI n) rk = some (nI (rk_ (hS_ G (2 ^ n - 1)))) := by
  have h2n : 2 ^ n ≤ 256 := Nat.pow_le_pow_right (n := 2) (j := 8) (by decide) hn
  have h2p : 0 < 2 ^ n := Nat.pow_pos (by decide)
  unfold fX2_rankOfAll
  rw [nI_all hn, ck_yes (in_R_nI (show 2 ^ n - 1 < 256 by omega) (by decide)), nI_clamp (by omega), hC.2.2.2.2.1 _ (by omega)]
theorem c_count (hd : d ≤ 3) (hP : PI_ (gC_ va vb vc ve) n) (hT : TH_ vth) {u : CT_} (hu : cI_ (gC_ va vb vc ve) n d u) (p : Int32) : ∃ u' : CT_, fX5_count (nI d) (nI n) u.1 u.2.1 u.2.2.1 va vb vc ve vth u.2.2.2.1 u.2.2.2.2.1 u.2.2.2.2.2.1 u.2.2.2.2.2.2.1 u.2.2.2.2.2.2.2.1 u.2.2.2.2.2.2.2.2.1 u.2.2.2.2.2.2.2.2.2.1 u.2.2.2.2.2.2.2.2.2.2.1 u.2.2.2.2.2.2.2.2.2.2.2.1 u.2.2.2.2.2.2.2.2.2.2.2.2.1 u.2.2.2.2.2.2.2.2.2.2.2.2.2.1 u.2.2.2.2.2.2.2.2.2.2.2.2.2.2.1 u.2.2.2.2.2.2.2.2.2.2.2.2.2.2.2.1 u.2.2.2.2.2.2.2.2.2.2.2.2.2.2.2.2.1 u.2.2.2.2.2.2.2.2.2.2.2.2.2.2.2.2.2.1 u.2.2.2.2.2.2.2.2.2.2.2.2.2.2.2.2.2.2.1 u.2.2.2.2.2.2.2.2.2.2.2.2.2.2.2.2.2.2.2.1 u.2.2.2.2.2.2.2.2.2.2.2.2.2.2.2.2.2.2.2.2.1 u.2.2.2.2.2.2.2.2.2.2.2.2.2.2.2.2.2.2.2.2.2.1 u.2.2.2.2.2.2.2.2.2.2.2.2.2.2.2.2.2.2.2.2.2.2.1 u.2.2.2.2.2.2.2.2.2.2.2.2.2.2.2.2.2.2.2.2.2.2.2.1 u.2.2.2.2.2.2.2.2.2.2.2.2.2.2.2.2.2.2.2.2.2.2.2.2.1 u.2.2.2.2.2.2.2.2.2.2.2.2.2.2.2.2.2.2.2.2.2.2.2.2.2 p = some (vC_ (gC_ va vb vc ve) n d p, u') ∧ cI_ (gC_ va vb vc ve) n d u' := by
  have hn := hP.1
  have h3 := p3_6561 hn
  obtain ⟨u', e, hF⟩ := f_freshCut hP hT hu
  obtain ⟨h5, h6, fo, li, h7, h8, hC⟩ := hF
  have hU : cI_ (gC_ va vb vc ve) n d u' := Or.inr ⟨h5, h6, fo, li, h7, h8, hC⟩
  unfold fX5_count vC_
  by_cases h0 : p = 0
  · rw [if_pos h0, if_pos h0]; exact ⟨u, rfl, hu⟩
  rw [if_neg h0, if_neg h0]
  by_cases h1 : p = 1
  · rw [if_pos h1, if_pos h1]; exact ⟨u, rfl, hu⟩
  rw [if_neg h1, if_neg h1]
  by_cases h2 : p = 2
  · have hcnt : fb_sm (fun r => iN_ (Wd_ (gC_ va vb vc ve) n d r (nI d))) (3 ^ n) = fb_sm (fun r => iN_ (Ro_ (gC_ va vb vc ve) n r)) (3 ^ n) := fb_sm_cong (fun r _ => iN_cg (Wd_room hn hd))
    rw [if_pos h2, if_pos h2, bind_yes e, h7, bind_yes (f_countOf hC.2.2.1 (nI d)), ct_W_all hn hC (nI d), ← h7, hcnt]
    exact ⟨u', rfl, hU⟩
  rw [if_neg h2, if_neg h2]
  by_cases h4 : p = 3
  · rw [if_pos h4, if_pos h4, bind_yes e]
    have : fo = fb_sm (fun r => iN_ (Fa_ (gC_ va vb vc ve) n r)) (3 ^ n) := by
      rw [hC.2.1, show 6561 = 3 ^ n + (6561 - 3 ^ n) by omega, fb_ct_split, ← ct_iN]
      have e1 : fb_ct (mkd_ u'.2.2.2.2.2.2.2.2.1) (3 ^ n) = fb_ct (fun r => pb_ (Fa_ (gC_ va vb vc ve) n r)) (3 ^ n) := fb_ct_cong (fun r hr => by
        have := hC.1 r (by omega)
        cases h : mkd_ u'.2.2.2.2.2.2.2.2.1 r with
        | true => exact (pb_t.mpr (this.mp h)).symm
        | false => exact (pb_f.mpr (fun q => by rw [this.mpr q] at h; cases h)).symm)
      have e2 : fb_ct (fun k => mkd_ u'.2.2.2.2.2.2.2.2.1 (3 ^ n + k)) (6561 - 3 ^ n) = 0 := fb_ct_zero.mpr (fun k hk => by
        cases h : mkd_ u'.2.2.2.2.2.2.2.2.1 (3 ^ n + k) with
        | false => rfl
        | true => have := Fa_lt ((hC.1 _ (by omega)).mp h); omega)
      rw [e1, e2]; rfl
    rw [← this, h7.symm]
    exact ⟨u', rfl, hU⟩
  rw [if_neg h4, if_neg h4]
  by_cases h9 : p = 4
  · rw [if_pos h9, if_pos h9, bind_yes e, bind_yes (f_rankAll hn hC)]
    exact ⟨u', rfl, hU⟩
  · rw [if_neg h9, if_neg h9]; exact ⟨u, rfl, hu⟩
end CP
end
section
/-! the farthest way -/
theorem ov_ev (w : Wl_) (x y z : Int) : ((ov_ w x y z 1 : Int) : Rat) = ev_ w ((x : Rat), (y : Rat), (z : Rat)) := by
  simp only [ov_, ev_, dr_, Rat.intCast_add, Rat.intCast_sub, Rat.intCast_mul]; grind
theorem nv_int {w : Wl_} (h : nv_ w ≠ o3_) : ¬ (w.1 = 0 ∧ w.2.1 = 0 ∧ w.2.2.1 = 0) := by
  rintro ⟨a, b, c⟩
  apply h
  unfold nv_ o3_
  rw [a, b, c]; rfl
theorem far_sg {w : Wl_} (hb : bw_ w) (hn : nv_ w ≠ o3_) : sg_ (ev_ w ((100 : Int), (10000 : Int), (1000000 : Int))) ≠ 1 ∧ sg_ (ev_ w ((-100 : Int), (-10000 : Int), (-1000000 : Int))) = 2 - sg_ (ev_ w ((100 : Int), (10000 : Int), (1000000 : Int))) := by
  have h0 := nv_int hn
  obtain ⟨b1, b2, b3, b4⟩ := hb
  unfold ab_ at *
  rw [← ov_ev, ← ov_ev, sg_int, sg_int]
  unfold ov_ sz_
  generalize w.1 = a at *
  generalize w.2.1 = b at *
  generalize w.2.2.1 = c at *
  generalize w.2.2.2 = e at *
  have hz : a + 100 * b + 10000 * c ≠ 0 := by omega
  rcases (show a + 100 * b + 10000 * c < 0 ∨ 0 < a + 100 * b + 10000 * c by omega) with q | q
  · rw [if_neg (by omega), if_pos (by omega), if_neg (by omega), if_neg (by omega)]
    exact ⟨by decide, rfl⟩
  · rw [if_neg (by omega), if_neg (by omega), if_neg (by omega), if_pos (by omega)]
    exact ⟨by decide, rfl⟩
theorem far_rooms {G : Nat → Wl_} {n d : Nat} (hI : MI_ G n d) : ∃ r r', Ro_ G n r ∧ Ro_ G n r' ∧ ∀ k, k < n → dg_ r k ≠ dg_ r' k := by
  refine ⟨rp_ G n ((100 : Int), (10000 : Int), (1000000 : Int)), rp_ G n ((-100 : Int), (-10000 : Int), (-1000000 : Int)), ⟨⟨_, rfl⟩, ?_⟩, ⟨⟨_, rfl⟩, ?_⟩, ?_⟩
  · intro k hk
    rw [rp_dg G _ hk]
    exact (far_sg (hI.2.2.2.1 k hk) (hI.2.2.2.2.1 k hk)).1
  · intro k hk
    rw [rp_dg G _ hk]
    obtain ⟨a, b⟩ := far_sg (hI.2.2.2.1 k hk) (hI.2.2.2.2.1 k hk)
    have := sg_le (ev_ (G k) ((100 : Int), (10000 : Int), (1000000 : Int)))
    omega
  · intro k hk
    rw [rp_dg G _ hk, rp_dg G _ hk]
    obtain ⟨a, b⟩ := far_sg (hI.2.2.2.1 k hk) (hI.2.2.2.2.1 k hk)
    have := sg_le (ev_ (G k) ((100 : Int), (10000 : Int), (1000000 : Int)))
    omega
/-- how many walls part two rows -/
def pn_ (n r r' : Nat) : Nat := fb_ct (fun k => (pt_ n r r').testBit k) 8
theorem pn_ct {n r r' : Nat} (hn : n ≤ 8) : pn_ n r r' = fb_ct (fun k => !decide (dg_ r k = dg_ r' k)) n := by
  unfold pn_ pt_
  rw [show 8 = n + (8 - n) by omega, fb_ct_split]
  have e1 : fb_ct (fun k => (bn_ (fun k => !decide (dg_ r k = dg_ r' k)) n).testBit k) n = fb_ct (fun k => !decide (dg_ r k = dg_ r' k)) n := fb_ct_cong (fun k hk => by rw [bn_bit]; simp [hk])
  have e2 : fb_ct (fun k => (bn_ (fun k => !decide (dg_ r k = dg_ r' k)) n).testBit (n + k)) (8 - n) = 0 := fb_ct_zero.mpr (fun k hk => by
    rw [bn_bit]
    have : ¬ n + k < n := by omega
    simp [this])
  omega
theorem pn_le {n r r' : Nat} (hn : n ≤ 8) : pn_ n r r' ≤ n := by rw [pn_ct hn]; exact fb_ct_le _ n
theorem pn_all {n r r' : Nat} (hn : n ≤ 8) (h : ∀ k, k < n → dg_ r k ≠ dg_ r' k) : pn_ n r r' = n := by
  rw [pn_ct hn]
  exact fb_ct_all.mpr (fun k hk => by simp [h k hk])
section FAR
variable {wl : Nat → Int32} {n d : Nat}
theorem m_far (hI : MI_ (gM_ wl) n d) {s : MU_} (hs : mJ_ (gM_ wl) n s) : ∃ s' : MU_, fX6_far (nI d) (nI n) s.1 s.2.1 s.2.2.1 wl s.2.2.2.1 s.2.2.2.2.1 s.2.2.2.2.2.1 s.2.2.2.2.2.2.1 s.2.2.2.2.2.2.2 = some (nI n, s') ∧ mJ_ (gM_ wl) n s' := by
  have hn := hI.1
  have h3 := p3_6561 hn
  unfold fX6_far
  have hlp := lp_for (body := fun (st : (Int32 × Int32 × MU_)) => fX6_far_L4 (nI n) (nI d) wl st.1 st.2.1 st.2.2.1 st.2.2.2.1 st.2.2.2.2.1 st.2.2.2.2.2.1 st.2.2.2.2.2.2.1 st.2.2.2.2.2.2.2.1 st.2.2.2.2.2.2.2.2.1 st.2.2.2.2.2.2.2.2.2)
    (fun a st => st.1 = nI a ∧ (∃ be, st.2.1 = nI be ∧ be ≤ n ∧ ∀ a' b, a' < a → b < a' → Ro_ (gM_ wl) n a' → Ro_ (gM_ wl) n b → pn_ n a' b ≤ be) ∧ mJ_ (gM_ wl) n st.2.2)
    (fun st => (∃ be, st.2.1 = nI be ∧ be ≤ n ∧ ∀ a' b, a' < 3 ^ n → b < a' → Ro_ (gM_ wl) n a' → Ro_ (gM_ wl) n b → pn_ n a' b ≤ be) ∧ mJ_ (gM_ wl) n st.2.2) (3 ^ n) (by omega) (s := ((0 : Int32), (0 : Int32), s))
    ⟨rfl, ⟨0, rfl, Nat.zero_le _, fun a' b h => absurd h (Nat.not_lt_zero a')⟩, hs⟩ ?_ ?_
  · obtain ⟨⟨i, y, s'⟩, e1, ⟨be, e2, h1, h2⟩, e3⟩ := hlp
    dsimp only at e2 e3
    subst e2
    rw [bind_yes e1]
    have : be = n := by
      by_cases q : n = 0
      · omega
      · obtain ⟨r, r', g1, g2, g3⟩ := far_rooms hI
        have hne : r ≠ r' := fun w => g3 0 (by omega) (by rw [w])
        have l1 := Fa_lt g1.1
        have l2 := Fa_lt g2.1
        rcases (show r < r' ∨ r' < r by omega) with w | w
        · have := h2 r' r l2 w g2 g1
          rw [pn_all hn (fun k hk => fun z => g3 k hk z.symm)] at this
          omega
        · have := h2 r r' l1 w g1 g2
          rw [pn_all hn g3] at this
          omega
    subst this
    exact ⟨s', rfl, e3⟩
  · rintro a ⟨i, y, t⟩ ha ⟨e1, ⟨be, e2, h1, h2⟩, e3⟩
    dsimp only at e1 e2 e3 ⊢
    subst e1 e2
    left
    unfold fX6_far_L4
    obtain ⟨x, t', e4, hy, ht⟩ := m_room hI e3 (nI a)
    rw [bind_yes (f_power (by omega)), if_neg (nI_ge ha (by omega)), bind_yes e4]
    dsimp only
    have hy' := yn_cg hy (RoI_nI hn (by omega))
    rcases hy' with ⟨rfl, q⟩ | ⟨rfl, q⟩
    · rw [if_neg (by decide)]
      have hlp := lp_for (body := fun (st : (Int32 × Int32 × MU_)) => fX6_far_L28 (nI a) (nI d) (nI n) wl st.1 st.2.1 st.2.2.1 st.2.2.2.1 st.2.2.2.2.1 st.2.2.2.2.2.1 st.2.2.2.2.2.2.1 st.2.2.2.2.2.2.2.1 st.2.2.2.2.2.2.2.2.1 st.2.2.2.2.2.2.2.2.2)
        (fun b st => st.1 = nI b ∧ (∃ be', st.2.1 = nI be' ∧ be ≤ be' ∧ be' ≤ n ∧ ∀ b', b' < b → Ro_ (gM_ wl) n b' → pn_ n a b' ≤ be') ∧ mJ_ (gM_ wl) n st.2.2)
        (fun st => (∃ be', st.2.1 = nI be' ∧ be ≤ be' ∧ be' ≤ n ∧ ∀ b', b' < a → Ro_ (gM_ wl) n b' → pn_ n a b' ≤ be') ∧ mJ_ (gM_ wl) n st.2.2) a (by omega) (s := ((0 : Int32), nI be, t'))
        ⟨rfl, ⟨be, rfl, Nat.le_refl _, h1, fun b' h => absurd h (Nat.not_lt_zero b')⟩, ht⟩ ?_ ?_
      · obtain ⟨⟨i, y, s'⟩, g1, ⟨be', g2, g3, g4, g5⟩, g6⟩ := hlp
        dsimp only at g2 g6
        subst g2
        rw [bind_yes g1]
        refine ⟨_, rfl, nI_1 a, ⟨be', rfl, g4, fun a' b ha' hb hR1 hR2 => ?_⟩, g6⟩
        rcases (show a' < a ∨ a' = a by omega) with w | rfl
        · exact Nat.le_trans (h2 a' b w hb hR1 hR2) g3
        · exact g5 b hb hR2
      · rintro b ⟨i, y, t2⟩ hb ⟨g1, ⟨be', g2, g3, g4, g5⟩, g6⟩
        dsimp only at g1 g2 g6 ⊢
        subst g1 g2
        left
        unfold fX6_far_L28
        obtain ⟨x, t3, e5, hy5, ht5⟩ := m_room hI g6 (nI b)
        rw [if_neg (nI_ge hb (by omega)), bind_yes e5]
        dsimp only
        have hy6 := yn_cg hy5 (RoI_nI hn (by omega))
        rcases hy6 with ⟨rfl, w⟩ | ⟨rfl, w⟩
        · have hpt : pt_ n a b < 256 := bn_lt8 _ hn
          have hbit : fX6_bits (nI (pt_ n a b)) = some (nI (pn_ n a b)) := m_bits (show pt_ n a b < 2 ^ 31 from Nat.lt_trans hpt (by decide))
          rw [if_neg (by decide), bind_yes (m_parted hn (by omega) (by omega)), bind_yes hbit]
          have hpl : pn_ n a b ≤ n := pn_le hn
          by_cases z : pn_ n a b ≤ be'
          · rw [if_pos (nI_le z (by omega))]
            refine ⟨_, rfl, nI_1 b, ⟨be', rfl, g3, g4, fun b' hb' hR => ?_⟩, ht5⟩
            rcases (show b' < b ∨ b' = b by omega) with c | rfl
            · exact g5 b' c hR
            · exact z
          · rw [if_neg (show ¬ nI (pn_ n a b) ≤ nI be' from nI_ge (show be' < pn_ n a b by omega) (by omega))]
            refine ⟨_, rfl, nI_1 b, ⟨pn_ n a b, rfl, by omega, hpl, fun b' hb' hR => ?_⟩, ht5⟩
            rcases (show b' < b ∨ b' = b by omega) with c | rfl
            · have := g5 b' c hR; omega
            · exact Nat.le_refl _
        · rw [if_pos rfl]
          refine ⟨_, rfl, nI_1 b, ⟨be', rfl, g3, g4, fun b' hb' hR => ?_⟩, ht5⟩
          rcases (show b' < b ∨ b' = b by omega) with c | rfl
          · exact g5 b' c hR
          · exact absurd hR w
      · rintro ⟨i, y, t2⟩ ⟨g1, g2, g6⟩
        dsimp only at g1 g2 g6 ⊢
        subst g1
        unfold fX6_far_L28
        rw [if_pos (nI_le (Nat.le_refl a) (by omega))]
        exact ⟨_, rfl, g2, g6⟩
    · rw [if_pos rfl]
      refine ⟨_, rfl, nI_1 a, ⟨be, rfl, h1, fun a' b ha' hb hR1 hR2 => ?_⟩, ht⟩
      rcases (show a' < a ∨ a' = a by omega) with w | rfl
      · exact h2 a' b w hb hR1 hR2
      · exact absurd hR1 q
  · rintro ⟨i, y, t⟩ ⟨e1, e2, e3⟩
    dsimp only at e1 e2 e3 ⊢
    subst e1
    unfold fX6_far_L4
    rw [bind_yes (f_power (by omega)), if_pos (nI_le (Nat.le_refl _) (by omega))]
    exact ⟨_, rfl, e2, e3⟩
end FAR
end
section
/-! sums over heaps: poly, without -/
def sg2_ (h : Nat) : Int := if fb_ct (fun k => h.testBit k) 8 % 2 = 0 then 1 else -1
noncomputable def Si_ (n : Nat) (P : Nat → Prop) : Int := fb_si (fun h => if pb_ (P h) = true then sg2_ h else 0) (2 ^ n)
theorem Si_cg {n : Nat} {P Q : Nat → Prop} (h : ∀ k, k < 2 ^ n → (P k ↔ Q k)) : Si_ n P = Si_ n Q := by
  unfold Si_
  refine fb_si_cong (fun k hk => ?_)
  by_cases q : P k
  · rw [if_pos (pb_t.mpr q), if_pos (pb_t.mpr ((h k hk).mp q))]
  · rw [if_neg (fun w => q (pb_t.mp w)), if_neg (fun w => q ((h k hk).mpr (pb_t.mp w)))]
/-- heaps with a place in common that go with a power -/
def Fp_ (G : Nat → Wl_) (d : Nat) (i : Int32) (h : Nat) : Prop := hC_ G h ∧ nI d - nI (rk_ (hS_ G h)) = i
theorem m_odd {h : Nat} (hh : h < 2 ^ 31) : fX6_odd (nI h) = some (iI_ (sg2_ h)) := by
  unfold fX6_odd
  have e : lp_ (fun (st : (Int32 × Int32)) => fX6_odd_L4 (nI h) st.1 st.2) fu_ ((0 : Int32), (0 : Int32)) = some (nI 8, nI (fb_ct (fun k => h.testBit k) 8)) := by
    refine lp_seq (body := fun (st : (Int32 × Int32)) => fX6_odd_L4 (nI h) st.1 st.2) (fun k => (nI k, nI (fb_ct (fun k => h.testBit k) k))) 8 (by decide) ?_ ?_
    · intro k hk
      show fX6_odd_L4 (nI h) (nI k) _ = _
      unfold fX6_odd_L4
      rw [if_neg (show ¬ (8 : Int32) ≤ nI k from nI_ge (a := k) (b := 8) hk (by decide)), bit_t hh (by omega), nI_add, nI_1]
      rfl
    · show fX6_odd_L4 (nI h) (nI 8) _ = _
      unfold fX6_odd_L4
      rw [if_pos (show (8 : Int32) ≤ nI 8 by decide)]
  have hle := fb_ct_le (fun k => h.testBit k) 8
  rw [bind_yes e]
  dsimp only
  rw [show (2 : Int32) = nI 2 from rfl, pk_rem (by omega) (by decide) (by decide)]
  unfold sg2_
  by_cases q : fb_ct (fun k => h.testBit k) 8 % 2 = 0
  · rw [if_pos (by rw [q]; rfl), if_pos q]; rfl
  · rw [if_neg (nI_ne0 (by omega) (by omega)), if_neg q]; rfl
section PL
variable {wl : Nat → Int32} {n d : Nat}
theorem andn_0 {h m n : Nat} (hh : h < 2 ^ n) (hm : m < 2 ^ n) (hn : n ≤ 8) : (nI h &&& (nI m ^^^ (-1 : Int32)) = 0) ↔ ∀ k, h.testBit k = true → m.testBit k = true := by
  have h2n : 2 ^ n ≤ 256 := Nat.pow_le_pow_right (n := 2) (j := 8) (by decide) hn
  rw [nI_andn]
  have hle : h ^^^ (h &&& m) ≤ h := sub_bits (fun k hk => by
    rw [Nat.testBit_xor, Nat.testBit_and] at hk
    cases e : h.testBit k with
    | true => rfl
    | false => rw [e] at hk; simp at hk)
  have e0 : (nI (h ^^^ (h &&& m)) = 0) ↔ h ^^^ (h &&& m) = 0 := nI_eq (b := 0) (by omega) (by decide)
  rw [e0]
  constructor
  · intro q k hk
    have := congrArg (fun x => x.testBit k) q
    simp only [Nat.testBit_xor, Nat.testBit_and, hk, Nat.zero_testBit] at this
    simpa using this
  · intro q
    apply Nat.eq_of_testBit_eq
    intro k
    rw [Nat.testBit_xor, Nat.testBit_and, Nat.zero_testBit]
    cases e : h.testBit k with
    | false => rfl
    | true => rw [q k e]; rfl
theorem m_polynomial (hI : MI_ (gM_ wl) n d) {m : Nat} (hm : m < 2 ^ n) (t : Nat → Int64) (i : Int32) : ∃ t', fX6_polynomial (nI d) (nI n) wl t (nI m) i = some (iI_ (Si_ n (fun h => Fp_ (gM_ wl) d i h ∧ ∀ k, h.testBit k = true → m.testBit k = true)), t') := by
  obtain ⟨hn, hd1, hd, hb, hnv, hz, _⟩ := hI
  have h2n : 2 ^ n ≤ 256 := Nat.pow_le_pow_right (n := 2) (j := 8) (by decide) hn
  unfold fX6_polynomial
  have hlp := lp_for (body := fun (st : (Int32 × Int32 × (Nat → Int64))) => fX6_polynomial_L5 (nI n) (nI m) wl (nI d) i st.1 st.2.1 st.2.2)
    (fun h st => st.1 = nI h ∧ st.2.1 = iI_ (fb_si (fun h => if pb_ (Fp_ (gM_ wl) d i h ∧ ∀ k, h.testBit k = true → m.testBit k = true) = true then sg2_ h else 0) h))
    (fun st => st.2.1 = iI_ (Si_ n (fun h => Fp_ (gM_ wl) d i h ∧ ∀ k, h.testBit k = true → m.testBit k = true))) (2 ^ n) (by omega) (s := ((0 : Int32), (0 : Int32), t)) ⟨rfl, rfl⟩ ?_ ?_
  · obtain ⟨⟨j, x, t'⟩, e1, e2⟩ := hlp
    dsimp only at e2
    subst e2
    rw [bind_yes e1]
    exact ⟨t', rfl⟩
  · rintro h ⟨j, x, t1⟩ hh ⟨e1, e2⟩
    dsimp only at e1 e2 ⊢
    subst e1 e2
    left
    unfold fX6_polynomial_L5
    rw [sh_1 n (by omega), if_neg (nI_ge hh (by omega))]
    have h0 := andn_0 hh hm hn
    by_cases q : ∀ k, h.testBit k = true → m.testBit k = true
    · rw [if_pos (h0.mpr q)]
      obtain ⟨t2, x, e3, hx⟩ := m_meets hn hb hnv hh t1
      rw [bind_yes e3]
      dsimp only
      rcases hx with ⟨rfl, hc⟩ | ⟨rfl, hc⟩
      · obtain ⟨t3, e4⟩ := m_rank3 hn hb hnv hh t2
        rw [if_neg (by decide), bind_yes e4]
        dsimp only
        by_cases w : nI d - nI (rk_ (hS_ (gM_ wl) h)) = i
        · rw [if_pos w, bind_yes (m_odd (by omega)), iI_add]
          exact ⟨_, rfl, nI_1 h, by rw [fb_si_succ, if_pos (pb_t.mpr ⟨⟨hc, w⟩, q⟩)]⟩
        · rw [if_neg w]
          exact ⟨_, rfl, nI_1 h, by rw [fb_si_succ, if_neg (fun z => w (pb_t.mp z).1.2), Int.add_zero]⟩
      · rw [if_pos rfl]
        exact ⟨_, rfl, nI_1 h, by rw [fb_si_succ, if_neg (fun z => hc (pb_t.mp z).1.1), Int.add_zero]⟩
    · rw [if_neg (fun z => q (h0.mp z))]
      exact ⟨_, rfl, nI_1 h, by rw [fb_si_succ, if_neg (fun z => q (pb_t.mp z).2), Int.add_zero]⟩
  · rintro ⟨j, x, t1⟩ ⟨e1, e2⟩
    dsimp only at e1 e2 ⊢
    subst e1 e2
    unfold fX6_polynomial_L5
    rw [sh_1 n (by omega), if_pos (nI_le (Nat.le_refl _) (by omega))]
    exact ⟨_, rfl, rfl⟩
noncomputable def vP_ (G : Nat → Wl_) (n d : Nat) (i : Int32) : Int32 := iI_ (Si_ n (Fp_ G d i))
noncomputable def vO_ (G : Nat → Wl_) (n d : Nat) (w i : Int32) : Int32 := ci2_ (∃ k, k < n ∧ w = nI k) (iI_ (Si_ n (fun h => Fp_ G d i h ∧ h.testBit w.toNatClampNeg = false))) 0
theorem m_poly (hI : MI_ (gM_ wl) n d) (t : Nat → Int64) (i : Int32) : ∃ t', fX6_poly (nI d) (nI n) wl t i = some (vP_ (gM_ wl) n d i, t') := by
  have hn := hI.1
  have h2p : 0 < 2 ^ n := Nat.pow_pos (by decide)
  unfold fX6_poly vP_
  obtain ⟨t', e⟩ := m_polynomial hI (m := 2 ^ n - 1) (by omega) t i
  rw [nI_all hn, bind_yes e]
  refine ⟨t', ?_⟩
  rw [Si_cg (Q := Fp_ (gM_ wl) d i) (fun h hh => ⟨fun z => z.1, fun z => ⟨z, fun k hk => by rw [Nat.testBit_two_pow_sub_one]; exact decide_eq_true (lt_bit hh hk)⟩⟩)]
/-- a wall's number, as the reference tests it -/
theorem m_in (hn : n ≤ 8) (p : Int32) : ∃ x, fX6_in p 0 (nI n - 1) = some x ∧ yn_ x (∃ k, k < n ∧ p = nI k) := by
  unfold fX6_in
  by_cases h0 : p < 0
  · rw [if_pos h0]
    exact ⟨_, rfl, Or.inr ⟨rfl, fun w => by
      obtain ⟨k, hk, rfl⟩ := w
      exact nI_pos (by omega) h0⟩⟩
  · rw [if_neg h0]
    obtain ⟨k, hk, rfl⟩ := nI_of h0
    have e : (nI n - (1 : Int32)).toInt = (n : Int) - 1 := pk_sub_toInt (a := n) (b := 1) (by omega) (by decide)
    by_cases h1 : k < n
    · rw [if_neg (by rw [Int32.lt_iff_toInt_lt, nI_toInt hk, e]; omega)]
      exact ⟨_, rfl, Or.inl ⟨rfl, k, h1, rfl⟩⟩
    · rw [if_pos (by rw [Int32.lt_iff_toInt_lt, nI_toInt hk, e]; omega)]
      exact ⟨_, rfl, Or.inr ⟨rfl, fun w => by
        obtain ⟨k', hk', e⟩ := w
        have := (nI_eq hk (by omega)).mp e
        omega⟩⟩
theorem m_without (hI : MI_ (gM_ wl) n d) (t : Nat → Int64) (w i : Int32) : ∃ t', fX6_without (nI d) (nI n) wl t w i = some (vO_ (gM_ wl) n d w i, t') := by
  have hn := hI.1
  have h2p : 0 < 2 ^ n := Nat.pow_pos (by decide)
  have h2n : 2 ^ n ≤ 256 := Nat.pow_le_pow_right (n := 2) (j := 8) (by decide) hn
  unfold fX6_without vO_
  obtain ⟨x, e, hy⟩ := m_in hn w
  rw [bind_yes e]
  rcases hy with ⟨rfl, hk⟩ | ⟨rfl, hk⟩
  · rw [if_neg (by decide), ci2_t hk]
    obtain ⟨k, hk, rfl⟩ := hk
    have hof : ((((1 : Int32) <<< (nI n &&& 31)) - (1 : Int32)) &&& (((1 : Int32) <<< (nI k &&& 31)) ^^^ (-1 : Int32))) = nI (wo_ (2 ^ n - 1) k) := by rw [nI_all hn, sh_1 k (by omega), nI_andn]; rfl
    have hol := wo_le (2 ^ n - 1) k
    obtain ⟨t', e2⟩ := m_polynomial hI (m := wo_ (2 ^ n - 1) k) (by omega) t i
    rw [hof, bind_yes e2, nI_clamp (by omega)]
    have hcg : ∀ h, h < 2 ^ n → ((Fp_ (gM_ wl) d i h ∧ ∀ j, h.testBit j = true → (wo_ (2 ^ n - 1) k).testBit j = true) ↔ (Fp_ (gM_ wl) d i h ∧ h.testBit k = false)) := by
      intro h hh
      constructor
      · intro z
        refine ⟨z.1, ?_⟩
        cases c : h.testBit k with
        | false => rfl
        | true =>
          have := z.2 k c
          rw [wo_bit] at this
          simp at this
      · intro z
        refine ⟨z.1, fun j hj => ?_⟩
        rw [wo_bit, Nat.testBit_two_pow_sub_one]
        have : j ≠ k := fun q => by rw [q, z.2] at hj; cases hj
        simp [lt_bit hh hj, this]
    rw [Si_cg hcg]
    exact ⟨t', rfl⟩
  · rw [if_pos rfl, ci2_f hk]
    exact ⟨t, rfl⟩
end PL
section PC
variable {va vb vc ve vth : Nat → Int32} {n d : Nat}
theorem f_factor {G : Nat → Wl_} (hn : n ≤ 8) {fo li : Nat} {rk cm mk ro wi la lb : Nat → Int32} (hC : CU_ G n d fo li rk cm mk ro wi la lb) (i : Int32) {sk : Nat} (hsk : sk < 2 ^ 31) : fX2_factor (nI d) (nI n) rk cm i (nI sk) = some (iI_ (Si_ n (fun h => Fp_ G d i h ∧ h &&& sk = 0))) := by
  have h2n : 2 ^ n ≤ 256 := Nat.pow_le_pow_right (n := 2) (j := 8) (by decide) hn
  unfold fX2_factor
  refine bind_yes (a := (nI (2 ^ n), iI_ (Si_ n (fun h => Fp_ G d i h ∧ h &&& sk = 0)))) ?_
  refine lp_seq (body := fun (st : (Int32 × Int32)) => fX2_factor_L5 (nI n) cm (nI sk) (nI d) rk i st.1 st.2) (fun h => (nI h, iI_ (fb_si (fun h => if pb_ (Fp_ G d i h ∧ h &&& sk = 0) = true then sg2_ h else 0) h))) (2 ^ n) (by omega) ?_ ?_
  · intro h hh
    show fX2_factor_L5 (nI n) cm (nI sk) (nI d) rk i (nI h) _ = _
    unfold fX2_factor_L5
    obtain ⟨c1, c2⟩ := hC.2.2.2.2.2.1 h hh
    rw [sh_1 n (by omega), if_neg (nI_ge hh (by omega)), ck_yes (in_R_nI (show h < 256 by omega) (by decide)), ck_yes (in_R_nI (show h < 256 by omega) (by decide)), nI_clamp (by omega), hC.2.2.2.2.1 h hh, nI_and, nI_1]
    have e0 : (nI (h &&& sk) = 0) ↔ h &&& sk = 0 := nI_eq (b := 0) (Nat.lt_of_le_of_lt Nat.and_le_left (by omega)) (by decide)
    rcases c1 with z | z
    · have hnc : ¬ hC_ G h := fun w => by
        have := c2.mpr w
        rw [z] at this; cases this
      rw [if_pos z, fb_si_succ, if_neg (fun w => hnc (pb_t.mp w).1.1), Int.add_zero]
    · have hc : hC_ G h := c2.mp z
      rw [if_neg (by rw [z]; decide)]
      by_cases q : h &&& sk = 0
      · rw [if_pos (e0.mpr q)]
        by_cases w : nI d - nI (rk_ (hS_ G h)) = i
        · rw [if_pos w, bind_yes (f_bitCount (by omega)), pop_8 (by omega), pk_andN (m := 1) (by have := fb_ct_le (fun k => h.testBit k) 8; omega) 1 (by decide), fb_si_succ, if_pos (pb_t.mpr ⟨⟨hc, w⟩, q⟩)]
          unfold sg2_
          have hle := fb_ct_le (fun k => h.testBit k) 8
          rw [Nat.pow_one]
          by_cases y : fb_ct (fun k => h.testBit k) 8 % 2 = 0
          · rw [if_pos (by rw [y]; rfl), if_pos y, show (1 : Int32) = iI_ 1 from rfl, iI_add]
          · rw [if_neg (nI_ne0 (by omega) (by omega)), if_neg y, show (-1 : Int32) = iI_ (-1) from rfl, iI_add]
        · rw [if_neg w, fb_si_succ, if_neg (fun y => w (pb_t.mp y).1.2), Int.add_zero]
      · rw [if_neg (fun y => q (e0.mp y)), fb_si_succ, if_neg (fun y => q (pb_t.mp y).2), Int.add_zero]
  · show fX2_factor_L5 (nI n) cm (nI sk) (nI d) rk i (nI (2 ^ n)) _ = _
    unfold fX2_factor_L5
    rw [sh_1 n (by omega), if_pos (nI_le (Nat.le_refl _) (by omega))]
    rfl
theorem f_factor0 {G : Nat → Wl_} (hn : n ≤ 8) {fo li : Nat} {rk cm mk ro wi la lb : Nat → Int32} (hC : CU_ G n d fo li rk cm mk ro wi la lb) (i : Int32) : fX2_factor (nI d) (nI n) rk cm i 0 = some (vP_ G n d i) := by
  have := f_factor hn hC i (sk := 0) (by decide)
  rw [Si_cg (Q := Fp_ G d i) (fun h _ => ⟨fun z => z.1, fun z => ⟨z, Nat.and_zero h⟩⟩)] at this
  exact this
theorem f_factorW {G : Nat → Wl_} (hn : n ≤ 8) {fo li : Nat} {rk cm mk ro wi la lb : Nat → Int32} (hC : CU_ G n d fo li rk cm mk ro wi la lb) (i : Int32) {k : Nat} (hk : k < n) : fX2_factor (nI d) (nI n) rk cm i ((1 : Int32) <<< (nI k &&& 31)) = some (iI_ (Si_ n (fun h => Fp_ G d i h ∧ h.testBit k = false))) := by
  have h2k : 2 ^ k ≤ 256 := Nat.pow_le_pow_right (n := 2) (j := 8) (by decide) (by omega)
  have := f_factor hn hC i (sk := 2 ^ k) (by omega)
  rw [Si_cg (Q := fun h => Fp_ G d i h ∧ h.testBit k = false) (fun h _ => and_congr_right (fun _ => fb_bit_nat h k))] at this
  rw [sh_1 k (by omega)]
  exact this
theorem c_poly (hP : PI_ (gC_ va vb vc ve) n) (hT : TH_ vth) {u : CT_} (hu : cI_ (gC_ va vb vc ve) n d u) (i : Int32) : ∃ u' : CT_, fX5_poly (nI d) (nI n) u.1 u.2.1 u.2.2.1 va vb vc ve vth u.2.2.2.1 u.2.2.2.2.1 u.2.2.2.2.2.1 u.2.2.2.2.2.2.1 u.2.2.2.2.2.2.2.1 u.2.2.2.2.2.2.2.2.1 u.2.2.2.2.2.2.2.2.2.1 u.2.2.2.2.2.2.2.2.2.2.1 u.2.2.2.2.2.2.2.2.2.2.2.1 u.2.2.2.2.2.2.2.2.2.2.2.2.1 u.2.2.2.2.2.2.2.2.2.2.2.2.2.1 u.2.2.2.2.2.2.2.2.2.2.2.2.2.2.1 u.2.2.2.2.2.2.2.2.2.2.2.2.2.2.2.1 u.2.2.2.2.2.2.2.2.2.2.2.2.2.2.2.2.1 u.2.2.2.2.2.2.2.2.2.2.2.2.2.2.2.2.2.1 u.2.2.2.2.2.2.2.2.2.2.2.2.2.2.2.2.2.2.1 u.2.2.2.2.2.2.2.2.2.2.2.2.2.2.2.2.2.2.2.1 u.2.2.2.2.2.2.2.2.2.2.2.2.2.2.2.2.2.2.2.2.1 u.2.2.2.2.2.2.2.2.2.2.2.2.2.2.2.2.2.2.2.2.2.1 u.2.2.2.2.2.2.2.2.2.2.2.2.2.2.2.2.2.2.2.2.2.2.1 u.2.2.2.2.2.2.2.2.2.2.2.2.2.2.2.2.2.2.2.2.2.2.2.1 u.2.2.2.2.2.2.2.2.2.2.2.2.2.2.2.2.2.2.2.2.2.2.2.2.1 u.2.2.2.2.2.2.2.2.2.2.2.2.2.2.2.2.2.2.2.2.2.2.2.2.2 i = some (vP_ (gC_ va vb vc ve) n d i, u') ∧ cI_ (gC_ va vb vc ve) n d u' := by
  unfold fX5_poly
  have hn := hP.1
  obtain ⟨u', e, hF⟩ := f_freshCut hP hT hu
  obtain ⟨h5, h6, fo, li, h7, h8, hC⟩ := hF
  rw [bind_yes e, bind_yes (f_factor0 hn hC i)]
  exact ⟨u', rfl, Or.inr ⟨h5, h6, fo, li, h7, h8, hC⟩⟩
theorem c_without (hP : PI_ (gC_ va vb vc ve) n) (hT : TH_ vth) {u : CT_} (hu : cI_ (gC_ va vb vc ve) n d u) (w i : Int32) : ∃ u' : CT_, fX5_without (nI d) (nI n) u.1 u.2.1 u.2.2.1 va vb vc ve vth u.2.2.2.1 u.2.2.2.2.1 u.2.2.2.2.2.1 u.2.2.2.2.2.2.1 u.2.2.2.2.2.2.2.1 u.2.2.2.2.2.2.2.2.1 u.2.2.2.2.2.2.2.2.2.1 u.2.2.2.2.2.2.2.2.2.2.1 u.2.2.2.2.2.2.2.2.2.2.2.1 u.2.2.2.2.2.2.2.2.2.2.2.2.1 u.2.2.2.2.2.2.2.2.2.2.2.2.2.1 u.2.2.2.2.2.2.2.2.2.2.2.2.2.2.1 u.2.2.2.2.2.2.2.2.2.2.2.2.2.2.2.1 u.2.2.2.2.2.2.2.2.2.2.2.2.2.2.2.2.1 u.2.2.2.2.2.2.2.2.2.2.2.2.2.2.2.2.2.1 u.2.2.2.2.2.2.2.2.2.2.2.2.2.2.2.2.2.2.1 u.2.2.2.2.2.2.2.2.2.2.2.2.2.2.2.2.2.2.2.1 u.2.2.2.2.2.2.2.2.2.2.2.2.2.2.2.2.2.2.2.2.1 u.2.2.2.2.2.2.2.2.2.2.2.2.2.2.2.2.2.2.2.2.2.1 u.2.2.2.2.2.2.2.2.2.2.2.2.2.2.2.2.2.2.2.2.2.2.1 u.2.2.2.2.2.2.2.2.2.2.2.2.2.2.2.2.2.2.2.2.2.2.2.1 u.2.2.2.2.2.2.2.2.2.2.2.2.2.2.2.2.2.2.2.2.2.2.2.2.1 u.2.2.2.2.2.2.2.2.2.2.2.2.2.2.2.2.2.2.2.2.2.2.2.2.2 w i = some (vO_ (gC_ va vb vc ve) n d w i, u') ∧ cI_ (gC_ va vb vc ve) n d u' := by
  unfold fX5_without vO_
  have hn := hP.1
  obtain ⟨x, e1, hy⟩ := f_holds (p := w) hn
  rw [bind_yes e1]
  rcases hy with ⟨rfl, hk⟩ | ⟨rfl, hk⟩
  · rw [if_neg (by decide), ci2_t hk]
    obtain ⟨k, hk, rfl⟩ := hk
    obtain ⟨u', e, hF⟩ := f_freshCut hP hT hu
    obtain ⟨h5, h6, fo, li, h7, h8, hC⟩ := hF
    rw [bind_yes e, bind_yes (f_factorW hn hC i hk), nI_clamp (by omega)]
    exact ⟨u', rfl, Or.inr ⟨h5, h6, fo, li, h7, h8, hC⟩⟩
  · rw [if_pos rfl, ci2_f hk]
    exact ⟨u, rfl, hu⟩
end PC
end
section
/-! the polynomial on a wall: what others cut out of it twice cancels -/
theorem si_2 (f : Nat → Int) (m : Nat) : fb_si f (m * 2) = fb_si f m + fb_si (fun h => f (h + m)) m := by
  rw [show m * 2 = m + m by omega, fb_si_split]
  congr 1
  exact fb_si_cong (fun k _ => by rw [Nat.add_comm])
theorem xor_top {h m o : Nat} (hh : h < 2 ^ m) (ho : o < m) : (h + 2 ^ m) ^^^ 2 ^ o = (h ^^^ 2 ^ o) + 2 ^ m := by
  have hx : h ^^^ 2 ^ o < 2 ^ m := Nat.xor_lt_two_pow hh (Nat.pow_lt_pow_right (by decide) ho)
  apply Nat.eq_of_testBit_eq
  intro j
  rw [fb_bit_flip, bit_more hh, bit_more hx, fb_bit_flip]
  by_cases q : j = m
  · subst q
    have h1 : ¬ j = o := by omega
    simp [h1]
  · simp [q]
theorem inv_0 : ∀ (n o : Nat) (g : Nat → Int), o < n → (∀ h, h < 2 ^ n → g (h ^^^ 2 ^ o) = - g h) → fb_si g (2 ^ n) = 0 := by
  intro n
  induction n with
  | zero => intro o g h; omega
  | succ n ih =>
    intro o g ho hg
    rw [Nat.pow_succ, si_2]
    have h2 : 2 ^ (n + 1) = 2 ^ n * 2 := Nat.pow_succ ..
    rcases (show o < n ∨ o = n by omega) with q | rfl
    · rw [ih o g q (fun h hh => hg h (by omega)), ih o (fun h => g (h + 2 ^ n)) q (fun h hh => by
        rw [← xor_top hh q]
        exact hg _ (by omega))]
      rfl
    · rw [← fb_si_add]
      have : ∀ k, k < 2 ^ o → g k + g (k + 2 ^ o) = 0 := by
        intro k hk
        have := hg k (by omega)
        have e : k ^^^ 2 ^ o = k + 2 ^ o := by
          rw [← or_add hk]
          apply Nat.eq_of_testBit_eq
          intro j
          rw [fb_bit_flip, fb_bit_set]
          by_cases w : j = o
          · subst w
            rw [Nat.testBit_lt_two_pow hk]; simp
          · simp [w]
        rw [e] at this
        omega
      rw [fb_si_cong (g := fun _ => 0) this]
      have z : ∀ N, fb_si (fun _ => (0 : Int)) N = 0 := by
        intro N
        induction N with
        | zero => rfl
        | succ N ih => rw [fb_si_succ, ih]; rfl
      exact z _
theorem sg2_flip : ∀ h : Fin 256, ∀ o : Fin 8, sg2_ (h.val ^^^ 2 ^ o.val) = - sg2_ h.val := by decide +kernel
theorem Si_split (n : Nat) (P Q : Nat → Prop) : Si_ n P = Si_ n (fun h => P h ∧ Q h) + Si_ n (fun h => P h ∧ ¬ Q h) := by
  unfold Si_
  rw [← fb_si_add]
  refine fb_si_cong (fun h _ => ?_)
  by_cases p : P h
  · by_cases q : Q h
    · rw [if_pos (pb_t.mpr p), if_pos (pb_t.mpr ⟨p, q⟩), if_neg (fun z => (pb_t.mp z).2 q), Int.add_zero]
    · rw [if_pos (pb_t.mpr p), if_neg (fun z => q (pb_t.mp z).2), if_pos (pb_t.mpr ⟨p, q⟩), Int.zero_add]
  · rw [if_neg (fun z => p (pb_t.mp z)), if_neg (fun z => p (pb_t.mp z).1), if_neg (fun z => p (pb_t.mp z).1)]; rfl
theorem Si_none {n : Nat} {P : Nat → Prop} (h : ∀ k, k < 2 ^ n → ¬ P k) : Si_ n P = 0 := by
  unfold Si_
  have z : ∀ N, N ≤ 2 ^ n → fb_si (fun h => if pb_ (P h) = true then sg2_ h else 0) N = 0 := by
    intro N
    induction N with
    | zero => intro _; rfl
    | succ N ih => intro hN; rw [fb_si_succ, ih (by omega), if_neg (fun q => h N (by omega) (pb_t.mp q))]; rfl
  exact z _ (Nat.le_refl _)
theorem Si_inv {n o : Nat} (hn : n ≤ 8) (ho : o < n) {P : Nat → Prop} (h : ∀ k, k < 2 ^ n → (P (k ^^^ 2 ^ o) ↔ P k)) : Si_ n P = 0 := by
  unfold Si_
  refine inv_0 n o _ ho (fun k hk => ?_)
  have h2n : 2 ^ n ≤ 256 := Nat.pow_le_pow_right (n := 2) (j := 8) (by decide) hn
  have hs := sg2_flip ⟨k, by omega⟩ ⟨o, by omega⟩
  dsimp only at hs ⊢
  by_cases p : P k
  · rw [if_pos (pb_t.mpr ((h k hk).mpr p)), if_pos (pb_t.mpr p), hs]
  · rw [if_neg (fun z => p ((h k hk).mp (pb_t.mp z))), if_neg (fun z => p (pb_t.mp z))]; rfl
theorem T_rm {n k : Nat} (hn : n ≤ 8) {U F : Nat → Prop} (h : (∀ h, h < 2 ^ n → (∀ j, h.testBit j = true → U j) → h.testBit k = true → ¬ F h) ∨ ∃ o, o < n ∧ o ≠ k ∧ U o ∧ ∀ h, h < 2 ^ n → h.testBit k = true → (F (h ^^^ 2 ^ o) ↔ F h)) :
    Si_ n (fun h => (∀ j, h.testBit j = true → U j) ∧ F h) = Si_ n (fun h => (∀ j, h.testBit j = true → U j ∧ j ≠ k) ∧ F h) := by
  rw [Si_split n (fun h => (∀ j, h.testBit j = true → U j) ∧ F h) (fun h => h.testBit k = true)]
  have e0 : Si_ n (fun h => ((∀ j, h.testBit j = true → U j) ∧ F h) ∧ h.testBit k = true) = 0 := by
    rcases h with h | ⟨o, ho, hok, hU, h⟩
    · exact Si_none (fun x hx q => h x hx q.1.1 q.2 q.1.2)
    · refine Si_inv hn ho (fun x hx => ?_)
      have hbk : (x ^^^ 2 ^ o).testBit k = x.testBit k := by
        rw [fb_bit_flip]
        have : ¬ k = o := fun q => hok q.symm
        simp [this]
      have hbj : (∀ j, (x ^^^ 2 ^ o).testBit j = true → U j) ↔ ∀ j, x.testBit j = true → U j := by
        constructor
        · intro q j hj
          by_cases w : j = o
          · rw [w]; exact hU
          · exact q j (by rw [fb_bit_flip]; simp [w, hj])
        · intro q j hj
          by_cases w : j = o
          · rw [w]; exact hU
          · rw [fb_bit_flip] at hj
            simp [w] at hj
            exact q j hj
      rw [hbk, hbj]
      by_cases c : x.testBit k = true
      · rw [h x hx c]
      · exact ⟨fun q => absurd q.2 c, fun q => absurd q.2 c⟩
  rw [e0, Int.zero_add]
  refine Si_cg (fun x _ => ⟨fun q => ⟨fun j hj => ⟨q.1.1 j hj, fun w => q.2 (by rw [← w]; exact hj)⟩, q.1.2⟩, fun q => ⟨⟨fun j hj => (q.1 j hj).1, q.2⟩, fun w => (q.1 k w).2 rfl⟩⟩)
theorem two_b (w k j : Nat) : (2 ^ w ||| 2 ^ k).testBit j = (decide (j = w) || decide (j = k)) := by
  rw [fb_bit_set, Nat.testBit_two_pow]
  congr 1
  exact decide_eq_decide.mpr ⟨fun h => h.symm, fun h => h.symm⟩
theorem three_b (w k o j : Nat) : (2 ^ w ||| 2 ^ k ||| 2 ^ o).testBit j = (decide (j = w) || decide (j = k) || decide (j = o)) := by
  rw [fb_bit_set, two_b]
/-- another wall meets this one and isn't beside it -/
def mt_ (G : Nat → Wl_) (w k : Nat) : Prop := hC_ G (2 ^ w ||| 2 ^ k) ∧ 2 ≤ rk_ (hS_ G (2 ^ w ||| 2 ^ k))
noncomputable def r4_ (G : Nat → Wl_) (h : Nat) : Nat := rk_ (hS_ G h) + iN_ (¬ hC_ G h)
def OF_ (G : Nat → Wl_) (w m κ : Nat) : Prop := m < 2 ^ κ ∧ ∀ k, k < κ → (m.testBit k = true ↔ k ≠ w ∧ mt_ G w k ∧ ∀ o, o < k → m.testBit o = true → r4_ G (2 ^ w ||| 2 ^ k ||| 2 ^ o) ≠ 2)
theorem mt_cx {G : Nat → Wl_} {w k : Nat} (h : mt_ G w k) : cx_ (G w) (G k) ≠ o3_ := by
  intro hc
  have hR2 : R2_ (hS_ G (2 ^ w ||| 2 ^ k)) := by
    have l3 := rk_le3 (hS_ G (2 ^ w ||| 2 ^ k))
    have := h.2
    rcases (show rk_ (hS_ G (2 ^ w ||| 2 ^ k)) = 2 ∨ rk_ (hS_ G (2 ^ w ||| 2 ^ k)) = 3 by omega) with q | q
    · exact (rk_inv2 q).1
    · exact R3_R2 (rk_inv3 q)
  obtain ⟨x, y, ⟨a, ha, rfl⟩, ⟨b, hb, rfl⟩, hd⟩ := hR2
  rw [two_b] at ha hb
  simp at ha hb
  rcases ha with rfl | rfl <;> rcases hb with rfl | rfl
  · exact hd (cx_self _)
  · exact hd hc
  · exact hd (cx_swap hc)
  · exact hd (cx_self _)
theorem mt_not {G : Nat → Wl_} {n d w k : Nat} (hI : MI_ G n d) (hw : w < n) (hk : k < n) (hwk : k ≠ w) (hc : hC_ G (2 ^ w ||| 2 ^ k)) : mt_ G w k := by
  refine ⟨hc, ?_⟩
  have hcx : cx_ (G w) (G k) ≠ o3_ := by
    intro hz
    obtain ⟨p, hp⟩ := hc
    exact hI.2.2.2.2.2.2 w k hw hk (fun q => hwk q.symm) (s4_on hz (hp w (by rw [two_b]; simp)) (hp k (by rw [two_b]; simp)))
  have hR2 : R2_ (hS_ G (2 ^ w ||| 2 ^ k)) := ⟨G w, G k, ⟨w, by rw [two_b]; simp, rfl⟩, ⟨k, by rw [two_b]; simp, rfl⟩, hcx⟩
  by_cases h3 : R3_ (hS_ G (2 ^ w ||| 2 ^ k))
  · rw [rk_3 h3]; omega
  · rw [rk_2 hR2 h3]; omega
theorem rk_dep {X : Wl_ → Prop} {x y z : Wl_} (hx : X x) (hy : X y) (hc : cx_ x y ≠ o3_) (hz : dr_ z (cx_ x y) = 0) : rk_ (fun w => X w ∨ w = z) = rk_ X := by
  by_cases h3 : R3_ X
  · rw [rk_3 h3, rk_add3 (rk_3 h3)]
  · have h2 := rk_2 ⟨x, y, hx, hy, hc⟩ h3
    rw [h2, rk_add2 h2 hx hy hc hz]
/-- where two others cut the same out of a wall, one of them may come or go -/
theorem on_flip {G : Nat → Wl_} {d w k o : Nat} {i : Int32} (hm : mt_ G w k) (h4 : r4_ G (2 ^ w ||| 2 ^ k ||| 2 ^ o) = 2) {h : Nat} (hk : h.testBit k = true) (hok : o ≠ k) (how : o ≠ w) : Fp_ G d i ((h ^^^ 2 ^ o) ||| 2 ^ w) ↔ Fp_ G d i (h ||| 2 ^ w) := by
  have hcx := mt_cx hm
  have hR2 : R2_ (hS_ G (2 ^ w ||| 2 ^ k ||| 2 ^ o)) := ⟨G w, G k, ⟨w, by rw [three_b]; simp, rfl⟩, ⟨k, by rw [three_b]; simp, rfl⟩, hcx⟩
  unfold r4_ at h4
  have l1 := iN_le (¬ hC_ G (2 ^ w ||| 2 ^ k ||| 2 ^ o))
  have hrk : ¬ R3_ (hS_ G (2 ^ w ||| 2 ^ k ||| 2 ^ o)) := fun h3 => by rw [rk_3 h3] at h4; omega
  have hcom : hC_ G (2 ^ w ||| 2 ^ k ||| 2 ^ o) := by
    refine Classical.byContradiction fun q => ?_
    rw [rk_2 hR2 hrk, iN_1 q] at h4
    omega
  have hz : dr_ (G o) (cx_ (G w) (G k)) = 0 := by
    refine Classical.byContradiction fun q => hrk ⟨G w, G k, G o, ⟨w, by rw [three_b]; simp, rfl⟩, ⟨k, by rw [three_b]; simp, rfl⟩, ⟨o, by rw [three_b]; simp, rfl⟩, q⟩
  obtain ⟨p0, hp0⟩ := hcom
  have w0 := hp0 w (by rw [three_b]; simp)
  have k0 := hp0 k (by rw [three_b]; simp)
  have o0 := hp0 o (by rw [three_b]; simp)
  have hon : ∀ p, ev_ (G w) p = 0 → ev_ (G k) p = 0 → ev_ (G o) p = 0 := by
    intro p h1 h2
    have d1 : dr_ (G w) (sb_ p p0) = 0 := by rw [dr_sb, h1, w0]; grind
    have d2 : dr_ (G k) (sb_ p p0) = 0 := by rw [dr_sb, h2, k0]; grind
    obtain ⟨t, ht⟩ := along_cx d1 d2 hcx
    have d3 := dr_sb (G o) p p0
    rw [ht, dr_mu, hz, o0] at d3
    grind
  have hbw : ∀ x : Nat, (x ||| 2 ^ w).testBit w = true := fun x => by rw [fb_bit_set]; simp
  have hbk : (h ||| 2 ^ w).testBit k = true := by rw [fb_bit_set, hk]; rfl
  have hbk' : ((h ^^^ 2 ^ o) ||| 2 ^ w).testBit k = true := by
    rw [fb_bit_set, fb_bit_flip, hk]
    have : ¬ k = o := fun q => hok q.symm
    simp [this]
  have other : ∀ j, j ≠ o → ((h ^^^ 2 ^ o) ||| 2 ^ w).testBit j = (h ||| 2 ^ w).testBit j := by
    intro j hj
    rw [fb_bit_set, fb_bit_set, fb_bit_flip]
    simp [hj]
  have hC : hC_ G ((h ^^^ 2 ^ o) ||| 2 ^ w) ↔ hC_ G (h ||| 2 ^ w) := by
    constructor
    · rintro ⟨p, hp⟩
      refine ⟨p, fun j hj => ?_⟩
      by_cases q : j = o
      · rw [q]; exact hon p (hp w (hbw _)) (hp k hbk')
      · exact hp j (by rw [other j q]; exact hj)
    · rintro ⟨p, hp⟩
      refine ⟨p, fun j hj => ?_⟩
      by_cases q : j = o
      · rw [q]; exact hon p (hp w (hbw _)) (hp k hbk)
      · exact hp j (by rw [← other j q]; exact hj)
  -- both have the rank of the heap with the wall o
  have hrkx : ∀ x : Nat, x.testBit w = true → x.testBit k = true → rk_ (hS_ G x) = rk_ (fun y => hS_ G x y ∨ y = G o) := fun x h1 h2 => (rk_dep ⟨w, h1, rfl⟩ ⟨k, h2, rfl⟩ hcx hz).symm
  have hR : rk_ (hS_ G ((h ^^^ 2 ^ o) ||| 2 ^ w)) = rk_ (hS_ G (h ||| 2 ^ w)) := by
    rw [hrkx _ (hbw _) hbk', hrkx _ (hbw _) hbk]
    refine rk_cg (fun y => ?_)
    constructor
    · rintro (⟨j, hj, rfl⟩ | rfl)
      · by_cases q : j = o
        · rw [q]; exact Or.inr rfl
        · exact Or.inl ⟨j, by rw [← other j q]; exact hj, rfl⟩
      · exact Or.inr rfl
    · rintro (⟨j, hj, rfl⟩ | rfl)
      · by_cases q : j = o
        · rw [q]; exact Or.inr rfl
        · exact Or.inl ⟨j, by rw [other j q]; exact hj, rfl⟩
      · exact Or.inr rfl
  unfold Fp_
  rw [hC, hR]
theorem on_same {G : Nat → Wl_} {n d w m : Nat} {i : Int32} (hI : MI_ G n d) (hw : w < n) (hO : OF_ G w m n) :
    Si_ n (fun h => h.testBit w = false ∧ Fp_ G d i (h ||| 2 ^ w)) = Si_ n (fun h => (∀ k, h.testBit k = true → m.testBit k = true) ∧ Fp_ G d i (h ||| 2 ^ w)) := by
  have hn := hI.1
  obtain ⟨hm, hO⟩ := hO
  have main : ∀ j, j ≤ n → Si_ n (fun h => (∀ k, h.testBit k = true → k ≠ w ∧ (k < j ∨ m.testBit k = true)) ∧ Fp_ G d i (h ||| 2 ^ w)) = Si_ n (fun h => (∀ k, h.testBit k = true → k ≠ w ∧ m.testBit k = true) ∧ Fp_ G d i (h ||| 2 ^ w)) := by
    intro j
    induction j with
    | zero =>
      intro _
      refine Si_cg (fun h _ => and_congr_left (fun _ => ?_))
      exact ⟨fun q k hk => ⟨(q k hk).1, ((q k hk).2).resolve_left (Nat.not_lt_zero k)⟩, fun q k hk => ⟨(q k hk).1, Or.inr (q k hk).2⟩⟩
    | succ j ih =>
      intro hj
      rw [← ih (by omega)]
      by_cases c : j = w ∨ m.testBit j = true
      · refine Si_cg (fun h _ => and_congr_left (fun _ => ?_))
        constructor
        · intro q k hk
          refine ⟨(q k hk).1, ?_⟩
          rcases (q k hk).2 with z | z
          · rcases (show k < j ∨ k = j by omega) with y | rfl
            · exact Or.inl y
            · rcases c with rfl | c
              · exact absurd rfl (q k hk).1
              · exact Or.inr c
          · exact Or.inr z
        · intro q k hk
          refine ⟨(q k hk).1, ?_⟩
          rcases (q k hk).2 with z | z
          · exact Or.inl (by omega)
          · exact Or.inr z
      · have hjw : j ≠ w := fun q => c (Or.inl q)
        have hjm : ¬ m.testBit j = true := fun q => c (Or.inr q)
        have hno := fun q => hjm ((hO j (by omega)).mpr q)
        rw [T_rm (k := j) hn (U := fun k => k ≠ w ∧ (k < j + 1 ∨ m.testBit k = true)) (F := fun h => Fp_ G d i (h ||| 2 ^ w)) ?_]
        · refine Si_cg (fun h _ => and_congr_left (fun _ => ?_))
          constructor
          · intro q k hk
            obtain ⟨⟨q1, q2⟩, q3⟩ := q k hk
            refine ⟨q1, ?_⟩
            rcases q2 with z | z
            · exact Or.inl (by omega)
            · exact Or.inr z
          · intro q k hk
            obtain ⟨q1, q2⟩ := q k hk
            refine ⟨⟨q1, ?_⟩, ?_⟩
            · rcases q2 with z | z
              · exact Or.inl (by omega)
              · exact Or.inr z
            · rcases q2 with z | z
              · omega
              · exact fun y => hjm (by rw [← y]; exact z)
        · by_cases hmt : mt_ G w j
          · right
            have : ∃ o, o < j ∧ m.testBit o = true ∧ r4_ G (2 ^ w ||| 2 ^ j ||| 2 ^ o) = 2 := by
              refine Classical.byContradiction fun q => hno ⟨hjw, hmt, fun o ho hmo h4 => q ⟨o, ho, hmo, h4⟩⟩
            obtain ⟨o, ho, hmo, h4⟩ := this
            have how : o ≠ w := ((hO o (by omega)).mp hmo).1
            exact ⟨o, by omega, by omega, ⟨how, Or.inr hmo⟩, fun h _ hk => on_flip hmt h4 hk (by omega) how⟩
          · left
            intro h _ _ hk hF
            apply hmt
            refine mt_not hI hw (by omega) hjw ?_
            obtain ⟨⟨p, hp⟩, _⟩ := hF
            refine ⟨p, fun k' hk' => hp k' ?_⟩
            rw [two_b] at hk'
            simp at hk'
            rcases hk' with rfl | rfl
            · rw [fb_bit_set]; simp
            · rw [fb_bit_set, hk]; rfl
  have e1 : Si_ n (fun h => h.testBit w = false ∧ Fp_ G d i (h ||| 2 ^ w)) = Si_ n (fun h => (∀ k, h.testBit k = true → k ≠ w ∧ (k < n ∨ m.testBit k = true)) ∧ Fp_ G d i (h ||| 2 ^ w)) := by
    refine Si_cg (fun h hh => and_congr_left (fun _ => ?_))
    constructor
    · intro q k hk
      exact ⟨fun z => (by rw [z, q] at hk; cases hk), Or.inl (lt_bit hh hk)⟩
    · intro q
      cases e : h.testBit w with
      | false => rfl
      | true => exact absurd rfl (q w e).1
  rw [e1, main n (Nat.le_refl n)]
  refine Si_cg (fun h _ => and_congr_left (fun _ => ?_))
  exact ⟨fun q k hk => (q k hk).2, fun q k hk => ⟨((hO k (lt_bit hm (q k hk))).mp (q k hk)).1, q k hk⟩⟩
theorem on_diff {n d w : Nat} {G : Nat → Wl_} {i : Int32} (hn : n ≤ 8) (hw : w < n) : Si_ n (fun h => Fp_ G d i h ∧ h.testBit w = false) - Si_ n (Fp_ G d i) = Si_ n (fun h => h.testBit w = false ∧ Fp_ G d i (h ||| 2 ^ w)) := by
  rw [Si_split n (Fp_ G d i) (fun h => h.testBit w = false)]
  have key : Si_ n (fun h => Fp_ G d i (h ||| 2 ^ w)) = 0 := by
    refine Si_inv hn hw (fun h _ => ?_)
    have : (h ^^^ 2 ^ w) ||| 2 ^ w = h ||| 2 ^ w := by
      apply Nat.eq_of_testBit_eq
      intro j
      rw [fb_bit_set, fb_bit_set, fb_bit_flip]
      by_cases q : j = w <;> simp [q]
    rw [this]
  rw [Si_split n (fun h => Fp_ G d i (h ||| 2 ^ w)) (fun h => h.testBit w = false)] at key
  have a : Si_ n (fun h => Fp_ G d i (h ||| 2 ^ w) ∧ h.testBit w = false) = Si_ n (fun h => h.testBit w = false ∧ Fp_ G d i (h ||| 2 ^ w)) := Si_cg (fun h _ => and_comm)
  have b : Si_ n (fun h => Fp_ G d i (h ||| 2 ^ w) ∧ ¬ h.testBit w = false) = Si_ n (fun h => Fp_ G d i h ∧ ¬ h.testBit w = false) := by
    refine Si_cg (fun h _ => and_congr_left (fun q => ?_))
    have : h ||| 2 ^ w = h := by
      apply Nat.eq_of_testBit_eq
      intro j
      rw [fb_bit_set]
      by_cases z : j = w
      · subst z
        cases e : h.testBit j with
        | false => exact absurd e q
        | true => rfl
      · simp [z]
    rw [this]
  rw [a, b] at key
  omega
noncomputable def vN_ (G : Nat → Wl_) (n d : Nat) (w i : Int32) : Int32 := ci2_ (∃ k, k < n ∧ w = nI k) (iI_ (Si_ n (fun h => h.testBit w.toNatClampNeg = false ∧ Fp_ G d i (h ||| 2 ^ w.toNatClampNeg)))) 0
section ONC
variable {va vb vc ve vth : Nat → Int32} {n d : Nat}
theorem c_on (hP : PI_ (gC_ va vb vc ve) n) (hT : TH_ vth) {u : CT_} (hu : cI_ (gC_ va vb vc ve) n d u) (w i : Int32) : ∃ u' : CT_, fX5_on (nI d) (nI n) u.1 u.2.1 u.2.2.1 va vb vc ve vth u.2.2.2.1 u.2.2.2.2.1 u.2.2.2.2.2.1 u.2.2.2.2.2.2.1 u.2.2.2.2.2.2.2.1 u.2.2.2.2.2.2.2.2.1 u.2.2.2.2.2.2.2.2.2.1 u.2.2.2.2.2.2.2.2.2.2.1 u.2.2.2.2.2.2.2.2.2.2.2.1 u.2.2.2.2.2.2.2.2.2.2.2.2.1 u.2.2.2.2.2.2.2.2.2.2.2.2.2.1 u.2.2.2.2.2.2.2.2.2.2.2.2.2.2.1 u.2.2.2.2.2.2.2.2.2.2.2.2.2.2.2.1 u.2.2.2.2.2.2.2.2.2.2.2.2.2.2.2.2.1 u.2.2.2.2.2.2.2.2.2.2.2.2.2.2.2.2.2.1 u.2.2.2.2.2.2.2.2.2.2.2.2.2.2.2.2.2.2.1 u.2.2.2.2.2.2.2.2.2.2.2.2.2.2.2.2.2.2.2.1 u.2.2.2.2.2.2.2.2.2.2.2.2.2.2.2.2.2.2.2.2.1 u.2.2.2.2.2.2.2.2.2.2.2.2.2.2.2.2.2.2.2.2.2.1 u.2.2.2.2.2.2.2.2.2.2.2.2.2.2.2.2.2.2.2.2.2.2.1 u.2.2.2.2.2.2.2.2.2.2.2.2.2.2.2.2.2.2.2.2.2.2.2.1 u.2.2.2.2.2.2.2.2.2.2.2.2.2.2.2.2.2.2.2.2.2.2.2.2.1 u.2.2.2.2.2.2.2.2.2.2.2.2.2.2.2.2.2.2.2.2.2.2.2.2.2 w i = some (vN_ (gC_ va vb vc ve) n d w i, u') ∧ cI_ (gC_ va vb vc ve) n d u' := by
  unfold fX5_on vN_
  have hn := hP.1
  obtain ⟨x, e1, hy⟩ := f_holds (p := w) hn
  rw [bind_yes e1]
  rcases hy with ⟨rfl, hk⟩ | ⟨rfl, hk⟩
  · rw [if_neg (by decide), ci2_t hk]
    obtain ⟨k, hk, rfl⟩ := hk
    obtain ⟨u', e, hF⟩ := f_freshCut hP hT hu
    obtain ⟨h5, h6, fo, li, h7, h8, hC⟩ := hF
    rw [bind_yes e, bind_yes (f_factorW hn hC i hk), bind_yes (f_factor0 hn hC i), nI_clamp (by omega), ← on_diff hn hk]
    unfold vP_
    rw [iI_sub]
    exact ⟨u', rfl, Or.inr ⟨h5, h6, fo, li, h7, h8, hC⟩⟩
  · rw [if_pos rfl, ci2_f hk]
    exact ⟨u, rfl, hu⟩
end ONC
section ONM
variable {wl : Nat → Int32} {n d : Nat}
theorem m_isNew (hI : MI_ (gM_ wl) n d) {w k m : Nat} (hw : w < n) (hk : k < n) (hm : m < 2 ^ k) (t : Nat → Int64) :
    ∃ j x t', lp_ (fun (st : (Int32 × Int32 × (Nat → Int64))) => fX6_on_L78 (nI k) (nI m) (nI n) wl (nI w) st.1 st.2.1 st.2.2) fu_ ((0 : Int32), (1 : Int32), t) = some (j, x, t') ∧ yn_ x (∀ o, o < k → m.testBit o = true → r4_ (gM_ wl) (2 ^ w ||| 2 ^ k ||| 2 ^ o) ≠ 2) := by
  obtain ⟨hn, hd1, hd, hb, hnv, hz, _⟩ := hI
  have h2k : 2 ^ k ≤ 256 := Nat.pow_le_pow_right (n := 2) (j := 8) (by decide) (by omega)
  have hlp := lp_for (body := fun (st : (Int32 × Int32 × (Nat → Int64))) => fX6_on_L78 (nI k) (nI m) (nI n) wl (nI w) st.1 st.2.1 st.2.2)
    (fun κ st => st.1 = nI κ ∧ yn_ st.2.1 (∀ o, o < κ → m.testBit o = true → r4_ (gM_ wl) (2 ^ w ||| 2 ^ k ||| 2 ^ o) ≠ 2))
    (fun st => yn_ st.2.1 (∀ o, o < k → m.testBit o = true → r4_ (gM_ wl) (2 ^ w ||| 2 ^ k ||| 2 ^ o) ≠ 2)) k (by omega) (s := ((0 : Int32), (1 : Int32), t)) ⟨rfl, Or.inl ⟨rfl, fun o ho => absurd ho (Nat.not_lt_zero o)⟩⟩ ?_ ?_
  · obtain ⟨⟨j, x, t'⟩, e1, e2⟩ := hlp
    exact ⟨j, x, t', e1, e2⟩
  · rintro κ ⟨j, x, t1⟩ hκ ⟨e1, e2⟩
    dsimp only at e1 e2 ⊢
    subst e1
    left
    unfold fX6_on_L78
    rw [if_neg (nI_ge hκ (by omega))]
    have hbt := bit_t1 (h := m) (k := κ) (by omega) (by omega)
    cases e : m.testBit κ with
    | false =>
      rw [if_neg (fun q => by rw [hbt.mp q] at e; cases e)]
      refine ⟨_, rfl, nI_1 κ, yn_cg e2 ⟨fun q o ho hmo => ?_, fun q o ho => q o (by omega)⟩⟩
      rcases (show o < κ ∨ o = κ by omega) with c | rfl
      · exact q o c hmo
      · rw [e] at hmo; cases hmo
    | true =>
      rw [if_pos (hbt.mpr e)]
      have hmask : (((1 : Int32) <<< (nI w &&& 31)) ||| ((1 : Int32) <<< (nI k &&& 31))) ||| ((1 : Int32) <<< (nI κ &&& 31)) = nI (2 ^ w ||| 2 ^ k ||| 2 ^ κ) := by rw [sh_1 w (by omega), sh_1 k (by omega), sh_1 κ (by omega), nI_or, nI_or]
      have hlt : 2 ^ w ||| 2 ^ k ||| 2 ^ κ < 2 ^ n := Nat.or_lt_two_pow (Nat.or_lt_two_pow (Nat.pow_lt_pow_right (by decide) hw) (Nat.pow_lt_pow_right (by decide) hk)) (Nat.pow_lt_pow_right (by decide) (by omega))
      obtain ⟨t2, e3⟩ := m_rank4 hn hb hnv hlt t1
      rw [hmask, bind_yes e3]
      dsimp only
      have l1 := iN_le (¬ hC_ (gM_ wl) (2 ^ w ||| 2 ^ k ||| 2 ^ κ))
      have l3 := rk_le3 (hS_ (gM_ wl) (2 ^ w ||| 2 ^ k ||| 2 ^ κ))
      have e4 : (nI (rk_ (hS_ (gM_ wl) (2 ^ w ||| 2 ^ k ||| 2 ^ κ)) + iN_ (¬ hC_ (gM_ wl) (2 ^ w ||| 2 ^ k ||| 2 ^ κ))) = (2 : Int32)) ↔ r4_ (gM_ wl) (2 ^ w ||| 2 ^ k ||| 2 ^ κ) = 2 := nI_eq (b := 2) (by omega) (by decide)
      by_cases c : r4_ (gM_ wl) (2 ^ w ||| 2 ^ k ||| 2 ^ κ) = 2
      · rw [if_pos (e4.mpr c)]
        exact ⟨_, rfl, nI_1 κ, Or.inr ⟨rfl, fun q => q κ (by omega) e c⟩⟩
      · rw [if_neg (fun q => c (e4.mp q))]
        refine ⟨_, rfl, nI_1 κ, yn_cg e2 ⟨fun q o ho hmo => ?_, fun q o ho => q o (by omega)⟩⟩
        rcases (show o < κ ∨ o = κ by omega) with y | rfl
        · exact q o y hmo
        · exact c
  · rintro ⟨j, x, t1⟩ ⟨e1, e2⟩
    dsimp only at e1 e2 ⊢
    subst e1
    unfold fX6_on_L78
    rw [if_pos (nI_le (Nat.le_refl k) (by omega))]
    exact ⟨_, rfl, e2⟩
theorem m_of (hI : MI_ (gM_ wl) n d) {w : Nat} (hw : w < n) (t : Nat → Int64) :
    ∃ j m t', lp_ (fun (st : (Int32 × Int32 × (Nat → Int64))) => fX6_on_L26 (nI n) (nI w) wl st.1 st.2.1 st.2.2) fu_ ((0 : Int32), (0 : Int32), t) = some (j, nI m, t') ∧ OF_ (gM_ wl) w m n := by
  have hI0 := hI
  obtain ⟨hn, hd1, hd, hb, hnv, hz, _⟩ := hI
  have hlp := lp_for (body := fun (st : (Int32 × Int32 × (Nat → Int64))) => fX6_on_L26 (nI n) (nI w) wl st.1 st.2.1 st.2.2)
    (fun κ st => st.1 = nI κ ∧ ∃ m, st.2.1 = nI m ∧ OF_ (gM_ wl) w m κ) (fun st => ∃ m, st.2.1 = nI m ∧ OF_ (gM_ wl) w m n) n (by omega) (s := ((0 : Int32), (0 : Int32), t)) ⟨rfl, 0, rfl, by decide, fun k hk => absurd hk (Nat.not_lt_zero k)⟩ ?_ ?_
  · obtain ⟨⟨j, x, t'⟩, e1, m, e2, e3⟩ := hlp
    dsimp only at e2
    subst e2
    exact ⟨j, m, t', e1, e3⟩
  · rintro κ ⟨j, x, t1⟩ hκ ⟨e1, m, e2, hm, hO⟩
    dsimp only at e1 e2 ⊢
    subst e1 e2
    left
    have h2κ : 2 ^ κ ≤ 256 := Nat.pow_le_pow_right (n := 2) (j := 8) (by decide) (by omega)
    -- the wall isn't taken
    have no : ¬ (κ ≠ w ∧ mt_ (gM_ wl) w κ ∧ ∀ o, o < κ → m.testBit o = true → r4_ (gM_ wl) (2 ^ w ||| 2 ^ κ ||| 2 ^ o) ≠ 2) → OF_ (gM_ wl) w m (κ + 1) := by
      intro q
      refine ⟨by rw [Nat.pow_succ]; omega, fun k hk => ?_⟩
      rcases (show k < κ ∨ k = κ by omega) with c | rfl
      · exact hO k c
      · rw [Nat.testBit_lt_two_pow hm]
        exact ⟨fun z => (by cases z), fun z => absurd z q⟩
    unfold fX6_on_L26
    rw [if_neg (nI_ge hκ (by omega))]
    by_cases hκw : κ = w
    · rw [if_pos (by rw [hκw]), nI_1]
      exact ⟨_, rfl, rfl, m, rfl, no (fun q => q.1 hκw)⟩
    · rw [if_neg (fun q => hκw ((nI_eq (by omega) (by omega)).mp q))]
      have hmask : ((1 : Int32) <<< (nI w &&& 31)) ||| ((1 : Int32) <<< (nI κ &&& 31)) = nI (2 ^ w ||| 2 ^ κ) := by rw [sh_1 w (by omega), sh_1 κ (by omega), nI_or]
      have hlt : 2 ^ w ||| 2 ^ κ < 2 ^ n := Nat.or_lt_two_pow (Nat.pow_lt_pow_right (by decide) hw) (Nat.pow_lt_pow_right (by decide) hκ)
      obtain ⟨t2, y, e3, hy⟩ := m_meets hn hb hnv hlt t1
      rw [hmask, bind_yes e3]
      dsimp only
      rcases hy with ⟨rfl, hc⟩ | ⟨rfl, hc⟩
      · obtain ⟨t3, e4⟩ := m_rank3 hn hb hnv hlt t2
        rw [if_neg (by decide), bind_yes e4]
        dsimp only
        have hmt := mt_not hI0 hw hκ hκw hc
        have l3 := rk_le3 (hS_ (gM_ wl) (2 ^ w ||| 2 ^ κ))
        rw [if_pos (show (2 : Int32) ≤ nI (rk_ (hS_ (gM_ wl) (2 ^ w ||| 2 ^ κ))) from nI_le (a := 2) hmt.2 (by omega))]
        obtain ⟨j2, z, t4, e5, hz5⟩ := m_isNew hI0 hw hκ hm t3
        rw [bind_yes e5]
        dsimp only
        rcases hz5 with ⟨rfl, hnew⟩ | ⟨rfl, hnew⟩
        · rw [if_neg (by decide), sh_1 κ (by omega), nI_or, or_add hm, nI_1]
          refine ⟨_, rfl, rfl, m + 2 ^ κ, rfl, by rw [Nat.pow_succ]; omega, fun k hk => ?_⟩
          rcases (show k < κ ∨ k = κ by omega) with c | rfl
          · rw [bit_more hm]
            have : ¬ k = κ := by omega
            simp only [this, decide_false, Bool.or_false]
            rw [hO k c]
            refine and_congr_right (fun _ => and_congr_right (fun _ => forall_congr' (fun o => forall_congr' (fun ho => ?_))))
            rw [bit_more hm]
            have : ¬ o = κ := by omega
            simp [this]
          · rw [bit_more hm]
            simp only [decide_true, Bool.or_true, true_iff]
            refine ⟨hκw, hmt, fun o ho hmo => hnew o ho ?_⟩
            rw [bit_more hm] at hmo
            have : ¬ o = k := by omega
            simpa [this] using hmo
        · rw [if_pos rfl, nI_1]
          exact ⟨_, rfl, rfl, m, rfl, no (fun q => hnew q.2.2)⟩
      · rw [if_pos rfl, nI_1]
        exact ⟨_, rfl, rfl, m, rfl, no (fun q => hc q.2.1.1)⟩
  · rintro ⟨j, x, t1⟩ ⟨e1, e2⟩
    dsimp only at e1 e2 ⊢
    subst e1
    unfold fX6_on_L26
    rw [if_pos (nI_le (Nat.le_refl n) (by omega))]
    exact ⟨_, rfl, e2⟩
theorem m_on (hI : MI_ (gM_ wl) n d) (t : Nat → Int64) (w i : Int32) : ∃ t', fX6_on (nI d) (nI n) wl t w i = some (vN_ (gM_ wl) n d w i, t') := by
  have hI0 := hI
  obtain ⟨hn, hd1, hd, hb, hnv, hz, _⟩ := hI
  have h2n : 2 ^ n ≤ 256 := Nat.pow_le_pow_right (n := 2) (j := 8) (by decide) hn
  unfold fX6_on vN_
  obtain ⟨x, e, hy⟩ := m_in hn w
  rw [bind_yes e]
  rcases hy with ⟨rfl, hk⟩ | ⟨rfl, hk⟩
  · rw [if_neg (by decide), ci2_t hk]
    obtain ⟨k, hk, rfl⟩ := hk
    obtain ⟨j, m, t1, e1, hO⟩ := m_of hI0 hk t
    rw [bind_yes e1, nI_clamp (by omega), on_same hI0 hk hO]
    have hlp := lp_for (body := fun (st : (Int32 × Int32 × (Nat → Int64))) => fX6_on_L151 (nI n) (j, nI m, t1) wl (nI k) (nI d) i st.1 st.2.1 st.2.2)
      (fun h st => st.1 = nI h ∧ st.2.1 = iI_ (fb_si (fun h => if pb_ ((∀ k, h.testBit k = true → m.testBit k = true) ∧ Fp_ (gM_ wl) d i (h ||| 2 ^ k)) = true then sg2_ h else 0) h))
      (fun st => st.2.1 = iI_ (Si_ n (fun h => (∀ k, h.testBit k = true → m.testBit k = true) ∧ Fp_ (gM_ wl) d i (h ||| 2 ^ k)))) (2 ^ n) (by omega) (s := ((0 : Int32), (0 : Int32), t1)) ⟨rfl, rfl⟩ ?_ ?_
    · obtain ⟨⟨j, x, t'⟩, e1, e2⟩ := hlp
      dsimp only at e2
      subst e2
      rw [bind_yes e1]
      exact ⟨t', rfl⟩
    · rintro h ⟨j, x, t1⟩ hh ⟨e1, e2⟩
      dsimp only at e1 e2 ⊢
      subst e1 e2
      left
      unfold fX6_on_L151
      dsimp only
      have hmask : nI h ||| ((1 : Int32) <<< (nI k &&& 31)) = nI (h ||| 2 ^ k) := by rw [sh_1 k (by omega), nI_or]
      have hlt : h ||| 2 ^ k < 2 ^ n := Nat.or_lt_two_pow hh (Nat.pow_lt_pow_right (by decide) hk)
      rw [hmask, sh_1 n (by omega), if_neg (nI_ge hh (by omega))]
      have h0 := andn_0 hh hO.1 hn
      by_cases q : ∀ k, h.testBit k = true → m.testBit k = true
      · rw [if_pos (h0.mpr q)]
        obtain ⟨t2, x, e3, hx⟩ := m_meets hn hb hnv hlt t1
        rw [bind_yes e3]
        dsimp only
        rcases hx with ⟨rfl, hc⟩ | ⟨rfl, hc⟩
        · obtain ⟨t3, e4⟩ := m_rank3 hn hb hnv hlt t2
          rw [if_neg (by decide), bind_yes e4]
          dsimp only
          by_cases w : nI d - nI (rk_ (hS_ (gM_ wl) (h ||| 2 ^ k))) = i
          · rw [if_pos w, bind_yes (m_odd (by omega)), iI_add]
            exact ⟨_, rfl, nI_1 h, by rw [fb_si_succ, if_pos (pb_t.mpr ⟨q, hc, w⟩)]⟩
          · rw [if_neg w]
            exact ⟨_, rfl, nI_1 h, by rw [fb_si_succ, if_neg (fun z => w (pb_t.mp z).2.2), Int.add_zero]⟩
        · rw [if_pos rfl]
          exact ⟨_, rfl, nI_1 h, by rw [fb_si_succ, if_neg (fun z => hc (pb_t.mp z).2.1), Int.add_zero]⟩
      · rw [if_neg (fun z => q (h0.mp z))]
        exact ⟨_, rfl, nI_1 h, by rw [fb_si_succ, if_neg (fun z => q (pb_t.mp z).1), Int.add_zero]⟩
    · rintro ⟨j, x, t1⟩ ⟨e1, e2⟩
      dsimp only at e1 e2 ⊢
      subst e1 e2
      unfold fX6_on_L151
      rw [sh_1 n (by omega), if_pos (nI_le (Nat.le_refl _) (by omega))]
      exact ⟨_, rfl, rfl⟩
  · rw [if_pos rfl, ci2_f hk]
    exact ⟨t, rfl⟩
end ONM
end
section
/-! bounded rooms -/
/-- a way goes on within a room -/
def Cn_ (G : Nat → Wl_) (n r : Nat) (v : V3_) : Prop := ∀ k, k < n → r1_ (decide (dg_ r k = 2)) (dr_ (G k) v)
def xc_ (j : Nat) (u : V3_) : Rat := if j = 0 then u.1 else if j = 1 then u.2.1 else u.2.2
def Op_ (G : Nat → Wl_) (n d r : Nat) : Prop := ∃ u, u ≠ o3_ ∧ (∀ j, j < 3 → d ≤ j → xc_ j u = 0) ∧ Cn_ G n r u
def BdR_ (G : Nat → Wl_) (n d r : Nat) : Prop := Ro_ G n r ∧ rk_ (hS_ G (2 ^ n - 1)) = d ∧ ¬ Op_ G n d r
def BdI_ (G : Nat → Wl_) (n d : Nat) (p : Int32) : Prop := ∃ r, p = nI r ∧ BdR_ G n d r
def aw_ (j : Nat) : Wl_ := if j = 0 then (1, 0, 0, 0) else if j = 1 then (0, 1, 0, 0) else (0, 0, 1, 0)
theorem dr_aw {j : Nat} (hj : j < 3) (u : V3_) : dr_ (aw_ j) u = xc_ j u := by
  rcases (show j = 0 ∨ j = 1 ∨ j = 2 by omega) with rfl | rfl | rfl
  · unfold aw_ xc_ dr_
    simp only [if_true]
    have : ((1 : Int) : Rat) = 1 := rfl
    have z : ((0 : Int) : Rat) = 0 := rfl
    rw [this, z]; grind
  · unfold aw_ xc_ dr_
    simp only [show ¬ (1 = 0) by decide, if_false, if_true]
    have : ((1 : Int) : Rat) = 1 := rfl
    have z : ((0 : Int) : Rat) = 0 := rfl
    rw [this, z]; grind
  · unfold aw_ xc_ dr_
    simp only [show ¬ (2 = 0) by decide, show ¬ (2 = 1) by decide, if_false]
    have : ((1 : Int) : Rat) = 1 := rfl
    have z : ((0 : Int) : Rat) = 0 := rfl
    rw [this, z]; grind
theorem nv_aw {j : Nat} (hj : j < 3) : nv_ (aw_ j) ≠ o3_ := by
  rcases (show j = 0 ∨ j = 1 ∨ j = 2 by omega) with rfl | rfl | rfl <;> (unfold nv_ aw_ o3_; decide +kernel)
def Lp_ (G : Nat → Wl_) (n d r : Nat) : List (Wl_ × Bool) := (List.range n).map (fun k => (G k, decide (dg_ r k = 2))) ++ ((List.range 3).filter (fun j => decide (d ≤ j))).flatMap (fun j => [(aw_ j, true), (aw_ j, false)])
theorem Lp_mem {G : Nat → Wl_} {n d r : Nat} {x : Wl_ × Bool} : x ∈ Lp_ G n d r ↔ (∃ k, k < n ∧ x = (G k, decide (dg_ r k = 2))) ∨ ∃ j, j < 3 ∧ d ≤ j ∧ (x = (aw_ j, true) ∨ x = (aw_ j, false)) := by
  unfold Lp_
  rw [List.mem_append, List.mem_map, List.mem_flatMap]
  constructor
  · rintro (⟨k, hk, rfl⟩ | ⟨j, hj, hx⟩)
    · exact Or.inl ⟨k, List.mem_range.mp hk, rfl⟩
    · rw [List.mem_filter, List.mem_range] at hj
      simp only [List.mem_cons, List.not_mem_nil, or_false] at hx
      exact Or.inr ⟨j, hj.1, of_decide_eq_true hj.2, hx⟩
  · rintro (⟨k, hk, rfl⟩ | ⟨j, hj, hdj, hx⟩)
    · exact Or.inl ⟨k, List.mem_range.mpr hk, rfl⟩
    · refine Or.inr ⟨j, ?_, ?_⟩
      · rw [List.mem_filter, List.mem_range]; exact ⟨hj, decide_eq_true hdj⟩
      · simp only [List.mem_cons, List.not_mem_nil, or_false]; exact hx
theorem rB_Lp {G : Nat → Wl_} {n d r : Nat} {u : V3_} : rB_ (Lp_ G n d r) u ↔ (∀ j, j < 3 → d ≤ j → xc_ j u = 0) ∧ Cn_ G n r u := by
  constructor
  · intro h
    refine ⟨fun j hj hdj => ?_, fun k hk => h _ (Lp_mem.mpr (Or.inl ⟨k, hk, rfl⟩))⟩
    have a := h _ (Lp_mem.mpr (Or.inr ⟨j, hj, hdj, Or.inl rfl⟩))
    have b := h _ (Lp_mem.mpr (Or.inr ⟨j, hj, hdj, Or.inr rfl⟩))
    dsimp only at a b
    rw [r1_t, dr_aw hj] at a
    rw [r1_f, dr_aw hj] at b
    grind
  · rintro ⟨h1, h2⟩ x hx
    rcases Lp_mem.mp hx with ⟨k, hk, rfl⟩ | ⟨j, hj, hdj, rfl | rfl⟩
    · exact h2 k hk
    · dsimp only
      rw [r1_t, dr_aw hj, h1 j hj hdj]; grind
    · dsimp only
      rw [r1_f, dr_aw hj, h1 j hj hdj]; grind
section BM
variable {G : Nat → Wl_} {n d r : Nat}
theorem ker_0 (hI : MI_ G n d) (hrk : rk_ (hS_ G (2 ^ n - 1)) = d) {u : V3_} (h1 : ∀ j, j < 3 → d ≤ j → xc_ j u = 0) (h2 : ∀ k, k < n → dr_ (G k) u = 0) : u = o3_ := by
  obtain ⟨hn, hd1, hd3, hb, hnv, hz, _⟩ := hI
  have on : ∀ x, hS_ G (2 ^ n - 1) x → ∃ k, k < n ∧ x = G k := fun x hx => wl_mem.mp (hS_all.mp hx)
  rcases (show d = 3 ∨ d = 2 ∨ d = 1 by omega) with rfl | rfl | rfl
  · obtain ⟨x, y, z, hx, hy, hz', hd⟩ := rk_inv3 hrk
    obtain ⟨a, ha, rfl⟩ := on x hx
    obtain ⟨b, hb', rfl⟩ := on y hy
    obtain ⟨c, hc, rfl⟩ := on z hz'
    obtain ⟨t, rfl⟩ := along_cx (h2 a ha) (h2 b hb') (fun q => hd (dt_0 q _))
    have h4 := h2 c hc
    rw [dr_mu] at h4
    have t0 : t = 0 := (Rat.mul_eq_zero.mp h4).resolve_right hd
    rw [t0]
    unfold mu_ o3_
    simp only [Prod.mk.injEq]
    refine ⟨?_, ?_, ?_⟩ <;> grind
  · obtain ⟨⟨x, y, hx, hy, hc⟩, _⟩ := rk_inv2 hrk
    obtain ⟨a, ha, rfl⟩ := on x hx
    obtain ⟨b, hb', rfl⟩ := on y hy
    obtain ⟨t, rfl⟩ := along_cx (h2 a ha) (h2 b hb') hc
    have za := hz a ha 2 (by decide) (by decide)
    have zb := hz b hb' 2 (by decide) (by decide)
    simp only [cf_] at za zb
    simp at za zb
    have h4 := h1 2 (by decide) (by decide)
    unfold xc_ at h4
    simp only [show ¬ (2 = 0) by decide, show ¬ (2 = 1) by decide, if_false, mu_] at h4
    have hc3 : (cx_ (G a) (G b)).2.2 ≠ 0 := by
      intro q
      apply hc
      have e1 : (cx_ (G a) (G b)).1 = 0 := by simp only [cx_, za, zb]; grind
      have e2 : (cx_ (G a) (G b)).2.1 = 0 := by simp only [cx_, za, zb]; grind
      exact Prod.ext e1 (Prod.ext e2 q)
    have t0 : t = 0 := (Rat.mul_eq_zero.mp h4).resolve_right hc3
    rw [t0]
    unfold mu_ o3_
    simp only [Prod.mk.injEq]
    refine ⟨?_, ?_, ?_⟩ <;> grind
  · obtain ⟨⟨x, hx⟩, _⟩ := rk_inv1 hrk
    obtain ⟨a, ha, rfl⟩ := on x hx
    have z2 := hz a ha 2 (by decide) (by decide)
    have z1 := hz a ha 1 (by decide) (by decide)
    simp only [cf_] at z1 z2
    simp at z1 z2
    have ha0 : (G a).1 ≠ 0 := fun q => nv_int (hnv a ha) ⟨q, z1, z2⟩
    have g1 := h1 1 (by decide) (by decide)
    have g2 := h1 2 (by decide) (by decide)
    unfold xc_ at g1 g2
    simp only [show ¬ (1 = 0) by decide, show ¬ (2 = 0) by decide, show ¬ (2 = 1) by decide, if_false, if_true] at g1 g2
    have h4 := h2 a ha
    unfold dr_ at h4
    rw [z1, z2, g1, g2] at h4
    have h5 : ((G a).1 : Rat) * u.1 = 0 := by grind
    have h6 : u.1 = 0 := (Rat.mul_eq_zero.mp h5).resolve_left (fun q => ha0 (rI_zero.mp q))
    exact Prod.ext h6 (Prod.ext g1 g2)
/-- an open room leads on along a line of two planes -/
theorem open_line (hI : MI_ G n d) (hrk : rk_ (hS_ G (2 ^ n - 1)) = d) (hO : Op_ G n d r) :
    ∃ x y, (x ∈ wl_ G n ∨ ∃ j, j < 3 ∧ d ≤ j ∧ x = aw_ j) ∧ (y ∈ wl_ G n ∨ ∃ j, j < 3 ∧ d ≤ j ∧ y = aw_ j) ∧ cx_ x y ≠ o3_ ∧ (∀ j, j < 3 → d ≤ j → xc_ j (cx_ x y) = 0) ∧ (Cn_ G n r (cx_ x y) ∨ Cn_ G n r (mu_ (-1) (cx_ x y))) := by
  obtain ⟨u, hu, h1, h2⟩ := hO
  have hmem : ∀ x ∈ Lp_ G n d r, x.1 ∈ wl_ G n ∨ ∃ j, j < 3 ∧ d ≤ j ∧ x.1 = aw_ j := by
    intro x hx
    rcases Lp_mem.mp hx with ⟨k, hk, rfl⟩ | ⟨j, hj, hdj, rfl | rfl⟩
    · exact Or.inl (wl_get hk)
    · exact Or.inr ⟨j, hj, hdj, rfl⟩
    · exact Or.inr ⟨j, hj, hdj, rfl⟩
  obtain ⟨x, hx, y, hy, hc, hr⟩ := ray_all (L := Lp_ G n d r) (fun x hx => by
    rcases hmem x hx with q | ⟨j, hj, _, q⟩
    · obtain ⟨k, hk, e⟩ := wl_mem.mp q
      rw [e]; exact hI.2.2.2.2.1 k hk
    · rw [q]; exact nv_aw hj) (fun v hv => ker_0 hI hrk (fun j hj hdj => by
      have := hv _ (Lp_mem.mpr (Or.inr ⟨j, hj, hdj, Or.inl rfl⟩))
      dsimp only at this
      rw [dr_aw hj] at this
      exact this) (fun k hk => hv _ (Lp_mem.mpr (Or.inl ⟨k, hk, rfl⟩)))) ⟨u, hu, rB_Lp.mpr ⟨h1, h2⟩⟩
  refine ⟨x.1, y.1, hmem x hx, hmem y hy, hc, ?_, ?_⟩
  · rcases hr with q | q
    · exact (rB_Lp.mp q).1
    · intro j hj hdj
      have := (rB_Lp.mp q).1 j hj hdj
      have e : xc_ j (mu_ (-1) (cx_ x.1 y.1)) = - xc_ j (cx_ x.1 y.1) := by
        unfold xc_ mu_
        split
        · grind
        · split <;> grind
      rw [e] at this
      grind
  · rcases hr with q | q
    · exact Or.inl (rB_Lp.mp q).2
    · exact Or.inr (rB_Lp.mp q).2
theorem Cn_cg {v w : V3_} (h : ∀ k, k < n → dr_ (G k) v = dr_ (G k) w) : Cn_ G n r v ↔ Cn_ G n r w := by
  unfold Cn_
  exact forall_congr' (fun k => forall_congr' (fun hk => by rw [h k hk]))
/-- a way that isn't along all walls opens a room within the numbers of space -/
theorem open_of (hI : MI_ G n d) {v : V3_} (hv : ∃ k, k < n ∧ dr_ (G k) v ≠ 0) (hC : Cn_ G n r v) : Op_ G n d r := by
  obtain ⟨hn, hd1, hd3, hb, hnv, hz, _⟩ := hI
  -- only the numbers that space has
  obtain ⟨u, hu⟩ : ∃ u : V3_, u = (v.1, if d ≤ 1 then 0 else v.2.1, if d ≤ 2 then 0 else v.2.2) := ⟨_, rfl⟩
  have he : ∀ k, k < n → dr_ (G k) u = dr_ (G k) v := by
    intro k hk
    unfold dr_
    rw [hu]
    dsimp only
    have z1 := hz k hk 1 (by decide)
    have z2 := hz k hk 2 (by decide)
    simp only [cf_] at z1 z2
    simp at z1 z2
    by_cases q1 : d ≤ 1
    · rw [if_pos q1, if_pos (by omega), z1 q1, z2 (by omega)]
      have z : ((0 : Int) : Rat) = 0 := rfl
      rw [z]; grind
    · rw [if_neg q1]
      by_cases q2 : d ≤ 2
      · rw [if_pos q2, z2 q2]
        have z : ((0 : Int) : Rat) = 0 := rfl
        rw [z]; grind
      · rw [if_neg q2]
  refine ⟨u, ?_, ?_, (Cn_cg he).mpr hC⟩
  · intro q
    obtain ⟨k, hk, hd⟩ := hv
    apply hd
    rw [← he k hk, q, dr_o]
  · intro j hj hdj
    rw [hu]
    rcases (show j = 1 ∨ j = 2 by omega) with rfl | rfl
    · unfold xc_
      simp only [show ¬ (1 = 0) by decide, if_false, if_true]
      rw [if_pos hdj]
    · unfold xc_
      simp only [show ¬ (2 = 0) by decide, show ¬ (2 = 1) by decide, if_false]
      rw [if_pos hdj]
end BM
section BC
variable {G : Nat → Wl_} {n d fo li r : Nat} {rk cm mk ro wi la lb : Nat → Int32}
/-- the class's test at one line -/
theorem line_test (hn : n ≤ 8) (v : V3_) : ((nI (lm_ G n v 2) &&& (nI (bn_ (fun k => decide (dg_ r k = 2)) n) ^^^ (-1 : Int32)) = 0) ∧ (nI (lm_ G n v 0) &&& nI (bn_ (fun k => decide (dg_ r k = 2)) n) = 0)) ↔ Cn_ G n r v := by
  unfold lm_
  rw [bn_andn, nI_and, bn_and]
  have a1 := bn_lt8 (fun k => decide (sg_ (dr_ (G k) v) = 2) && !decide (dg_ r k = 2)) hn
  have a2 := bn_lt8 (fun k => decide (sg_ (dr_ (G k) v) = 0) && decide (dg_ r k = 2)) hn
  have e1 : (nI (bn_ (fun k => decide (sg_ (dr_ (G k) v) = 2) && !decide (dg_ r k = 2)) n) = 0) ↔ _ := (nI_eq (b := 0) (by omega) (by decide)).trans bn_zero
  have e2 : (nI (bn_ (fun k => decide (sg_ (dr_ (G k) v) = 0) && decide (dg_ r k = 2)) n) = 0) ↔ _ := (nI_eq (b := 0) (by omega) (by decide)).trans bn_zero
  rw [e1, e2]
  unfold Cn_
  constructor
  · rintro ⟨h1, h2⟩ k hk
    have b1 := h1 k hk
    have b2 := h2 k hk
    by_cases q : dg_ r k = 2
    · rw [decide_eq_true q, r1_t]
      rw [decide_eq_true q] at b2
      simp at b2
      refine Classical.byContradiction fun w => b2 (sg_neg (by grind))
    · rw [decide_eq_false q, r1_f]
      rw [decide_eq_false q] at b1
      simp at b1
      refine Classical.byContradiction fun w => b1 (sg_pos (by grind))
  · intro h
    refine ⟨fun k hk => ?_, fun k hk => ?_⟩
    · have := h k hk
      by_cases q : dg_ r k = 2
      · simp [q]
      · rw [decide_eq_false q, r1_f] at this
        have : ¬ sg_ (dr_ (G k) v) = 2 := fun w => by have := sg_eq2.mp w; grind
        simp [this]
    · have := h k hk
      by_cases q : dg_ r k = 2
      · rw [decide_eq_true q, r1_t] at this
        have : ¬ sg_ (dr_ (G k) v) = 0 := fun w => by have := sg_eq0.mp w; grind
        simp [this]
      · simp [q]
theorem lm_m1 (v : V3_) : lm_ G n (mu_ (-1) v) 2 = lm_ G n v 0 ∧ lm_ G n (mu_ (-1) v) 0 = lm_ G n v 2 := by
  unfold lm_
  constructor <;>
  · refine bn_cg (fun k _ => ?_)
    rw [dr_mu, sg_m1]
    have := sg_le (dr_ (G k) v)
    generalize sg_ (dr_ (G k) v) = g at *
    rcases (show g = 0 ∨ g = 1 ∨ g = 2 by omega) with rfl | rfl | rfl <;> rfl
theorem f_isOpen (hI : MI_ G n d) (hA : AX_ G) (hrk : rk_ (hS_ G (2 ^ n - 1)) = d) (hC : CU_ G n d fo li rk cm mk ro wi la lb) : ∃ x, fX1_isOpen (nI li) la lb (nI (bn_ (fun k => decide (dg_ r k = 2)) n)) = some x ∧ yn_ x (Op_ G n d r) := by
  have hn := hI.1
  obtain ⟨_, _, _, _, _, _, hli, hL, hLc⟩ := hC
  have hlp := lp_for (body := fun (st : Int32) => fX1_isOpen_L2 (nI li) la (nI (bn_ (fun k => decide (dg_ r k = 2)) n)) lb st)
    (fun l st => st = nI l ∧ ∀ l', l' < l → ∀ v, la l' = nI (lm_ G n v 2) → lb l' = nI (lm_ G n v 0) → ¬ (Cn_ G n r v ∨ Cn_ G n r (mu_ (-1) v)))
    (fun u => ∃ x, Sum.elim (fun (x6 : Int32) => some (0 : Int32)) (fun y => some y) u = some x ∧ yn_ x (Op_ G n d r)) li (by omega) (s := (0 : Int32)) ⟨rfl, fun l' h => absurd h (Nat.not_lt_zero l')⟩ ?_ ?_
  · unfold fX1_isOpen
    obtain ⟨u, e1, x, e2, e3⟩ := hlp
    rw [bind_yes e1]
    exact ⟨x, e2, e3⟩
  · rintro l st hl ⟨rfl, h2⟩
    obtain ⟨i1, j1, _, _, _, hw, hla, hlb⟩ := hL l hl
    generalize hv : cx_ (G (ix_ n i1)) (G (ix_ n j1)) = v at hla hlb hw
    have hf := line_test (G := G) (r := r) hn v
    have hb := line_test (G := G) (r := r) hn (mu_ (-1) v)
    rw [(lm_m1 v).1, (lm_m1 v).2, ← hlb, ← hla] at hb
    rw [← hlb, ← hla] at hf
    have hR : in_R (nI l) 55 := in_R_nI (by omega) (by decide)
    have yes : (Cn_ G n r v ∨ Cn_ G n r (mu_ (-1) v)) → Op_ G n d r := by
      rintro (q | q)
      · exact open_of hI hw q
      · refine open_of hI ?_ q
        obtain ⟨k, hk, hd⟩ := hw
        exact ⟨k, hk, by rw [dr_mu]; grind⟩
    have no : ¬ (Cn_ G n r v ∨ Cn_ G n r (mu_ (-1) v)) → ∀ l', l' < l + 1 → ∀ w, la l' = nI (lm_ G n w 2) → lb l' = nI (lm_ G n w 0) → ¬ (Cn_ G n r w ∨ Cn_ G n r (mu_ (-1) w)) := by
      intro q l' hl' w w2 w0
      rcases (show l' < l ∨ l' = l by omega) with c | rfl
      · exact h2 l' c w w2 w0
      · have hs : ∀ k, k < n → sg_ (dr_ (G k) w) = sg_ (dr_ (G k) v) := fun k hk => lm_sg hn (w2.symm.trans hla) (w0.symm.trans hlb) hk
        have e : ∀ x y : V3_, (∀ k, k < n → sg_ (dr_ (G k) x) = sg_ (dr_ (G k) y)) → Cn_ G n r x → Cn_ G n r y := by
          intro x y hxy hx k hk
          have a := hx k hk
          have b := hxy k hk
          by_cases z : dg_ r k = 2
          · rw [decide_eq_true z, r1_t] at a ⊢
            refine Classical.byContradiction fun c => ?_
            rw [sg_neg (show dr_ (G k) y < 0 by grind), sg_eq0] at b
            grind
          · rw [decide_eq_false z, r1_f] at a ⊢
            refine Classical.byContradiction fun c => ?_
            rw [sg_pos (show 0 < dr_ (G k) y by grind), sg_eq2] at b
            grind
        rintro (z | z)
        · exact q (Or.inl (e w v hs z))
        · exact q (Or.inr (e (mu_ (-1) w) (mu_ (-1) v) (fun k hk => by rw [dr_mu, dr_mu, sg_m1, sg_m1, hs k hk]) z))
    unfold fX1_isOpen_L2
    rw [if_neg (nI_ge hl (by omega))]
    simp only [ck_yes hR, nI_clamp (show l < 2 ^ 31 by omega)]
    have good : (Cn_ G n r v ∨ Cn_ G n r (mu_ (-1) v)) → (∃ s', (some (Sum.inr (Sum.inr (1 : Int32))) : Option (Int32 ⊕ (Int32 ⊕ Int32))) = some (Sum.inl s') ∧ s' = nI (l + 1) ∧ ∀ l', l' < l + 1 → ∀ v, la l' = nI (lm_ G n v 2) → lb l' = nI (lm_ G n v 0) → ¬ (Cn_ G n r v ∨ Cn_ G n r (mu_ (-1) v))) ∨ ∃ u, (some (Sum.inr (Sum.inr (1 : Int32))) : Option (Int32 ⊕ (Int32 ⊕ Int32))) = some (Sum.inr u) ∧ ∃ x, Sum.elim (fun (x6 : Int32) => some (0 : Int32)) (fun y => some y) u = some x ∧ yn_ x (Op_ G n d r) :=
      fun q => Or.inr ⟨_, rfl, 1, rfl, Or.inl ⟨rfl, yes q⟩⟩
    have bad : ¬ (Cn_ G n r v ∨ Cn_ G n r (mu_ (-1) v)) → (∃ s', (some (Sum.inl (nI l + 1)) : Option (Int32 ⊕ (Int32 ⊕ Int32))) = some (Sum.inl s') ∧ s' = nI (l + 1) ∧ ∀ l', l' < l + 1 → ∀ v, la l' = nI (lm_ G n v 2) → lb l' = nI (lm_ G n v 0) → ¬ (Cn_ G n r v ∨ Cn_ G n r (mu_ (-1) v))) ∨ ∃ u, (some (Sum.inl (nI l + 1)) : Option (Int32 ⊕ (Int32 ⊕ Int32))) = some (Sum.inr u) ∧ ∃ x, Sum.elim (fun (x6 : Int32) => some (0 : Int32)) (fun y => some y) u = some x ∧ yn_ x (Op_ G n d r) :=
      fun q => Or.inl ⟨_, rfl, nI_1 l, no q⟩
    by_cases c1 : la l &&& (nI (bn_ (fun k => decide (dg_ r k = 2)) n) ^^^ (-1 : Int32)) = 0 <;> by_cases c2 : lb l &&& nI (bn_ (fun k => decide (dg_ r k = 2)) n) = 0 <;> by_cases c3 : lb l &&& (nI (bn_ (fun k => decide (dg_ r k = 2)) n) ^^^ (-1 : Int32)) = 0 <;> by_cases c4 : la l &&& nI (bn_ (fun k => decide (dg_ r k = 2)) n) = 0 <;> simp only [c1, c2, c3, c4, if_true, if_false, Option.bind_some, show ¬ ((1 : Int32) = 0) by decide] <;>
      first
      | exact good (Or.inl (hf.mp ⟨c1, c2⟩))
      | exact good (Or.inr (hb.mp ⟨c3, c4⟩))
      | exact bad (fun q => by
          rcases q with q | q
          · obtain ⟨z1, z2⟩ := hf.mpr q
            first
            | exact c1 z1
            | exact c2 z2
          · obtain ⟨z1, z2⟩ := hb.mpr q
            first
            | exact c3 z1
            | exact c4 z2)
  · rintro st ⟨rfl, h2⟩
    unfold fX1_isOpen_L2
    rw [if_pos (nI_le (Nat.le_refl _) (by omega))]
    refine ⟨_, rfl, 0, rfl, Or.inr ⟨rfl, fun hO => ?_⟩⟩
    obtain ⟨x, y, hx, hy, hc, hcoord, hcone⟩ := open_line hI hrk hO
    -- both are among the planes
    have plane : ∀ z, (z ∈ wl_ G n ∨ ∃ j, j < 3 ∧ d ≤ j ∧ z = aw_ j) → ∃ i, i < mM_ G n ∧ z = G (ix_ n i) := by
      rintro z (hz | ⟨j, hj, hdj, rfl⟩)
      · obtain ⟨k, hk, rfl⟩ := wl_mem.mp hz
        refine ⟨k, ?_, by rw [ix_, if_pos hk]⟩
        unfold mM_; split <;> omega
      · have hne : ¬ rk_ (hS_ G (2 ^ n - 1)) = 3 := by omega
        refine ⟨n + j, ?_, ?_⟩
        · unfold mM_; rw [if_neg hne]; omega
        · rw [ix_, if_neg (by omega), show n + j - n = j by omega]
          rcases (show j = 0 ∨ j = 1 ∨ j = 2 by omega) with rfl | rfl | rfl
          · exact hA.1.symm
          · exact hA.2.1.symm
          · exact hA.2.2.symm
    obtain ⟨i, hi, rfl⟩ := plane x hx
    obtain ⟨j, hj, rfl⟩ := plane y hy
    have hnot : ∃ k, k < n ∧ dr_ (G k) (cx_ (G (ix_ n i)) (G (ix_ n j))) ≠ 0 := by
      refine Classical.byContradiction fun q => hc (ker_0 hI hrk hcoord (fun k hk => Classical.byContradiction fun w => q ⟨k, hk, w⟩))
    rcases (show i < j ∨ i = j ∨ j < i by omega) with q | rfl | q
    · obtain ⟨l, hl, l1, l2⟩ := hLc i j q hj hc hnot
      exact h2 l hl _ l1 l2 hcone
    · exact hc (cx_self _)
    · have hanti : ∀ k, k < n → dr_ (G k) (cx_ (G (ix_ n j)) (G (ix_ n i))) = dr_ (G k) (mu_ (-1) (cx_ (G (ix_ n i)) (G (ix_ n j)))) := fun k _ => by rw [dr_anti, dr_mu]; grind
      have hanti2 : ∀ k, k < n → dr_ (G k) (mu_ (-1) (cx_ (G (ix_ n j)) (G (ix_ n i)))) = dr_ (G k) (cx_ (G (ix_ n i)) (G (ix_ n j))) := fun k _ => by rw [dr_mu, dr_anti]; grind
      obtain ⟨l, hl, l1, l2⟩ := hLc j i q hi (cx_anti hc) (by
        obtain ⟨k, hk, hd⟩ := hnot
        exact ⟨k, hk, by rw [dr_anti]; grind⟩)
      refine h2 l hl _ l1 l2 ?_
      rcases hcone with z | z
      · exact Or.inr ((Cn_cg hanti2).mpr z)
      · exact Or.inl ((Cn_cg hanti).mpr z)
end BC
end
section
/-! bounded, both sides -/
section BX
variable {va vb vc ve vth : Nat → Int32} {n d : Nat}
theorem c_bounded (hI : MI_ (gC_ va vb vc ve) n d) (hP : PI_ (gC_ va vb vc ve) n) (hT : TH_ vth) {u : CT_} (hu : cI_ (gC_ va vb vc ve) n d u) (p : Int32) : ∃ x, ∃ u' : CT_, fX5_bounded (nI d) (nI n) u.1 u.2.1 u.2.2.1 va vb vc ve vth u.2.2.2.1 u.2.2.2.2.1 u.2.2.2.2.2.1 u.2.2.2.2.2.2.1 u.2.2.2.2.2.2.2.1 u.2.2.2.2.2.2.2.2.1 u.2.2.2.2.2.2.2.2.2.1 u.2.2.2.2.2.2.2.2.2.2.1 u.2.2.2.2.2.2.2.2.2.2.2.1 u.2.2.2.2.2.2.2.2.2.2.2.2.1 u.2.2.2.2.2.2.2.2.2.2.2.2.2.1 u.2.2.2.2.2.2.2.2.2.2.2.2.2.2.1 u.2.2.2.2.2.2.2.2.2.2.2.2.2.2.2.1 u.2.2.2.2.2.2.2.2.2.2.2.2.2.2.2.2.1 u.2.2.2.2.2.2.2.2.2.2.2.2.2.2.2.2.2.1 u.2.2.2.2.2.2.2.2.2.2.2.2.2.2.2.2.2.2.1 u.2.2.2.2.2.2.2.2.2.2.2.2.2.2.2.2.2.2.2.1 u.2.2.2.2.2.2.2.2.2.2.2.2.2.2.2.2.2.2.2.2.1 u.2.2.2.2.2.2.2.2.2.2.2.2.2.2.2.2.2.2.2.2.2.1 u.2.2.2.2.2.2.2.2.2.2.2.2.2.2.2.2.2.2.2.2.2.2.1 u.2.2.2.2.2.2.2.2.2.2.2.2.2.2.2.2.2.2.2.2.2.2.2.1 u.2.2.2.2.2.2.2.2.2.2.2.2.2.2.2.2.2.2.2.2.2.2.2.2.1 u.2.2.2.2.2.2.2.2.2.2.2.2.2.2.2.2.2.2.2.2.2.2.2.2.2 p = some (x, u') ∧ yn_ x (BdI_ (gC_ va vb vc ve) n d p) ∧ cI_ (gC_ va vb vc ve) n d u' := by
  unfold fX5_bounded
  have hn := hP.1
  have hd3 := hI.2.2.1
  have h3 := p3_6561 hn
  obtain ⟨u', e, hF⟩ := f_freshCut hP hT hu
  obtain ⟨h5, h6, fo, li, h7, h8, hC⟩ := hF
  have hU : cI_ (gC_ va vb vc ve) n d u' := Or.inr ⟨h5, h6, fo, li, h7, h8, hC⟩
  obtain ⟨x, e2, hy⟩ := f_hasRoom hn hC p
  have l3 := rk_le3 (hS_ (gC_ va vb vc ve) (2 ^ n - 1))
  rw [bind_yes e, bind_yes e2]
  rcases hy with ⟨rfl, r, rfl, hR⟩ | ⟨rfl, hR⟩
  · have hr := Fa_lt hR.1
    have hone : ∀ r', nI r = nI r' → Ro_ (gC_ va vb vc ve) n r' → r = r' := fun r' e h => (nI_eq (by omega) (by have := Fa_lt h.1; omega)).mp e
    rw [if_neg (by decide), bind_yes (f_rankAll hn hC)]
    by_cases q : rk_ (hS_ (gC_ va vb vc ve) (2 ^ n - 1)) = d
    · rw [if_pos (by rw [q]), show (2 : Int32) = nI 2 from rfl, bind_yes (f_maskOf (by omega) (by decide)), mk_dig hn hr (by decide)]
      obtain ⟨y, e3, hy3⟩ := f_isOpen (r := r) hI hP.2.2.2.1 q hC
      rw [h8, bind_yes e3]
      rcases hy3 with ⟨rfl, w⟩ | ⟨rfl, w⟩
      · rw [if_neg (by decide), ← h8]
        refine ⟨_, u', rfl, Or.inr ⟨rfl, ?_⟩, hU⟩
        rintro ⟨r', e', hB⟩
        rw [hone r' e' hB.1] at w
        exact hB.2.2 w
      · rw [if_pos rfl, ← h8]
        exact ⟨_, u', rfl, Or.inl ⟨rfl, r, rfl, hR, q, w⟩, hU⟩
    · rw [if_neg (fun z => q ((nI_eq (by omega) (by omega)).mp z))]
      refine ⟨_, u', rfl, Or.inr ⟨rfl, ?_⟩, hU⟩
      rintro ⟨r', e', hB⟩
      exact q hB.2.1
  · rw [if_pos rfl]
    refine ⟨_, u', rfl, Or.inr ⟨rfl, ?_⟩, hU⟩
    rintro ⟨r', e', hB⟩
    exact hR ⟨r', e', hB.1⟩
end BX
section BY
variable {wl : Nat → Int32} {n d : Nat}
theorem ld_1 : @fX6_leadsOn_L18_1 = @fX6_leadsOn_L18 := rfl
theorem ld_2 : @fX6_leadsOn_L18_2 = @fX6_leadsOn_L18 := rfl
theorem m_leadsL (hn : n ≤ 8) (hb : ∀ k, k < n → bw_ (gM_ wl k)) {r : Nat} (hr : r < 2 ^ 31) (h1 : ∀ k, k < n → dg_ r k ≠ 1) {x y z : Int} (hx : ab_ x 162) (hy : ab_ y 162) (hz : ab_ z 162) :
    ∃ b, ((lp_ (fun (st : Int32) => fX6_leadsOn_L18 (nI n) wl (nI r) (iI_ x) (iI_ y) (iI_ z) st) fu_ (0 : Int32)).bind fun (u3 : (Int32 ⊕ Int32)) => Sum.elim (fun (x7 : Int32) => some (1 : Int32)) (fun y => some y) u3) = some b ∧ yn_ b (Cn_ (gM_ wl) n r ((x : Rat), (y : Rat), (z : Rat))) := by
  have hlp := lp_for (body := fun (st : Int32) => fX6_leadsOn_L18 (nI n) wl (nI r) (iI_ x) (iI_ y) (iI_ z) st)
    (fun k st => st = nI k ∧ ∀ j, j < k → r1_ (decide (dg_ r j = 2)) (dr_ (gM_ wl j) ((x : Rat), (y : Rat), (z : Rat))))
    (fun u => ∃ b, Sum.elim (fun (x7 : Int32) => some (1 : Int32)) (fun y => some y) u = some b ∧ yn_ b (Cn_ (gM_ wl) n r ((x : Rat), (y : Rat), (z : Rat)))) n (by omega) (s := (0 : Int32)) ⟨rfl, fun j hj => absurd hj (Nat.not_lt_zero j)⟩ ?_ ?_
  · obtain ⟨u, e1, b, e2, e3⟩ := hlp
    rw [bind_yes e1]
    exact ⟨b, e2, e3⟩
  · rintro k st hk ⟨rfl, h2⟩
    unfold fX6_leadsOn_L18
    have c0 : fX6_at wl (nI k) (0 : Int32) = some (wl (4 * k)) := f_at wl (c := 0) (by omega)
    have c1 : fX6_at wl (nI k) (1 : Int32) = some (wl (4 * k + 1)) := f_at wl (c := 1) (by omega)
    have c2 : fX6_at wl (nI k) (2 : Int32) = some (wl (4 * k + 2)) := f_at wl (c := 2) (by omega)
    rw [if_neg (nI_ge hk (by omega)), bind_yes c0, bind_yes c1, bind_yes c2, bind_yes (f_sign hr (by omega))]
    have hv : wl (4 * k) * iI_ x + wl (4 * k + 1) * iI_ y + wl (4 * k + 2) * iI_ z = iI_ (cl_ (gM_ wl k) (x, y, z)) := by
      rw [← iI_of (wl (4 * k)), ← iI_of (wl (4 * k + 1)), ← iI_of (wl (4 * k + 2)), iI_mul, iI_mul, iI_mul, iI_add, iI_add]
      rfl
    have hab := ab_sm (ab_cl (v := (x, y, z)) (hb k hk) hx hy hz) (by decide)
    have h0 : sm_ 0 := by unfold sm_; omega
    have hdr : ((cl_ (gM_ wl k) (x, y, z) : Int) : Rat) = dr_ (gM_ wl k) ((x : Rat), (y : Rat), (z : Rat)) := cl_dr _ _
    rw [hv]
    have e1 : (iI_ (cl_ (gM_ wl k) (x, y, z)) ≤ 0) ↔ cl_ (gM_ wl k) (x, y, z) ≤ 0 := iI_le hab h0
    have e2 : (0 ≤ iI_ (cl_ (gM_ wl k) (x, y, z))) ↔ 0 ≤ cl_ (gM_ wl k) (x, y, z) := iI_le h0 hab
    have hle := dg_le r k
    have good : r1_ (decide (dg_ r k = 2)) (dr_ (gM_ wl k) ((x : Rat), (y : Rat), (z : Rat))) → ∀ j, j < k + 1 → r1_ (decide (dg_ r j = 2)) (dr_ (gM_ wl j) ((x : Rat), (y : Rat), (z : Rat))) := by
      intro w j hj
      rcases (show j < k ∨ j = k by omega) with c | rfl
      · exact h2 j c
      · exact w
    rcases (show dg_ r k = 0 ∨ dg_ r k = 2 by have := h1 k hk; omega) with q | q
    · rw [if_pos (by rw [q]; rfl)]
      have hcone : r1_ (decide (dg_ r k = 2)) (dr_ (gM_ wl k) ((x : Rat), (y : Rat), (z : Rat))) ↔ cl_ (gM_ wl k) (x, y, z) ≤ 0 := by
        rw [q, show decide (0 = 2) = false from rfl, r1_f, ← hdr]
        constructor
        · intro w; exact Classical.byContradiction fun c => by have := rI_pos.mpr (show 0 < cl_ (gM_ wl k) (x, y, z) by omega); grind
        · intro w
          rcases (show cl_ (gM_ wl k) (x, y, z) < 0 ∨ cl_ (gM_ wl k) (x, y, z) = 0 by omega) with c | c
          · have := rI_neg.mpr c; grind
          · rw [c]; exact Rat.le_refl
      by_cases w : cl_ (gM_ wl k) (x, y, z) ≤ 0
      · left
        rw [if_pos (e1.mpr w)]
        exact ⟨_, rfl, nI_1 k, good (hcone.mpr w)⟩
      · right
        rw [if_neg (fun c => w (e1.mp c))]
        exact ⟨_, rfl, 0, rfl, Or.inr ⟨rfl, fun c => w (hcone.mp (c k hk))⟩⟩
    · rw [if_neg (by rw [q]; decide)]
      have hcone : r1_ (decide (dg_ r k = 2)) (dr_ (gM_ wl k) ((x : Rat), (y : Rat), (z : Rat))) ↔ 0 ≤ cl_ (gM_ wl k) (x, y, z) := by
        rw [q, show decide (2 = 2) = true from rfl, r1_t, ← hdr]
        constructor
        · intro w; exact Classical.byContradiction fun c => by have := rI_neg.mpr (show cl_ (gM_ wl k) (x, y, z) < 0 by omega); grind
        · intro w
          rcases (show 0 < cl_ (gM_ wl k) (x, y, z) ∨ cl_ (gM_ wl k) (x, y, z) = 0 by omega) with c | c
          · have := rI_pos.mpr c; grind
          · rw [c]; exact Rat.le_refl
      by_cases w : 0 ≤ cl_ (gM_ wl k) (x, y, z)
      · left
        rw [if_pos (e2.mpr w)]
        exact ⟨_, rfl, nI_1 k, good (hcone.mpr w)⟩
      · right
        rw [if_neg (fun c => w (e2.mp c))]
        exact ⟨_, rfl, 0, rfl, Or.inr ⟨rfl, fun c => w (hcone.mp (c k hk))⟩⟩
  · rintro st ⟨rfl, h2⟩
    unfold fX6_leadsOn_L18
    rw [if_pos (nI_le (Nat.le_refl n) (by omega))]
    exact ⟨_, rfl, 1, rfl, Or.inl ⟨rfl, h2⟩⟩
theorem m_leadsOn (hn : n ≤ 8) (hb : ∀ k, k < n → bw_ (gM_ wl k)) {r : Nat} (hr : r < 2 ^ 31) (h1 : ∀ k, k < n → dg_ r k ≠ 1) {x y z : Int} (hx : ab_ x 162) (hy : ab_ y 162) (hz : ab_ z 162) :
    ∃ b, fX6_leadsOn (nI n) wl (nI r) (iI_ x) (iI_ y) (iI_ z) = some b ∧ yn_ b (¬ (x = 0 ∧ y = 0 ∧ z = 0) ∧ Cn_ (gM_ wl) n r ((x : Rat), (y : Rat), (z : Rat))) := by
  have h0 : sm_ 0 := by unfold sm_; omega
  have e1 : (iI_ x = 0) ↔ x = 0 := iI_eq (ab_sm hx (by decide)) h0
  have e2 : (iI_ y = 0) ↔ y = 0 := iI_eq (ab_sm hy (by decide)) h0
  have e3 : (iI_ z = 0) ↔ z = 0 := iI_eq (ab_sm hz (by decide)) h0
  obtain ⟨b, e, hyn⟩ := m_leadsL hn hb hr h1 hx hy hz
  unfold fX6_leadsOn
  rw [ld_1, ld_2]
  by_cases c1 : x = 0
  · rw [if_pos (e1.mpr c1)]
    by_cases c2 : y = 0
    · rw [if_pos (e2.mpr c2)]
      by_cases c3 : z = 0
      · rw [if_pos (e3.mpr c3)]
        exact ⟨_, rfl, Or.inr ⟨rfl, fun q => q.1 ⟨c1, c2, c3⟩⟩⟩
      · rw [if_neg (fun q => c3 (e3.mp q))]
        exact ⟨b, e, yn_cg hyn ⟨fun q => ⟨fun w => c3 w.2.2, q⟩, fun q => q.2⟩⟩
    · rw [if_neg (fun q => c2 (e2.mp q))]
      exact ⟨b, e, yn_cg hyn ⟨fun q => ⟨fun w => c2 w.2.1, q⟩, fun q => q.2⟩⟩
  · rw [if_neg (fun q => c1 (e1.mp q))]
    exact ⟨b, e, yn_cg hyn ⟨fun q => ⟨fun w => c1 w.1, q⟩, fun q => q.2⟩⟩
theorem m_either (hn : n ≤ 8) (hb : ∀ k, k < n → bw_ (gM_ wl k)) {r : Nat} (hr : r < 2 ^ 31) (h1 : ∀ k, k < n → dg_ r k ≠ 1) {x y z : Int} (hx : ab_ x 162) (hy : ab_ y 162) (hz : ab_ z 162) :
    ∃ b, fX6_leadsEither (nI n) wl (nI r) (iI_ x) (iI_ y) (iI_ z) = some b ∧ yn_ b (¬ (x = 0 ∧ y = 0 ∧ z = 0) ∧ (Cn_ (gM_ wl) n r ((x : Rat), (y : Rat), (z : Rat)) ∨ Cn_ (gM_ wl) n r (mu_ (-1) ((x : Rat), (y : Rat), (z : Rat))))) := by
  unfold fX6_leadsEither
  obtain ⟨b, e, hb1⟩ := m_leadsOn hn hb hr h1 hx hy hz
  obtain ⟨b2, e2, hb2⟩ := m_leadsOn hn hb hr h1 (ab_neg hx) (ab_neg hy) (ab_neg hz)
  have hneg : ((((-x : Int) : Rat)), (((-y : Int) : Rat)), (((-z : Int) : Rat))) = mu_ (-1) ((x : Rat), (y : Rat), (z : Rat)) := by
    unfold mu_
    simp only [Rat.intCast_neg, Prod.mk.injEq]
    refine ⟨?_, ?_, ?_⟩ <;> grind
  rw [hneg] at hb2
  rw [bind_yes e]
  rcases hb1 with ⟨rfl, q⟩ | ⟨rfl, q⟩
  · rw [if_neg (by decide)]
    exact ⟨_, rfl, Or.inl ⟨rfl, q.1, Or.inl q.2⟩⟩
  · rw [if_pos rfl, iI_neg, iI_neg, iI_neg, bind_yes e2]
    rcases hb2 with ⟨rfl, w⟩ | ⟨rfl, w⟩
    · rw [if_neg (by decide)]
      exact ⟨_, rfl, Or.inl ⟨rfl, fun c => w.1 ⟨by omega, by omega, by omega⟩, Or.inr w.2⟩⟩
    · rw [if_pos rfl]
      refine ⟨_, rfl, Or.inr ⟨rfl, ?_⟩⟩
      rintro ⟨c1, c2 | c2⟩
      · exact q ⟨c1, c2⟩
      · exact w ⟨fun c => c1 ⟨by omega, by omega, by omega⟩, c2⟩
theorem m_pairs (hI : MI_ (gM_ wl) n d) {r : Nat} (hr : r < 2 ^ 31) (h1 : ∀ k, k < n → dg_ r k ≠ 1) {k : Nat} (hk : k < n) (u1 : Int32 × MU_) (u4 : Int32 × (Nat → Int64)) :
    ∃ u, lp_ (fun (st : Int32) => fX6_bounded_L99 (nI k) wl (nI n) (nI r) u1 u4 st) fu_ (0 : Int32) = some u ∧
      ((∃ j, u = .inl j) ∧ (∀ o, o < k → ¬ (cx_ (gM_ wl k) (gM_ wl o) ≠ o3_ ∧ (Cn_ (gM_ wl) n r (cx_ (gM_ wl k) (gM_ wl o)) ∨ Cn_ (gM_ wl) n r (mu_ (-1) (cx_ (gM_ wl k) (gM_ wl o)))))) ∨
       u = .inr (0, u1.2.1, u1.2.2.1, u1.2.2.2.1, u1.2.2.2.2.1, u1.2.2.2.2.2.1, u1.2.2.2.2.2.2.1, u1.2.2.2.2.2.2.2.1, u1.2.2.2.2.2.2.2.2, u4.2) ∧ ∃ o, o < k ∧ cx_ (gM_ wl k) (gM_ wl o) ≠ o3_ ∧ (Cn_ (gM_ wl) n r (cx_ (gM_ wl k) (gM_ wl o)) ∨ Cn_ (gM_ wl) n r (mu_ (-1) (cx_ (gM_ wl k) (gM_ wl o))))) := by
  obtain ⟨hn, hd1, hd, hb, hnv, hz, _⟩ := hI
  refine lp_for (fun o st => st = nI o ∧ ∀ o', o' < o → ¬ (cx_ (gM_ wl k) (gM_ wl o') ≠ o3_ ∧ (Cn_ (gM_ wl) n r (cx_ (gM_ wl k) (gM_ wl o')) ∨ Cn_ (gM_ wl) n r (mu_ (-1) (cx_ (gM_ wl k) (gM_ wl o')))))) _ k (by omega) ⟨rfl, fun o h => absurd h (Nat.not_lt_zero o)⟩ ?_ ?_
  · rintro o st ho ⟨rfl, h2⟩
    unfold fX6_bounded_L99
    have a0 : fX6_at wl (nI k) (0 : Int32) = some (wl (4 * k)) := f_at wl (c := 0) (by omega)
    have a1 : fX6_at wl (nI k) (1 : Int32) = some (wl (4 * k + 1)) := f_at wl (c := 1) (by omega)
    have a2 : fX6_at wl (nI k) (2 : Int32) = some (wl (4 * k + 2)) := f_at wl (c := 2) (by omega)
    have c0 : fX6_at wl (nI o) (0 : Int32) = some (wl (4 * o)) := f_at wl (c := 0) (by omega)
    have c1 : fX6_at wl (nI o) (1 : Int32) = some (wl (4 * o + 1)) := f_at wl (c := 1) (by omega)
    have c2 : fX6_at wl (nI o) (2 : Int32) = some (wl (4 * o + 2)) := f_at wl (c := 2) (by omega)
    rw [if_neg (nI_ge ho (by omega)), bind_yes a1, bind_yes c2, bind_yes a2, bind_yes c1, bind_yes a2, bind_yes c0, bind_yes a0, bind_yes c2, bind_yes a0, bind_yes c1, bind_yes a1, bind_yes c0]
    have hcross : (wl (4 * k + 1) * wl (4 * o + 2) - wl (4 * k + 2) * wl (4 * o + 1) = iI_ (ci_ (gM_ wl k) (gM_ wl o)).1) ∧ (wl (4 * k + 2) * wl (4 * o) - wl (4 * k) * wl (4 * o + 2) = iI_ (ci_ (gM_ wl k) (gM_ wl o)).2.1) ∧ (wl (4 * k) * wl (4 * o + 1) - wl (4 * k + 1) * wl (4 * o) = iI_ (ci_ (gM_ wl k) (gM_ wl o)).2.2) := by
      rw [← iI_of (wl (4 * k)), ← iI_of (wl (4 * k + 1)), ← iI_of (wl (4 * k + 2)), ← iI_of (wl (4 * o)), ← iI_of (wl (4 * o + 1)), ← iI_of (wl (4 * o + 2))]
      simp only [iI_mul, iI_sub]
      refine ⟨?_, ?_, ?_⟩ <;> rfl
    rw [hcross.1, hcross.2.1, hcross.2.2]
    have hab := ab_ci (hb k hk) (hb o (by omega))
    obtain ⟨b, e, hyn⟩ := m_either hn hb hr h1 hab.1 hab.2.1 hab.2.2
    rw [← cx_ci, ← ci_0] at hyn
    rw [bind_yes e]
    rcases hyn with ⟨rfl, q⟩ | ⟨rfl, q⟩
    · right
      rw [if_neg (by decide)]
      exact ⟨_, rfl, Or.inr ⟨rfl, o, ho, q⟩⟩
    · left
      rw [if_pos rfl]
      refine ⟨_, rfl, nI_1 o, fun o' ho' => ?_⟩
      rcases (show o' < o ∨ o' = o by omega) with c | rfl
      · exact h2 o' c
      · exact q
  · rintro st ⟨rfl, h2⟩
    unfold fX6_bounded_L99
    rw [if_pos (nI_le (Nat.le_refl k) (by omega))]
    exact ⟨_, rfl, Or.inl ⟨⟨_, rfl⟩, h2⟩⟩
/-- which ways the reference tries, by the numbers of space -/
def Tr_ (G : Nat → Wl_) (n d r : Nat) : Prop :=
  if d = 1 then Cn_ G n r (1, 0, 0) ∨ Cn_ G n r (mu_ (-1) (1, 0, 0))
  else if d = 2 then ∃ k, k < n ∧ (Cn_ G n r ((((- (G k).2.1 : Int) : Rat)), ((G k).1 : Rat), 0) ∨ Cn_ G n r (mu_ (-1) ((((- (G k).2.1 : Int) : Rat)), ((G k).1 : Rat), 0)))
  else ∃ k o, k < n ∧ o < k ∧ cx_ (G k) (G o) ≠ o3_ ∧ (Cn_ G n r (cx_ (G k) (G o)) ∨ Cn_ G n r (mu_ (-1) (cx_ (G k) (G o))))
theorem Cn_scale {G : Nat → Wl_} {n r : Nat} {v : V3_} {t : Rat} (ht : 0 < t) (h : Cn_ G n r (mu_ t v)) : Cn_ G n r v := by
  intro k hk
  have := h k hk
  rw [dr_mu] at this
  by_cases q : dg_ r k = 2
  · rw [decide_eq_true q, r1_t] at this ⊢
    refine Classical.byContradiction fun c => ?_
    have := Rat.mul_pos ht (show 0 < - dr_ (G k) v by grind)
    grind
  · rw [decide_eq_false q, r1_f] at this ⊢
    refine Classical.byContradiction fun c => ?_
    have := Rat.mul_pos ht (show 0 < dr_ (G k) v by grind)
    grind
theorem Tr_op {G : Nat → Wl_} {n d r : Nat} (hI : MI_ G n d) (hrk : rk_ (hS_ G (2 ^ n - 1)) = d) : Tr_ G n d r ↔ Op_ G n d r := by
  have hI0 := hI
  obtain ⟨hn, hd1, hd3, hb, hnv, hz, _⟩ := hI
  have zz : ((0 : Int) : Rat) = 0 := rfl
  unfold Tr_
  rcases (show d = 1 ∨ d = 2 ∨ d = 3 by omega) with rfl | rfl | rfl
  · rw [if_pos rfl]
    constructor
    · rintro (h | h)
      · refine ⟨(1, 0, 0), by unfold o3_; decide +kernel, fun j hj hdj => ?_, h⟩
        rcases (show j = 1 ∨ j = 2 by omega) with rfl | rfl <;> rfl
      · refine ⟨mu_ (-1) (1, 0, 0), by unfold o3_ mu_; decide +kernel, fun j hj hdj => ?_, h⟩
        rcases (show j = 1 ∨ j = 2 by omega) with rfl | rfl <;> (unfold xc_ mu_; decide +kernel)
    · rintro ⟨u, hu, h1, h2⟩
      have g1 := h1 1 (by decide) (by decide)
      have g2 := h1 2 (by decide) (by decide)
      unfold xc_ at g1 g2
      simp only [show ¬ (1 = 0) by decide, show ¬ (2 = 0) by decide, show ¬ (2 = 1) by decide, if_false, if_true] at g1 g2
      have hu1 : u.1 ≠ 0 := fun q => hu (Prod.ext q (Prod.ext g1 g2))
      rcases (show u.1 < 0 ∨ 0 < u.1 by grind) with q | q
      · right
        refine Cn_scale (t := - u.1) (by grind) ?_
        have : mu_ (- u.1) (mu_ (-1) (1, 0, 0)) = u := by
          unfold mu_
          refine Prod.ext ?_ (Prod.ext ?_ ?_) <;> (dsimp only; grind)
        rw [this]; exact h2
      · left
        refine Cn_scale (t := u.1) q ?_
        have : mu_ u.1 (1, 0, 0) = u := by
          unfold mu_
          refine Prod.ext ?_ (Prod.ext ?_ ?_) <;> (dsimp only; grind)
        rw [this]; exact h2
  · rw [if_neg (by decide), if_pos rfl]
    have hne : ∀ k, k < n → ¬ ((G k).1 = 0 ∧ (G k).2.1 = 0) := by
      intro k hk q
      have z2 := hz k hk 2 (by decide) (by decide)
      simp only [cf_] at z2
      simp at z2
      exact nv_int (hnv k hk) ⟨q.1, q.2, z2⟩
    constructor
    · rintro ⟨k, hk, h⟩
      have hv : ((((- (G k).2.1 : Int) : Rat)), ((G k).1 : Rat), (0 : Rat)) ≠ o3_ := by
        intro q
        unfold o3_ at q
        simp only [Prod.mk.injEq] at q
        have q1 := rI_zero.mp q.1
        have q2 := rI_zero.mp q.2.1
        exact hne k hk ⟨q2, by omega⟩
      rcases h with h | h
      · refine ⟨_, hv, fun j hj hdj => ?_, h⟩
        have : j = 2 := by omega
        subst this; rfl
      · refine ⟨_, mu_ne (by decide +kernel) hv, fun j hj hdj => ?_, h⟩
        have : j = 2 := by omega
        subst this
        unfold xc_ mu_
        simp only [show ¬ (2 = 0) by decide, show ¬ (2 = 1) by decide, if_false]
        grind
    · intro hO
      obtain ⟨x, y, hx, hy, hc, hcoord, hcone⟩ := open_line hI0 hrk hO
      have hc2 := hcoord 2 (by decide) (by decide)
      unfold xc_ at hc2
      simp only [show ¬ (2 = 0) by decide, show ¬ (2 = 1) by decide, if_false] at hc2
      -- a wall and the axis plane
      have pair : ∀ k, k < n → ∀ v : V3_, v = ((((- (G k).2.1 : Int) : Rat)), ((G k).1 : Rat), (0 : Rat)) ∨ v = mu_ (-1) ((((- (G k).2.1 : Int) : Rat)), ((G k).1 : Rat), (0 : Rat)) → (Cn_ G n r v ∨ Cn_ G n r (mu_ (-1) v)) → ∃ k, k < n ∧ (Cn_ G n r ((((- (G k).2.1 : Int) : Rat)), ((G k).1 : Rat), 0) ∨ Cn_ G n r (mu_ (-1) ((((- (G k).2.1 : Int) : Rat)), ((G k).1 : Rat), 0))) := by
        rintro k hk v (rfl | rfl) h
        · exact ⟨k, hk, h⟩
        · rcases h with h | h
          · exact ⟨k, hk, Or.inr h⟩
          · refine ⟨k, hk, Or.inl ((Cn_cg (fun j _ => ?_)).mp h)⟩
            rw [dr_mu, dr_mu]; grind
      have ax2 : ∀ j, j < 3 → 2 ≤ j → aw_ j = (0, 0, 1, 0) := fun j h1 h2 => by
        have : j = 2 := by omega
        subst this; rfl
      have one : ((1 : Int) : Rat) = 1 := rfl
      rcases hx with hx | ⟨j, hj, hdj, rfl⟩
      · obtain ⟨k, hk, rfl⟩ := wl_mem.mp hx
        have zk := hz k hk 2 (by decide) (by decide)
        simp only [cf_] at zk
        simp at zk
        rcases hy with hy | ⟨j, hj, hdj, rfl⟩
        · exfalso
          obtain ⟨o, ho, rfl⟩ := wl_mem.mp hy
          have zo := hz o ho 2 (by decide) (by decide)
          simp only [cf_] at zo
          simp at zo
          apply hc
          have e1 : (cx_ (G k) (G o)).1 = 0 := by simp only [cx_, zk, zo]; grind
          have e2 : (cx_ (G k) (G o)).2.1 = 0 := by simp only [cx_, zk, zo]; grind
          exact Prod.ext e1 (Prod.ext e2 hc2)
        · rw [ax2 j hj hdj] at hcone
          refine pair k hk _ (Or.inr ?_) hcone
          unfold mu_
          simp only [cx_, Rat.intCast_neg, zz, one, Prod.mk.injEq]
          refine ⟨?_, ?_, ?_⟩ <;> grind
      · rcases hy with hy | ⟨j2, hj2, hdj2, rfl⟩
        · obtain ⟨k, hk, rfl⟩ := wl_mem.mp hy
          rw [ax2 j hj hdj] at hcone
          refine pair k hk _ (Or.inl ?_) hcone
          simp only [cx_, Rat.intCast_neg, zz, one, Prod.mk.injEq]
          refine ⟨?_, ?_, ?_⟩ <;> grind
        · exfalso
          apply hc
          rw [ax2 j hj hdj, ax2 j2 hj2 hdj2]
          exact cx_self _
  · rw [if_neg (by decide), if_neg (by decide)]
    constructor
    · rintro ⟨k, o, hk, ho, hc, h | h⟩
      · exact ⟨_, hc, fun j hj hdj => by omega, h⟩
      · exact ⟨_, mu_ne (by decide +kernel) hc, fun j hj hdj => by omega, h⟩
    · intro hO
      obtain ⟨x, y, hx, hy, hc, _, hcone⟩ := open_line hI0 hrk hO
      rcases hx with hx | ⟨j, hj, hdj, _⟩
      · rcases hy with hy | ⟨j, hj, hdj, _⟩
        · obtain ⟨k, hk, rfl⟩ := wl_mem.mp hx
          obtain ⟨o, ho, rfl⟩ := wl_mem.mp hy
          rcases (show o < k ∨ o = k ∨ k < o by omega) with q | rfl | q
          · exact ⟨k, o, hk, q, hc, hcone⟩
          · exact absurd (cx_self _) hc
          · refine ⟨o, k, ho, q, cx_anti hc, ?_⟩
            have h1 : ∀ j, j < n → dr_ (G j) (cx_ (G o) (G k)) = dr_ (G j) (mu_ (-1) (cx_ (G k) (G o))) := fun j _ => by rw [dr_anti, dr_mu]; grind
            have h2 : ∀ j, j < n → dr_ (G j) (mu_ (-1) (cx_ (G o) (G k))) = dr_ (G j) (cx_ (G k) (G o)) := fun j _ => by rw [dr_mu, dr_anti]; grind
            rcases hcone with z | z
            · exact Or.inr ((Cn_cg h2).mpr z)
            · exact Or.inl ((Cn_cg h1).mpr z)
        · omega
      · omega
end BY
end
section
/-! how many rooms are bounded: both sides -/
section BZ
variable {wl : Nat → Int32} {n d : Nat}
theorem m_bounded (hI : MI_ (gM_ wl) n d) {s : MT_} (hs : mI_ (gM_ wl) n s) (p : Int32) : ∃ x, ∃ s' : MT_, fX6_bounded (nI d) (nI n) s.1 s.2.1 s.2.2.1 wl s.2.2.2.1 s.2.2.2.2.1 s.2.2.2.2.2.1 s.2.2.2.2.2.2.1 s.2.2.2.2.2.2.2.1 s.2.2.2.2.2.2.2.2 p = some (x, s') ∧ yn_ x (BdI_ (gM_ wl) n d p) ∧ mI_ (gM_ wl) n s' := by
  have hI0 := hI
  obtain ⟨hn, hd1, hd3, hb, hnv, hz, _⟩ := hI
  have h3 := p3_6561 hn
  have h2p : 0 < 2 ^ n := Nat.pow_pos (by decide)
  unfold fX6_bounded
  obtain ⟨x, t, e, hy, ht⟩ := m_room hI0 (s := (s.1, s.2.1, s.2.2.1, s.2.2.2.1, s.2.2.2.2.1, s.2.2.2.2.2.1, s.2.2.2.2.2.2.1, s.2.2.2.2.2.2.2.1)) hs p
  dsimp only at e
  rw [bind_yes e]
  dsimp only
  have back : ∀ (ta : Nat → Int64), mI_ (gM_ wl) n (t.1, t.2.1, t.2.2.1, t.2.2.2.1, t.2.2.2.2.1, t.2.2.2.2.2.1, t.2.2.2.2.2.2.1, t.2.2.2.2.2.2.2, ta) := fun _ => ht
  rcases hy with ⟨rfl, r, rfl, hR⟩ | ⟨rfl, hR⟩
  · have hr := Fa_lt hR.1
    have hone : ∀ r', nI r = nI r' → Ro_ (gM_ wl) n r' → r = r' := fun r' e h => (nI_eq (by omega) (by have := Fa_lt h.1; omega)).mp e
    rw [if_neg (by decide)]
    obtain ⟨ta, e2⟩ := m_rank3 hn hb hnv (h := 2 ^ n - 1) (by omega) s.2.2.2.2.2.2.2.2
    have hrd := rk_d hI0 (h := 2 ^ n - 1) (by omega)
    rw [nI_all hn, bind_yes e2]
    dsimp only
    by_cases q : rk_ (hS_ (gM_ wl) (2 ^ n - 1)) = d
    · rw [if_pos (nI_le (show d ≤ rk_ (hS_ (gM_ wl) (2 ^ n - 1)) by omega) (by omega))]
      have hT := Tr_op (r := r) hI0 q
      have yes : Tr_ (gM_ wl) n d r → yn_ 0 (BdI_ (gM_ wl) n d (nI r)) := by
        intro w
        refine Or.inr ⟨rfl, ?_⟩
        rintro ⟨r', e', hB⟩
        rw [hone r' e' hB.1] at w hT
        exact hB.2.2 (hT.mp w)
      have no : ¬ Tr_ (gM_ wl) n d r → yn_ 1 (BdI_ (gM_ wl) n d (nI r)) := fun w => Or.inl ⟨rfl, r, rfl, hR, q, fun z => w (hT.mpr z)⟩
      by_cases d1 : d = 1
      · rw [if_pos (by rw [d1]; rfl)]
        have a1 : ab_ 1 162 := by unfold ab_; decide
        have a0 : ab_ 0 162 := by unfold ab_; decide
        obtain ⟨b, e3, hb3⟩ := m_either hn hb (show r < 2 ^ 31 by omega) hR.2 a1 a0 a0
        have e3' : fX6_leadsEither (nI n) wl (nI r) (1 : Int32) (0 : Int32) (0 : Int32) = some b := e3
        rw [bind_yes e3']
        have hTd : Tr_ (gM_ wl) n d r ↔ Cn_ (gM_ wl) n r (((1 : Int) : Rat), ((0 : Int) : Rat), ((0 : Int) : Rat)) ∨ Cn_ (gM_ wl) n r (mu_ (-1) (((1 : Int) : Rat), ((0 : Int) : Rat), ((0 : Int) : Rat))) := by
          unfold Tr_
          rw [if_pos d1]
          exact Iff.rfl
        rcases hb3 with ⟨rfl, w⟩ | ⟨rfl, w⟩
        · rw [if_neg (by decide)]
          exact ⟨_, _, rfl, yes (hTd.mpr w.2), back ta⟩
        · rw [if_pos rfl]
          exact ⟨_, _, rfl, no (fun z => w ⟨fun c => absurd c.1 (by decide), hTd.mp z⟩), back ta⟩
      · rw [if_neg (show ¬ nI d = (1 : Int32) from fun z => d1 ((nI_eq (b := 1) (by omega) (by decide)).mp z))]
        have hlp := lp_for (body := fun (st : Int32) => fX6_bounded_L57 (nI n) (nI d) wl (nI r) (1, t) (nI (rk_ (hS_ (gM_ wl) (2 ^ n - 1))), ta) st)
          (fun k st => st = nI k ∧ ∀ j, j < k → ¬ (if d = 2 then (Cn_ (gM_ wl) n r ((((- (gM_ wl j).2.1 : Int) : Rat)), ((gM_ wl j).1 : Rat), 0) ∨ Cn_ (gM_ wl) n r (mu_ (-1) ((((- (gM_ wl j).2.1 : Int) : Rat)), ((gM_ wl j).1 : Rat), 0))) else ∃ o, o < j ∧ cx_ (gM_ wl j) (gM_ wl o) ≠ o3_ ∧ (Cn_ (gM_ wl) n r (cx_ (gM_ wl j) (gM_ wl o)) ∨ Cn_ (gM_ wl) n r (mu_ (-1) (cx_ (gM_ wl j) (gM_ wl o))))))
          (fun u => ∃ x, ∃ s' : MT_, Sum.elim (fun (x13 : Int32) => some ((1 : Int32), t.1, t.2.1, t.2.2.1, t.2.2.2.1, t.2.2.2.2.1, t.2.2.2.2.2.1, t.2.2.2.2.2.2.1, t.2.2.2.2.2.2.2, ta)) (fun y => some y) u = some (x, s') ∧ yn_ x (BdI_ (gM_ wl) n d (nI r)) ∧ mI_ (gM_ wl) n s') n (by omega) (s := (0 : Int32)) ⟨rfl, fun j hj => absurd hj (Nat.not_lt_zero j)⟩ ?_ ?_
        · obtain ⟨u, g1, x, s', g2, g3, g4⟩ := hlp
          refine ⟨x, s', ?_, g3, g4⟩
          rw [bind_yes g1]; exact g2
        · rintro k st hk ⟨rfl, h2⟩
          unfold fX6_bounded_L57
          rw [if_neg (nI_ge hk (by omega))]
          by_cases d2 : d = 2
          · have c1 : fX6_at wl (nI k) (1 : Int32) = some (wl (4 * k + 1)) := f_at wl (c := 1) (by omega)
            have c0 : fX6_at wl (nI k) (0 : Int32) = some (wl (4 * k)) := f_at wl (c := 0) (by omega)
            obtain ⟨b1, b2, b3, b4⟩ := hb k hk
            obtain ⟨b, e3, hb3⟩ := m_either hn hb (show r < 2 ^ 31 by omega) hR.2 (ab_mono (ab_neg b2) (by decide)) (ab_mono b1 (by decide)) (show ab_ 0 162 by unfold ab_; decide)
            have e4 : fX6_leadsEither (nI n) wl (nI r) (- wl (4 * k + 1)) (wl (4 * k)) (0 : Int32) = some b := by
              rw [← e3, ← iI_neg]
              unfold gM_
              dsimp only
              rw [iI_of, iI_of]; rfl
            rw [if_pos (by rw [d2]; rfl), bind_yes c1, bind_yes c0, bind_yes e4]
            have hne : ¬ (- (gM_ wl k).2.1 = 0 ∧ (gM_ wl k).1 = 0 ∧ (0 : Int) = 0) := by
              rintro ⟨q1, q2, _⟩
              have z2 := hz k hk 2 (by decide) (by omega)
              simp only [cf_] at z2
              simp at z2
              exact nv_int (hnv k hk) ⟨q2, by omega, z2⟩
            rcases hb3 with ⟨rfl, w⟩ | ⟨rfl, w⟩
            · right
              rw [if_neg (by decide)]
              refine ⟨_, rfl, _, _, rfl, yes ?_, back ta⟩
              unfold Tr_
              rw [if_neg d1, if_pos d2]
              exact ⟨k, hk, w.2⟩
            · left
              rw [if_pos rfl]
              refine ⟨_, rfl, nI_1 k, fun j hj => ?_⟩
              rcases (show j < k ∨ j = k by omega) with c | rfl
              · exact h2 j c
              · rw [if_pos d2]
                exact fun z => w ⟨hne, z⟩
          · rw [if_neg (show ¬ nI d = (2 : Int32) from fun z => d2 ((nI_eq (b := 2) (by omega) (by decide)).mp z))]
            obtain ⟨u, e3, hu⟩ := m_pairs hI0 (show r < 2 ^ 31 by omega) hR.2 hk (1, t) (nI (rk_ (hS_ (gM_ wl) (2 ^ n - 1))), ta)
            rw [bind_yes e3]
            rcases hu with ⟨⟨j, rfl⟩, w⟩ | ⟨rfl, o, ho, w⟩
            · left
              refine ⟨_, rfl, nI_1 k, fun j hj => ?_⟩
              rcases (show j < k ∨ j = k by omega) with c | rfl
              · exact h2 j c
              · rw [if_neg d2]
                rintro ⟨o, ho, z⟩
                exact w o ho z
            · right
              refine ⟨_, rfl, _, _, rfl, yes ?_, back ta⟩
              unfold Tr_
              rw [if_neg d1, if_neg d2]
              exact ⟨k, o, hk, ho, w⟩
        · rintro st ⟨rfl, h2⟩
          unfold fX6_bounded_L57
          rw [if_pos (nI_le (Nat.le_refl n) (by omega))]
          refine ⟨_, rfl, _, _, rfl, no ?_, back ta⟩
          unfold Tr_
          rw [if_neg d1]
          by_cases d2 : d = 2
          · rw [if_pos d2]
            rintro ⟨k, hk, w⟩
            have := h2 k hk
            rw [if_pos d2] at this
            exact this w
          · rw [if_neg d2]
            rintro ⟨k, o, hk, ho, w⟩
            have := h2 k hk
            rw [if_neg d2] at this
            exact this ⟨o, ho, w⟩
    · rw [if_neg (nI_ge (show rk_ (hS_ (gM_ wl) (2 ^ n - 1)) < d by omega) (by omega))]
      refine ⟨_, _, rfl, Or.inr ⟨rfl, ?_⟩, back ta⟩
      rintro ⟨r', e', hB⟩
      exact q hB.2.1
  · rw [if_pos rfl]
    refine ⟨_, _, rfl, Or.inr ⟨rfl, ?_⟩, back s.2.2.2.2.2.2.2.2⟩
    rintro ⟨r', e', hB⟩
    exact hR ⟨r', e', hB.1⟩
noncomputable def vR_ (G : Nat → Wl_) (n d : Nat) : Int32 := nI (fb_sm (fun r => iN_ (BdR_ G n d r)) (3 ^ n))
theorem m_boundedRooms (hI : MI_ (gM_ wl) n d) {s : MT_} (hs : mI_ (gM_ wl) n s) : ∃ s' : MT_, fX6_boundedRooms (nI d) (nI n) s.1 s.2.1 s.2.2.1 wl s.2.2.2.1 s.2.2.2.2.1 s.2.2.2.2.2.1 s.2.2.2.2.2.2.1 s.2.2.2.2.2.2.2.1 s.2.2.2.2.2.2.2.2 = some (vR_ (gM_ wl) n d, s') ∧ mI_ (gM_ wl) n s' := by
  have hn := hI.1
  have h3 := p3_6561 hn
  unfold fX6_boundedRooms vR_
  have hlp := lp_for (body := fun (st : (Int32 × Int32 × MT_)) => fX6_boundedRooms_L4 (nI n) (nI d) wl st.1 st.2.1 st.2.2.1 st.2.2.2.1 st.2.2.2.2.1 st.2.2.2.2.2.1 st.2.2.2.2.2.2.1 st.2.2.2.2.2.2.2.1 st.2.2.2.2.2.2.2.2.1 st.2.2.2.2.2.2.2.2.2.1 st.2.2.2.2.2.2.2.2.2.2)
    (fun r st => st.1 = nI r ∧ st.2.1 = nI (fb_sm (fun r => iN_ (BdR_ (gM_ wl) n d r)) r) ∧ mI_ (gM_ wl) n st.2.2)
    (fun st => st.2.1 = nI (fb_sm (fun r => iN_ (BdR_ (gM_ wl) n d r)) (3 ^ n)) ∧ mI_ (gM_ wl) n st.2.2) (3 ^ n) (by omega) (s := ((0 : Int32), (0 : Int32), s)) ⟨rfl, rfl, hs⟩ ?_ ?_
  · obtain ⟨⟨i, y, s'⟩, e1, e2, e3⟩ := hlp
    dsimp only at e2 e3
    subst e2
    refine ⟨s', ?_, e3⟩
    rw [bind_yes e1]
  · rintro r ⟨i, y, t⟩ hr ⟨e1, e2, e3⟩
    dsimp only at e1 e2 e3 ⊢
    subst e1 e2
    left
    unfold fX6_boundedRooms_L4
    obtain ⟨x, t1, e4, hy, ht⟩ := m_room hI (s := (t.1, t.2.1, t.2.2.1, t.2.2.2.1, t.2.2.2.2.1, t.2.2.2.2.2.1, t.2.2.2.2.2.2.1, t.2.2.2.2.2.2.2.1)) e3 (nI r)
    dsimp only at e4
    rw [bind_yes (f_power (by omega)), if_neg (nI_ge hr (by omega)), bind_yes e4]
    dsimp only
    have hy' := yn_cg hy (RoI_nI hn (by omega))
    rcases hy' with ⟨rfl, q⟩ | ⟨rfl, q⟩
    · rw [if_neg (by decide)]
      obtain ⟨x2, t2, e5, hy5, ht5⟩ := m_bounded hI (s := (t1.1, t1.2.1, t1.2.2.1, t1.2.2.2.1, t1.2.2.2.2.1, t1.2.2.2.2.2.1, t1.2.2.2.2.2.2.1, t1.2.2.2.2.2.2.2, t.2.2.2.2.2.2.2.2)) ht (nI r)
      dsimp only at e5
      rw [bind_yes e5]
      dsimp only
      have hB : BdI_ (gM_ wl) n d (nI r) ↔ BdR_ (gM_ wl) n d r := by
        constructor
        · rintro ⟨r', e', hB⟩
          have := Fa_lt hB.1.1
          rw [(nI_eq (by omega) (by omega)).mp e']; exact hB
        · intro h; exact ⟨r, rfl, h⟩
      have hy6 := yn_cg hy5 hB
      rcases hy6 with ⟨rfl, w⟩ | ⟨rfl, w⟩
      · rw [if_neg (by decide)]
        exact ⟨_, rfl, nI_1 r, by rw [fb_sm_succ, iN_1 w]; exact nI_1 _, ht5⟩
      · rw [if_pos rfl]
        exact ⟨_, rfl, nI_1 r, by rw [fb_sm_succ, iN_0 w]; exact nI_add _ 0, ht5⟩
    · rw [if_pos rfl]
      exact ⟨_, rfl, nI_1 r, by rw [fb_sm_succ, iN_0 (fun z => q z.1)]; exact nI_add _ 0, ht⟩
  · rintro ⟨i, y, t⟩ ⟨e1, e2, e3⟩
    dsimp only at e1 e2 e3 ⊢
    subst e1 e2
    unfold fX6_boundedRooms_L4
    rw [bind_yes (f_power (by omega)), if_pos (nI_le (Nat.le_refl _) (by omega))]
    exact ⟨_, rfl, rfl, e3⟩
end BZ
/-! Zaslavsky's count, out of the class's sum -/
theorem si_3 (f : Nat → Int) (m : Nat) : fb_si f (m * 3) = fb_si f m + fb_si (fun r => f (r + 1 * m)) m + fb_si (fun r => f (r + 2 * m)) m := by
  rw [show m * 3 = m + (m + m) by omega, fb_si_split, fb_si_split]
  have e1 : fb_si (fun k => f (m + k)) m = fb_si (fun r => f (r + 1 * m)) m := fb_si_cong (fun k _ => by rw [Nat.one_mul, Nat.add_comm])
  have e2 : fb_si (fun k => f (m + (m + k))) m = fb_si (fun r => f (r + 2 * m)) m := fb_si_cong (fun k _ => by congr 1; omega)
  rw [e1, e2]
  omega
theorem si_z (N : Nat) : fb_si (fun _ => (0 : Int)) N = 0 := by
  induction N with
  | zero => rfl
  | succ N ih => rw [fb_si_succ, ih]; rfl
def sr_ (G : Nat → Wl_) (r : Nat) : Nat → List (Wl_ × Bool) → List (Wl_ × Bool)
  | 0, L => L
  | m + 1, L => sr_ G r m ((G m, decide (dg_ r m = 2)) :: L)
theorem sr_mem {G : Nat → Wl_} {r : Nat} : ∀ {m : Nat} {L : List (Wl_ × Bool)} {x : Wl_ × Bool}, x ∈ sr_ G r m L ↔ (∃ k, k < m ∧ x = (G k, decide (dg_ r k = 2))) ∨ x ∈ L := by
  intro m
  induction m with
  | zero =>
    intro L x
    constructor
    · intro h; exact Or.inr h
    · rintro (⟨k, hk, _⟩ | h)
      · omega
      · exact h
  | succ m ih =>
    intro L x
    show x ∈ sr_ G r m ((G m, decide (dg_ r m = 2)) :: L) ↔ _
    rw [ih, List.mem_cons]
    constructor
    · rintro (⟨k, hk, h⟩ | h | h)
      · exact Or.inl ⟨k, by omega, h⟩
      · exact Or.inl ⟨m, by omega, h⟩
      · exact Or.inr h
    · rintro (⟨k, hk, h⟩ | h)
      · rcases (show k < m ∨ k = m by omega) with q | rfl
        · exact Or.inl ⟨k, q, h⟩
        · exact Or.inr (Or.inl h)
      · exact Or.inr (Or.inr h)
theorem sr_add (G : Nat → Wl_) (r t : Nat) {n : Nat} : ∀ {m : Nat} (L : List (Wl_ × Bool)), m ≤ n → sr_ G (r + t * 3 ^ n) m L = sr_ G r m L := by
  intro m
  induction m with
  | zero => intro L _; rfl
  | succ m ih =>
    intro L h
    show sr_ G (r + t * 3 ^ n) m _ = sr_ G r m _
    rw [dg_add _ _ (show m < n by omega)]
    exact ih _ (by omega)
theorem cn_sum (B : List Wl_) (G : Nat → Wl_) : ∀ (m : Nat) (L : List (Wl_ × Bool)), fb_si (fun r => in_ ((∀ k, k < m → dg_ r k ≠ 1) ∧ Bd_ B (sr_ G r m L))) (3 ^ m) = cn_ B (wl_ G m) L := by
  intro m
  induction m with
  | zero =>
    intro L
    show 0 + in_ _ = in_ (Bd_ B L)
    rw [Int.zero_add]
    exact in_cg ⟨fun h => h.2, fun h => ⟨fun k hk => by omega, h⟩⟩
  | succ m ih =>
    intro L
    show _ = cn_ B (G m :: wl_ G m) L
    simp only [cn_]
    rw [← ih, ← ih, Nat.pow_succ, si_3]
    have step : ∀ (t : Nat) (b : Bool), t ≤ 2 → t ≠ 1 → decide (t = 2) = b → ∀ r, r < 3 ^ m → in_ ((∀ k, k < m + 1 → dg_ (r + t * 3 ^ m) k ≠ 1) ∧ Bd_ B (sr_ G (r + t * 3 ^ m) (m + 1) L)) = in_ ((∀ k, k < m → dg_ r k ≠ 1) ∧ Bd_ B (sr_ G r m ((G m, b) :: L))) := by
      intro t b ht ht1 hb r hr
      have e : sr_ G (r + t * 3 ^ m) (m + 1) L = sr_ G r m ((G m, b) :: L) := by
        show sr_ G (r + t * 3 ^ m) m ((G m, decide (dg_ (r + t * 3 ^ m) m = 2)) :: L) = _
        rw [dg_top hr ht, hb, sr_add G r t _ (Nat.le_refl m)]
      rw [e]
      refine in_cg (and_congr_left (fun _ => ?_))
      constructor
      · intro h k hk
        rw [← dg_add r t hk]; exact h k (by omega)
      · intro h k hk
        rcases (show k < m ∨ k = m by omega) with q | rfl
        · rw [dg_add r t q]; exact h k q
        · rw [dg_top hr ht]; exact ht1
    have e0 : fb_si (fun r => in_ ((∀ k, k < m + 1 → dg_ r k ≠ 1) ∧ Bd_ B (sr_ G r (m + 1) L))) (3 ^ m) = fb_si (fun r => in_ ((∀ k, k < m → dg_ r k ≠ 1) ∧ Bd_ B (sr_ G r m ((G m, false) :: L)))) (3 ^ m) :=
      fb_si_cong (fun r hr => by have := step 0 false (by omega) (by omega) rfl r hr; rw [Nat.zero_mul, Nat.add_zero] at this; exact this)
    have e1 : fb_si (fun r => in_ ((∀ k, k < m + 1 → dg_ (r + 1 * 3 ^ m) k ≠ 1) ∧ Bd_ B (sr_ G (r + 1 * 3 ^ m) (m + 1) L))) (3 ^ m) = 0 := by
      rw [fb_si_cong (g := fun _ => 0) (fun r hr => in_0 (fun h => h.1 m (by omega) (dg_top hr (by omega)))), si_z]
    have e2 : fb_si (fun r => in_ ((∀ k, k < m + 1 → dg_ (r + 2 * 3 ^ m) k ≠ 1) ∧ Bd_ B (sr_ G (r + 2 * 3 ^ m) (m + 1) L))) (3 ^ m) = fb_si (fun r => in_ ((∀ k, k < m → dg_ r k ≠ 1) ∧ Bd_ B (sr_ G r m ((G m, true) :: L)))) (3 ^ m) :=
      fb_si_cong (fun r hr => step 2 true (by omega) (by omega) rfl r hr)
    rw [e0, e1, e2]
    omega
def sgm_ (m h : Nat) : Int := if fb_ct (fun k => h.testBit k) m % 2 = 0 then 1 else -1
theorem sS_sum (G : Nat → Wl_) : ∀ (m : Nat) (B : List Wl_), fb_si (fun h => in_ (∃ p, oB_ B p ∧ ∀ k, k < m → h.testBit k = true → ev_ (G k) p = 0) * sgm_ m h) (2 ^ m) = sS_ (wl_ G m) B := by
  intro m
  induction m with
  | zero =>
    intro B
    show 0 + in_ _ * 1 = in_ (∃ p, oB_ B p)
    rw [Int.zero_add, Int.mul_one]
    exact in_cg ⟨fun ⟨p, h, _⟩ => ⟨p, h⟩, fun ⟨p, h⟩ => ⟨p, h, fun k hk => by omega⟩⟩
  | succ m ih =>
    intro B
    show _ = sS_ (G m :: wl_ G m) B
    simp only [sS_]
    rw [← ih, ← ih, Nat.pow_succ, si_2]
    have e0 : fb_si (fun h => in_ (∃ p, oB_ B p ∧ ∀ k, k < m + 1 → h.testBit k = true → ev_ (G k) p = 0) * sgm_ (m + 1) h) (2 ^ m) = fb_si (fun h => in_ (∃ p, oB_ B p ∧ ∀ k, k < m → h.testBit k = true → ev_ (G k) p = 0) * sgm_ m h) (2 ^ m) := by
      refine fb_si_cong (fun h hh => ?_)
      have hbit : h.testBit m = false := Nat.testBit_lt_two_pow hh
      have hs : sgm_ (m + 1) h = sgm_ m h := by unfold sgm_; rw [fb_ct_succ, hbit]; simp
      rw [hs]
      congr 1
      refine in_cg ⟨fun ⟨p, h1, h2⟩ => ⟨p, h1, fun k hk => h2 k (by omega)⟩, fun ⟨p, h1, h2⟩ => ⟨p, h1, fun k hk hb => ?_⟩⟩
      rcases (show k < m ∨ k = m by omega) with q | rfl
      · exact h2 k q hb
      · rw [hbit] at hb; cases hb
    have e1 : fb_si (fun h => in_ (∃ p, oB_ B p ∧ ∀ k, k < m + 1 → (h + 2 ^ m).testBit k = true → ev_ (G k) p = 0) * sgm_ (m + 1) (h + 2 ^ m)) (2 ^ m) = - fb_si (fun h => in_ (∃ p, oB_ (G m :: B) p ∧ ∀ k, k < m → h.testBit k = true → ev_ (G k) p = 0) * sgm_ m h) (2 ^ m) := by
      rw [show (- fb_si (fun h => in_ (∃ p, oB_ (G m :: B) p ∧ ∀ k, k < m → h.testBit k = true → ev_ (G k) p = 0) * sgm_ m h) (2 ^ m)) = fb_si (fun h => (-1) * (in_ (∃ p, oB_ (G m :: B) p ∧ ∀ k, k < m → h.testBit k = true → ev_ (G k) p = 0) * sgm_ m h)) (2 ^ m) by rw [fb_si_mul]; omega]
      refine fb_si_cong (fun h hh => ?_)
      have hlow : ∀ k, k < m → (h + 2 ^ m).testBit k = h.testBit k := fun k hk => by
        rw [bit_more hh]
        have : ¬ k = m := by omega
        simp [this]
      have htop : (h + 2 ^ m).testBit m = true := by rw [bit_more hh]; simp
      have hs : sgm_ (m + 1) (h + 2 ^ m) = - sgm_ m h := by
        unfold sgm_
        rw [fb_ct_succ, htop, fb_ct_cong (q := fun k => h.testBit k) hlow]
        simp only [if_true]
        by_cases q : fb_ct (fun k => h.testBit k) m % 2 = 0
        · rw [if_pos q, if_neg (by omega)]
        · rw [if_neg q, if_pos (by omega)]; rfl
      have hc : in_ (∃ p, oB_ B p ∧ ∀ k, k < m + 1 → (h + 2 ^ m).testBit k = true → ev_ (G k) p = 0) = in_ (∃ p, oB_ (G m :: B) p ∧ ∀ k, k < m → h.testBit k = true → ev_ (G k) p = 0) := by
        refine in_cg ⟨?_, ?_⟩
        · rintro ⟨p, h1, h2⟩
          exact ⟨p, oB_cons.mpr ⟨h2 m (by omega) htop, h1⟩, fun k hk hb => h2 k (by omega) (by rw [hlow k hk]; exact hb)⟩
        · rintro ⟨p, h1, h2⟩
          obtain ⟨h3, h4⟩ := oB_cons.mp h1
          refine ⟨p, h4, fun k hk hb => ?_⟩
          rcases (show k < m ∨ k = m by omega) with q | rfl
          · exact h2 k q (by rw [← hlow k q]; exact hb)
          · exact h3
      rw [hs, hc]
      generalize in_ (∃ p, oB_ (G m :: B) p ∧ ∀ k, k < m → h.testBit k = true → ev_ (G k) p = 0) = a
      generalize sgm_ m h = b
      grind
    rw [e0, e1]
    omega
end
section
/-! the class's count of bounded rooms -/
def Bx_ (d : Nat) : List Wl_ := if d = 1 then [aw_ 1, aw_ 2] else if d = 2 then [aw_ 2] else []
theorem Bx_mem {d : Nat} (h1 : 1 ≤ d) (h3 : d ≤ 3) {x : Wl_} : x ∈ Bx_ d ↔ ∃ j, j < 3 ∧ d ≤ j ∧ x = aw_ j := by
  unfold Bx_
  rcases (show d = 1 ∨ d = 2 ∨ d = 3 by omega) with rfl | rfl | rfl
  · rw [if_pos rfl]
    simp only [List.mem_cons, List.not_mem_nil, or_false]
    constructor
    · rintro (rfl | rfl)
      · exact ⟨1, by decide, by decide, rfl⟩
      · exact ⟨2, by decide, by decide, rfl⟩
    · rintro ⟨j, hj, hd, rfl⟩
      rcases (show j = 1 ∨ j = 2 by omega) with rfl | rfl
      · exact Or.inl rfl
      · exact Or.inr rfl
  · rw [if_neg (by decide), if_pos rfl]
    simp only [List.mem_cons, List.not_mem_nil, or_false]
    constructor
    · rintro rfl; exact ⟨2, by decide, by decide, rfl⟩
    · rintro ⟨j, hj, hd, rfl⟩
      have : j = 2 := by omega
      rw [this]
  · rw [if_neg (by decide), if_neg (by decide)]
    constructor
    · intro h; cases h
    · rintro ⟨j, hj, hd, rfl⟩; omega
theorem Bx_id {d : Nat} (h1 : 1 ≤ d) (h3 : d ≤ 3) : Id_ (Bx_ d) := by
  unfold Bx_
  have e2 : ∃ u, pB_ [] u ∧ dr_ (aw_ 2) u ≠ 0 := ⟨(0, 0, 1), fun x hx => (by cases hx), by rw [dr_aw (by decide)]; unfold xc_; decide +kernel⟩
  rcases (show d = 1 ∨ d = 2 ∨ d = 3 by omega) with rfl | rfl | rfl
  · rw [if_pos rfl]
    refine ⟨⟨trivial, e2⟩, (0, 1, 0), ?_, ?_⟩
    · intro x hx
      simp only [List.mem_cons, List.not_mem_nil, or_false] at hx
      subst hx
      rw [dr_aw (by decide)]; unfold xc_; decide +kernel
    · rw [dr_aw (by decide)]; unfold xc_; decide +kernel
  · rw [if_neg (by decide), if_pos rfl]
    exact ⟨trivial, e2⟩
  · rw [if_neg (by decide), if_neg (by decide)]
    trivial
/-- a place with the numbers of space alone -/
def pj_ (d : Nat) (p : V3_) : V3_ := (p.1, if d ≤ 1 then 0 else p.2.1, if d ≤ 2 then 0 else p.2.2)
theorem xc_pj {d j : Nat} (hj : j < 3) (h1 : 1 ≤ d) (hd : d ≤ j) (p : V3_) : xc_ j (pj_ d p) = 0 := by
  rcases (show j = 1 ∨ j = 2 by omega) with rfl | rfl
  · unfold xc_ pj_
    simp only [show ¬ (1 = 0) by decide, if_false, if_true]
    rw [if_pos hd]
  · unfold xc_ pj_
    simp only [show ¬ (2 = 0) by decide, show ¬ (2 = 1) by decide, if_false]
    rw [if_pos hd]
theorem ev_pj {G : Nat → Wl_} {n d : Nat} (hI : MI_ G n d) {k : Nat} (hk : k < n) (p : V3_) : ev_ (G k) (pj_ d p) = ev_ (G k) p := by
  obtain ⟨hn, hd1, hd3, hb, hnv, hz, _⟩ := hI
  have z1 := hz k hk 1 (by decide)
  have z2 := hz k hk 2 (by decide)
  simp only [cf_] at z1 z2
  simp at z1 z2
  have z : ((0 : Int) : Rat) = 0 := rfl
  unfold ev_ dr_ pj_
  dsimp only
  by_cases q1 : d ≤ 1
  · rw [if_pos q1, if_pos (by omega), z1 q1, z2 (by omega), z]; grind
  · rw [if_neg q1]
    by_cases q2 : d ≤ 2
    · rw [if_pos q2, z2 q2, z]; grind
    · rw [if_neg q2]
theorem ev_aw {j : Nat} (hj : j < 3) (p : V3_) : ev_ (aw_ j) p = xc_ j p := by
  unfold ev_
  rw [dr_aw hj]
  have : ((aw_ j).2.2.2 : Int) = 0 := by rcases (show j = 0 ∨ j = 1 ∨ j = 2 by omega) with rfl | rfl | rfl <;> rfl
  rw [this]
  have z : ((0 : Int) : Rat) = 0 := rfl
  rw [z]; grind
theorem oB_pj {d : Nat} (h1 : 1 ≤ d) (h3 : d ≤ 3) (p : V3_) : oB_ (Bx_ d) (pj_ d p) := by
  intro x hx
  obtain ⟨j, hj, hd, rfl⟩ := (Bx_mem h1 h3).mp hx
  rw [ev_aw hj]; exact xc_pj hj h1 hd p
theorem in_iN (P : Prop) : in_ P = (iN_ P : Int) := by
  by_cases h : P
  · rw [in_1 h, iN_1 h]; rfl
  · rw [in_0 h, iN_0 h]; rfl
section ZC
variable {G : Nat → Wl_} {n d : Nat}
theorem BdR_Bd (hI : MI_ G n d) (hrk : rk_ (hS_ G (2 ^ n - 1)) = d) {r : Nat} (hr : r < 3 ^ n) : ((∀ k, k < n → dg_ r k ≠ 1) ∧ Bd_ (Bx_ d) (sr_ G r n [])) ↔ BdR_ G n d r := by
  have hd1 := hI.2.1
  have hd3 := hI.2.2.1
  have hmem : ∀ x, x ∈ sr_ G r n [] ↔ ∃ k, k < n ∧ x = (G k, decide (dg_ r k = 2)) := fun x => by
    rw [sr_mem]
    exact ⟨fun h => (by rcases h with h | h; exact h; cases h), fun h => Or.inl h⟩
  have hs : ∀ p, (∀ k, k < n → dg_ r k ≠ 1) → (sB_ (sr_ G r n []) p ↔ ∀ k, k < n → sg_ (ev_ (G k) p) = dg_ r k) := by
    intro p hne
    constructor
    · intro h k hk
      have a := h _ ((hmem _).mpr ⟨k, hk, rfl⟩)
      dsimp only at a
      have hle := dg_le r k
      have := hne k hk
      rcases (show dg_ r k = 0 ∨ dg_ r k = 2 by omega) with q | q
      · rw [q, show decide (0 = 2) = false from rfl, s1_f] at a
        rw [q]; exact sg_neg a
      · rw [q, show decide (2 = 2) = true from rfl, s1_t] at a
        rw [q]; exact sg_pos a
    · intro h x hx
      obtain ⟨k, hk, rfl⟩ := (hmem x).mp hx
      dsimp only
      have a := h k hk
      have hle := dg_le r k
      have := hne k hk
      rcases (show dg_ r k = 0 ∨ dg_ r k = 2 by omega) with q | q
      · rw [q, show decide (0 = 2) = false from rfl, s1_f]
        rw [q] at a; exact sg_eq0.mp a
      · rw [q, show decide (2 = 2) = true from rfl, s1_t]
        rw [q] at a; exact sg_eq2.mp a
  have hRe : (∀ k, k < n → dg_ r k ≠ 1) → (Re_ (Bx_ d) (sr_ G r n []) ↔ Fa_ G n r) := by
    intro hne
    constructor
    · rintro ⟨p, _, h2⟩
      exact Fa_iff.mpr ⟨hr, p, (hs p hne).mp h2⟩
    · intro hF
      obtain ⟨_, p, hp⟩ := Fa_iff.mp hF
      refine ⟨pj_ d p, oB_pj hd1 hd3 p, (hs _ hne).mpr (fun k hk => ?_)⟩
      rw [ev_pj hI hk]; exact hp k hk
  have hRc : Rc_ (Bx_ d) (sr_ G r n []) ↔ Op_ G n d r := by
    constructor
    · rintro ⟨u, h1, h2, h3⟩
      refine ⟨u, h3, fun j hj hdj => ?_, fun k hk => h2 _ ((hmem _).mpr ⟨k, hk, rfl⟩)⟩
      rw [← dr_aw hj]; exact h1 _ ((Bx_mem hd1 hd3).mpr ⟨j, hj, hdj, rfl⟩)
    · rintro ⟨u, h1, h2, h3⟩
      refine ⟨u, fun x hx => ?_, fun x hx => ?_, h1⟩
      · obtain ⟨j, hj, hdj, rfl⟩ := (Bx_mem hd1 hd3).mp hx
        rw [dr_aw hj]; exact h2 j hj hdj
      · obtain ⟨k, hk, rfl⟩ := (hmem x).mp hx
        exact h3 k hk
  unfold Bd_ BdR_ Ro_
  constructor
  · rintro ⟨h1, h2, h3⟩
    exact ⟨⟨(hRe h1).mp h2, h1⟩, hrk, fun q => h3 (hRc.mpr q)⟩
  · rintro ⟨⟨h1, h2⟩, _, h3⟩
    exact ⟨h2, (hRe h2).mpr h1, fun q => h3 (hRc.mp q)⟩
theorem Si_sS (hI : MI_ G n d) : Si_ n (hC_ G) = sS_ (wl_ G n) (Bx_ d) := by
  have hn := hI.1
  rw [← sS_sum]
  unfold Si_
  refine fb_si_cong (fun h hh => ?_)
  have hs : sgm_ n h = sg2_ h := by
    unfold sgm_ sg2_
    rw [show (8 : Nat) = n + (8 - n) by omega, fb_ct_split]
    have : fb_ct (fun k => h.testBit (n + k)) (8 - n) = 0 := fb_ct_zero.mpr (fun k _ => Nat.testBit_lt_two_pow (Nat.lt_of_lt_of_le hh (Nat.pow_le_pow_right (by decide) (by omega))))
    rw [this, Nat.add_zero]
  have hc : hC_ G h ↔ ∃ p, oB_ (Bx_ d) p ∧ ∀ k, k < n → h.testBit k = true → ev_ (G k) p = 0 := by
    constructor
    · rintro ⟨p, hp⟩
      exact ⟨pj_ d p, oB_pj hI.2.1 hI.2.2.1 p, fun k hk hb => by rw [ev_pj hI hk]; exact hp k hb⟩
    · rintro ⟨p, _, hp⟩
      exact ⟨p, fun k hb => hp k (lt_bit hh hb) hb⟩
  rw [hs]
  by_cases q : hC_ G h
  · rw [if_pos (pb_t.mpr q), in_1 (hc.mp q), Int.one_mul]
  · rw [if_neg (fun z => q (pb_t.mp z)), in_0 (fun z => q (hc.mpr z)), Int.zero_mul]
theorem zas_rooms (hI : MI_ G n d) (hrk : rk_ (hS_ G (2 ^ n - 1)) = d) : ((fb_sm (fun r => iN_ (BdR_ G n d r)) (3 ^ n) : Nat) : Int) = sg3_ (Bx_ d).length * Si_ n (hC_ G) := by
  rw [Si_sS hI, ← zas_ (wl_ G n) (Bx_ d) (Bx_id hI.2.1 hI.2.2.1) ⟨pj_ d o3_, oB_pj hI.2.1 hI.2.2.1 _⟩ (fun u h1 h2 => ker_0 hI hrk (fun j hj hdj => by
    rw [← dr_aw hj]; exact h1 _ ((Bx_mem hI.2.1 hI.2.2.1).mpr ⟨j, hj, hdj, rfl⟩)) (fun k hk => h2 _ (wl_get hk))), ← cn_sum, ← fb_si_nat]
  refine fb_si_cong (fun r hr => ?_)
  rw [in_cg (BdR_Bd hI hrk hr), in_iN]
theorem Si_powers (hI : MI_ G n d) : ∀ k, fb_si (fun q => Si_ n (Fp_ G d (nI q))) k = Si_ n (fun h => hC_ G h ∧ d - rk_ (hS_ G h) < k) ∨ 2 ^ 31 ≤ k := by
  intro k
  induction k with
  | zero =>
    left
    rw [Si_none (P := fun h => hC_ G h ∧ d - rk_ (hS_ G h) < 0) (fun h _ q => absurd q.2 (Nat.not_lt_zero _))]
    rfl
  | succ k ih =>
    by_cases hk : 2 ^ 31 ≤ k + 1
    · exact Or.inr hk
    · left
      rcases ih with ih | ih
      · rw [fb_si_succ, ih, Si_split n (fun h => hC_ G h ∧ d - rk_ (hS_ G h) < k + 1) (fun h => d - rk_ (hS_ G h) < k)]
        have e1 : Si_ n (fun h => (hC_ G h ∧ d - rk_ (hS_ G h) < k + 1) ∧ d - rk_ (hS_ G h) < k) = Si_ n (fun h => hC_ G h ∧ d - rk_ (hS_ G h) < k) := Si_cg (fun h _ => ⟨fun q => ⟨q.1.1, q.2⟩, fun q => ⟨⟨q.1, by omega⟩, q.2⟩⟩)
        have e2 : Si_ n (fun h => (hC_ G h ∧ d - rk_ (hS_ G h) < k + 1) ∧ ¬ d - rk_ (hS_ G h) < k) = Si_ n (Fp_ G d (nI k)) := by
          refine Si_cg (fun h hh => ?_)
          have hrd := rk_d hI hh
          have hd := hI.2.2.1
          unfold Fp_
          rw [pk_sub hrd, nI_eq (by omega) (by omega)]
          constructor
          · rintro ⟨⟨q1, q2⟩, q3⟩; exact ⟨q1, by omega⟩
          · rintro ⟨q1, q2⟩; exact ⟨⟨q1, by omega⟩, by omega⟩
        rw [e1, e2]
      · omega
end ZC
section ZD
variable {va vb vc ve vth : Nat → Int32} {n d : Nat}
theorem c_boundedRooms (hI : MI_ (gC_ va vb vc ve) n d) (hP : PI_ (gC_ va vb vc ve) n) (hT : TH_ vth) {u : CT_} (hu : cI_ (gC_ va vb vc ve) n d u) : ∃ u' : CT_, fX5_boundedRooms (nI d) (nI n) u.1 u.2.1 u.2.2.1 va vb vc ve vth u.2.2.2.1 u.2.2.2.2.1 u.2.2.2.2.2.1 u.2.2.2.2.2.2.1 u.2.2.2.2.2.2.2.1 u.2.2.2.2.2.2.2.2.1 u.2.2.2.2.2.2.2.2.2.1 u.2.2.2.2.2.2.2.2.2.2.1 u.2.2.2.2.2.2.2.2.2.2.2.1 u.2.2.2.2.2.2.2.2.2.2.2.2.1 u.2.2.2.2.2.2.2.2.2.2.2.2.2.1 u.2.2.2.2.2.2.2.2.2.2.2.2.2.2.1 u.2.2.2.2.2.2.2.2.2.2.2.2.2.2.2.1 u.2.2.2.2.2.2.2.2.2.2.2.2.2.2.2.2.1 u.2.2.2.2.2.2.2.2.2.2.2.2.2.2.2.2.2.1 u.2.2.2.2.2.2.2.2.2.2.2.2.2.2.2.2.2.2.1 u.2.2.2.2.2.2.2.2.2.2.2.2.2.2.2.2.2.2.2.1 u.2.2.2.2.2.2.2.2.2.2.2.2.2.2.2.2.2.2.2.2.1 u.2.2.2.2.2.2.2.2.2.2.2.2.2.2.2.2.2.2.2.2.2.1 u.2.2.2.2.2.2.2.2.2.2.2.2.2.2.2.2.2.2.2.2.2.2.1 u.2.2.2.2.2.2.2.2.2.2.2.2.2.2.2.2.2.2.2.2.2.2.2.1 u.2.2.2.2.2.2.2.2.2.2.2.2.2.2.2.2.2.2.2.2.2.2.2.2.1 u.2.2.2.2.2.2.2.2.2.2.2.2.2.2.2.2.2.2.2.2.2.2.2.2.2 = some (vR_ (gC_ va vb vc ve) n d, u') ∧ cI_ (gC_ va vb vc ve) n d u' := by
  unfold fX5_boundedRooms
  have hn := hP.1
  have hd3 := hI.2.2.1
  have h3 := p3_6561 hn
  have h2p : 0 < 2 ^ n := Nat.pow_pos (by decide)
  obtain ⟨u', e, hF⟩ := f_freshCut hP hT hu
  obtain ⟨h5, h6, fo, li, h7, h8, hC⟩ := hF
  have hU : cI_ (gC_ va vb vc ve) n d u' := Or.inr ⟨h5, h6, fo, li, h7, h8, hC⟩
  have hrd := rk_d hI (h := 2 ^ n - 1) (by omega)
  rw [bind_yes e, bind_yes (f_rankAll hn hC)]
  by_cases q : rk_ (hS_ (gC_ va vb vc ve) (2 ^ n - 1)) = d
  · rw [if_pos (nI_le (show d ≤ rk_ (hS_ (gC_ va vb vc ve) (2 ^ n - 1)) by omega) (by omega))]
    have hlp : lp_ (fun (st : (Int32 × Int32)) => fX5_boundedRooms_L28 (nI d) (nI n) u' st.1 st.2) fu_ ((0 : Int32), (0 : Int32)) = some (nI (d + 1), iI_ (fb_si (fun q => Si_ n (Fp_ (gC_ va vb vc ve) d (nI q))) (d + 1))) := by
      refine lp_seq (body := fun (st : (Int32 × Int32)) => fX5_boundedRooms_L28 (nI d) (nI n) u' st.1 st.2) (fun k => (nI k, iI_ (fb_si (fun q => Si_ n (Fp_ (gC_ va vb vc ve) d (nI q))) k))) (d + 1) (by omega) ?_ ?_
      · intro k hk
        show fX5_boundedRooms_L28 (nI d) (nI n) u' (nI k) _ = _
        unfold fX5_boundedRooms_L28
        rw [if_neg (nI_nlt (show k ≤ d by omega) (by omega)), bind_yes (f_factor0 hn hC (nI k)), nI_1]
        unfold vP_
        rw [iI_add]
        rfl
      · show fX5_boundedRooms_L28 (nI d) (nI n) u' (nI (d + 1)) _ = _
        unfold fX5_boundedRooms_L28
        rw [if_pos (nI_lt (show d < d + 1 by omega) (by omega))]
    rw [bind_yes hlp]
    dsimp only
    have hsum : fb_si (fun q => Si_ n (Fp_ (gC_ va vb vc ve) d (nI q))) (d + 1) = Si_ n (hC_ (gC_ va vb vc ve)) := by
      rcases Si_powers hI (d + 1) with w | w
      · rw [w]
        exact Si_cg (fun h _ => ⟨fun z => z.1, fun z => ⟨z, by omega⟩⟩)
      · omega
    have hz := zas_rooms hI q
    have hcnt := sm_iN_le (fun r => BdR_ (gC_ va vb vc ve) n d r) (3 ^ n)
    rw [hsum]
    unfold vR_
    generalize fb_sm (fun r => iN_ (BdR_ (gC_ va vb vc ve) n d r)) (3 ^ n) = c at *
    generalize Si_ n (hC_ (gC_ va vb vc ve)) = S at *
    have hsg : sg3_ (Bx_ d).length = 1 ∨ sg3_ (Bx_ d).length = -1 := by unfold sg3_; split <;> simp
    have habs : (if (0 : Int32) ≤ iI_ S then iI_ S else 0 - iI_ S) = nI c := by
      have h0 : sm_ 0 := by unfold sm_; omega
      have hS : sm_ S := by
        unfold sm_
        rcases hsg with w | w <;> rw [w] at hz <;> omega
      have e1 : ((0 : Int32) ≤ iI_ S) ↔ 0 ≤ S := iI_le h0 hS
      rcases hsg with w | w
      · rw [w, Int.one_mul] at hz
        rw [if_pos (e1.mpr (by omega)), ← hz, iI_nat]
      · rw [w] at hz
        by_cases z : 0 ≤ S
        · have : S = 0 := by omega
          rw [if_pos (e1.mpr z), this]
          have : c = 0 := by omega
          rw [this]; rfl
        · rw [if_neg (fun y => z (e1.mp y)), show (0 : Int32) = iI_ 0 from rfl, iI_sub, ← iI_nat]
          congr 1
          omega
    rw [habs]
    exact ⟨u', rfl, hU⟩
  · rw [if_neg (nI_ge (show rk_ (hS_ (gC_ va vb vc ve) (2 ^ n - 1)) < d by omega) (by omega))]
    unfold vR_
    have : fb_sm (fun r => iN_ (BdR_ (gC_ va vb vc ve) n d r)) (3 ^ n) = 0 := by
      rw [fb_sm_cong (g := fun _ => 0) (fun r _ => iN_0 (fun z => q z.2.1)), fb_sm_const]; simp
    rw [this]
    exact ⟨u', rfl, hU⟩
end ZD
end
section
/-! told, row, wall, take -/
noncomputable def vT_ (G : Nat → Wl_) (n : Nat) (p q : Int32) : Int32 :=
  ci2_ (∃ k, k < n ∧ p = nI k) (if q = 0 then iI_ (G p.toNatClampNeg).1 else if q = 1 then iI_ (G p.toNatClampNeg).2.1 else if q = 2 then iI_ (G p.toNatClampNeg).2.2.1 else if q = 3 then iI_ (G p.toNatClampNeg).2.2.2 else -1) (-1)
section TO
variable {va vb vc ve wl : Nat → Int32} {n d : Nat}
theorem c_told (hn : n ≤ 8) (p q : Int32) : fX5_told (nI n) va vb vc ve p q = some (vT_ (gC_ va vb vc ve) n p q) := by
  unfold fX5_told vT_
  obtain ⟨x, e, hy⟩ := f_holds (p := p) hn
  rw [bind_yes e]
  rcases hy with ⟨rfl, hk⟩ | ⟨rfl, hk⟩
  · rw [if_neg (by decide), ci2_t hk]
    obtain ⟨k, hk, rfl⟩ := hk
    have hR : in_R (nI k) 11 := in_R_nI (by omega) (by decide)
    rw [ck_yes hR, ck_yes hR, ck_yes hR, ck_yes hR, nI_clamp (by omega), ← gC_a, ← gC_b, ← gC_c, ← gC_e]
    by_cases h0 : q = 0
    · rw [if_pos h0, if_pos h0]
    rw [if_neg h0, if_neg h0]
    by_cases h1 : q = 1
    · rw [if_pos h1, if_pos h1]
    rw [if_neg h1, if_neg h1]
    by_cases h2 : q = 2
    · rw [if_pos h2, if_pos h2]
    rw [if_neg h2, if_neg h2]
    by_cases h3 : q = 3
    · rw [if_pos h3, if_pos h3]
    rw [if_neg h3, if_neg h3]
  · rw [if_pos rfl, ci2_f hk]
theorem gM_0 (wl : Nat → Int32) (k : Nat) : wl (4 * k) = iI_ (gM_ wl k).1 := (iI_of _).symm
theorem gM_1 (wl : Nat → Int32) (k : Nat) : wl (4 * k + 1) = iI_ (gM_ wl k).2.1 := (iI_of _).symm
theorem gM_2 (wl : Nat → Int32) (k : Nat) : wl (4 * k + 2) = iI_ (gM_ wl k).2.2.1 := (iI_of _).symm
theorem gM_3 (wl : Nat → Int32) (k : Nat) : wl (4 * k + 3) = iI_ (gM_ wl k).2.2.2 := (iI_of _).symm
theorem m_told (hn : n ≤ 8) (p q : Int32) : fX6_told (nI n) wl p q = some (vT_ (gM_ wl) n p q) := by
  unfold fX6_told vT_
  obtain ⟨x, e, hy⟩ := m_in hn p
  rw [bind_yes e]
  rcases hy with ⟨rfl, hk⟩ | ⟨rfl, hk⟩
  · rw [if_neg (by decide), ci2_t hk]
    obtain ⟨k, hk, rfl⟩ := hk
    rw [nI_clamp (by omega)]
    unfold fX6_in
    by_cases h0 : q < 0
    · rw [if_pos h0, Option.bind_some, if_pos rfl]
      have a : ∀ j : Nat, j ≤ 3 → q ≠ nI j := fun j hj w => nI_pos (n := j) (by omega) (by rw [← w]; exact h0)
      rw [if_neg (show ¬ q = (0 : Int32) from a 0 (by decide)), if_neg (show ¬ q = (1 : Int32) from a 1 (by decide)), if_neg (show ¬ q = (2 : Int32) from a 2 (by decide)), if_neg (show ¬ q = (3 : Int32) from a 3 (by decide))]
    · rw [if_neg h0]
      obtain ⟨j, hj, rfl⟩ := nI_of h0
      by_cases h3 : 3 < j
      · rw [if_pos (show (3 : Int32) < nI j from nI_lt (a := 3) h3 hj), Option.bind_some, if_pos rfl]
        have a : ∀ i : Nat, i ≤ 3 → nI j ≠ nI i := fun i hi w => by have := (nI_eq hj (by omega)).mp w; omega
        rw [if_neg (show ¬ nI j = (0 : Int32) from a 0 (by decide)), if_neg (show ¬ nI j = (1 : Int32) from a 1 (by decide)), if_neg (show ¬ nI j = (2 : Int32) from a 2 (by decide)), if_neg (show ¬ nI j = (3 : Int32) from a 3 (by decide))]
      · rw [if_neg (show ¬ (3 : Int32) < nI j from nI_nlt (a := 3) (b := j) (by omega) (by decide)), Option.bind_some, if_neg (show ¬ (1 : Int32) = 0 by decide), bind_yes (f_at wl (show 4 * k + j < 32 by omega))]
        have b : ∀ i : Nat, i ≤ 3 → j ≠ i → nI j ≠ nI i := fun i hi hne w => hne ((nI_eq hj (by omega)).mp w)
        rcases (show j = 0 ∨ j = 1 ∨ j = 2 ∨ j = 3 by omega) with rfl | rfl | rfl | rfl
        · rw [if_pos (show nI 0 = 0 from rfl), ← gM_0]; rfl
        · rw [if_neg (show ¬ nI 1 = (0 : Int32) by decide), if_pos (show nI 1 = 1 from rfl), ← gM_1]
        · rw [if_neg (show ¬ nI 2 = (0 : Int32) by decide), if_neg (show ¬ nI 2 = (1 : Int32) by decide), if_pos (show nI 2 = 2 from rfl), ← gM_2]
        · rw [if_neg (show ¬ nI 3 = (0 : Int32) by decide), if_neg (show ¬ nI 3 = (1 : Int32) by decide), if_neg (show ¬ nI 3 = (2 : Int32) by decide), if_pos (show nI 3 = 3 from rfl), ← gM_3]
  · rw [if_pos rfl, ci2_f hk]
end TO
/-! the row of a place of whole numbers -/
def fr2_ (x : Int32) : Prop := -1000000 ≤ x.toInt ∧ x.toInt ≤ 1000000
noncomputable def vX_ (G : Nat → Wl_) (n : Nat) (x y z : Int32) : Int32 := ci2_ (fr2_ x ∧ fr2_ y ∧ fr2_ z) (nI (rn_ (fun k => sz_ (ov_ (G k) x.toInt y.toInt z.toInt 1)) n)) (-1)
theorem f_tooFar (x : Int32) : ∃ b, fX5_isTooFar x = some b ∧ yn_ b (¬ fr2_ x) := by
  unfold fX5_isTooFar fr2_
  have e1 : ((1000000 : Int32) < x) ↔ 1000000 < x.toInt := Int32.lt_iff_toInt_lt
  have e2 : ((-1000000 : Int32) ≤ x) ↔ -1000000 ≤ x.toInt := Int32.le_iff_toInt_le
  by_cases h1 : 1000000 < x.toInt
  · rw [if_pos (e1.mpr h1)]; exact ⟨_, rfl, Or.inl ⟨rfl, by omega⟩⟩
  · rw [if_neg (fun q => h1 (e1.mp q))]
    by_cases h2 : -1000000 ≤ x.toInt
    · rw [if_pos (e2.mpr h2)]; exact ⟨_, rfl, Or.inr ⟨rfl, by omega⟩⟩
    · rw [if_neg (fun q => h2 (e2.mp q))]; exact ⟨_, rfl, Or.inl ⟨rfl, by omega⟩⟩
def yU_ (d : Nat) (y : Int32) : Int32 := if d < 2 then 0 else y
def zU_ (d : Nat) (z : Int32) : Int32 := if d < 3 then 0 else z
section RW
variable {va vb vc ve vth wl : Nat → Int32} {n d : Nat}
theorem ov_sm {w : Wl_} (hb : bw_ w) {x y z : Int32} (hx : fr2_ x) (hy : fr2_ y) (hz : fr2_ z) : sm_ (ov_ w x.toInt y.toInt z.toInt 1) := by
  obtain ⟨b1, b2, b3, b4⟩ := hb
  have a : ∀ v : Int32, fr2_ v → ab_ v.toInt 1000000 := fun v h => by unfold fr2_ at h; unfold ab_; omega
  exact ab_sm (ab_sub (ab_add (ab_add (ab_mul b1 (a x hx)) (ab_mul b2 (a y hy))) (ab_mul b3 (a z hz))) (ab_mul b4 (show ab_ 1 1 from Nat.le_refl _))) (by decide)
theorem c_row (hn : n ≤ 8) (hd : d ≤ 3) (hb : ∀ k, k < n → bw_ (gC_ va vb vc ve k)) (hT : TH_ vth) (x y z : Int32) : fX5_row (nI d) (nI n) va vb vc ve vth x y z = some (vX_ (gC_ va vb vc ve) n x (yU_ d y) (zU_ d z)) := by
  unfold fX5_row vX_
  have e1 : (if nI d < (2 : Int32) then some (0 : Int32) else some y) = some (yU_ d y) := by
    unfold yU_
    by_cases q : d < 2
    · rw [if_pos (show nI d < (2 : Int32) from nI_lt (b := 2) q (by decide)), if_pos q]
    · rw [if_neg (show ¬ nI d < (2 : Int32) from nI_nlt (b := 2) (by omega) (by omega)), if_neg q]
  have e2 : (if nI d < (3 : Int32) then some (0 : Int32) else some z) = some (zU_ d z) := by
    unfold zU_
    by_cases q : d < 3
    · rw [if_pos (show nI d < (3 : Int32) from nI_lt (b := 3) q (by decide)), if_pos q]
    · rw [if_neg (show ¬ nI d < (3 : Int32) from nI_nlt (b := 3) (by omega) (by omega)), if_neg q]
  rw [bind_yes e1, bind_yes e2]
  generalize yU_ d y = y'
  generalize zU_ d z = z'
  obtain ⟨b1, f1, h1⟩ := f_tooFar x
  obtain ⟨b2, f2, h2⟩ := f_tooFar y'
  obtain ⟨b3, f3, h3⟩ := f_tooFar z'
  rw [bind_yes f1]
  rcases h1 with ⟨rfl, h1⟩ | ⟨rfl, h1⟩
  · rw [if_neg (by decide), ci2_f (fun q => h1 q.1)]
  rw [if_pos rfl, bind_yes f2]
  rcases h2 with ⟨rfl, h2⟩ | ⟨rfl, h2⟩
  · rw [if_neg (by decide), ci2_f (fun q => h2 q.2.1)]
  rw [if_pos rfl, bind_yes f3]
  rcases h3 with ⟨rfl, h3⟩ | ⟨rfl, h3⟩
  · rw [if_neg (by decide), ci2_f (fun q => h3 q.2.2)]
  have h1' := Classical.not_not.mp h1
  have h2' := Classical.not_not.mp h2
  have h3' := Classical.not_not.mp h3
  rw [if_pos rfl, ci2_t ⟨h1', h2', h3'⟩]
  have hs := f_signs (va := va) (vb := vb) (vc := vc) (ve := ve) hn (x := x.toInt) (y := y'.toInt) (z := z'.toInt) (t := 1) (fun k hk => ov_sm (hb k hk) h1' h2' h3')
  rw [iI_of, iI_of, iI_of] at hs
  have hs' : fX3_signs (nI n) va vb vc ve x y' z' (1 : Int32) = _ := hs
  rw [bind_yes hs', bind_yes (f_rowOf hT hn (fun k _ => sz_le _))]
theorem m_rowL {x y z : Int32} (hn : n ≤ 8) (hb : ∀ k, k < n → bw_ (gM_ wl k)) (hx : fr2_ x) (hy : fr2_ y) (hz : fr2_ z) (t : Nat → Int32) (t0 : t 0 = x) (t1 : t 1 = y) (t2 : t 2 = z) :
    lp_ (fun (st : (Int32 × Int32)) => fX6_row_L79 (nI n) wl t st.1 st.2) fu_ ((0 : Int32), (0 : Int32)) = some (nI n, nI (rn_ (fun k => sz_ (ov_ (gM_ wl k) x.toInt y.toInt z.toInt 1)) n)) := by
  refine lp_seq (body := fun (st : (Int32 × Int32)) => fX6_row_L79 (nI n) wl t st.1 st.2) (fun k => (nI k, nI (rn_ (fun k => sz_ (ov_ (gM_ wl k) x.toInt y.toInt z.toInt 1)) k))) n (by omega) ?_ ?_
  · intro k hk
    show fX6_row_L79 (nI n) wl t (nI k) _ = _
    unfold fX6_row_L79
    have c0 : fX6_at wl (nI k) (0 : Int32) = some (wl (4 * k)) := f_at wl (c := 0) (by omega)
    have c1 : fX6_at wl (nI k) (1 : Int32) = some (wl (4 * k + 1)) := f_at wl (c := 1) (by omega)
    have c2 : fX6_at wl (nI k) (2 : Int32) = some (wl (4 * k + 2)) := f_at wl (c := 2) (by omega)
    have c3 : fX6_at wl (nI k) (3 : Int32) = some (wl (4 * k + 3)) := f_at wl (c := 3) (by omega)
    rw [if_neg (nI_ge hk (by omega)), bind_yes c0, ck_yes (show in_R (0 : Int32) 3 from in_R_nI (k := 0) (by decide) (by decide)), bind_yes c1, ck_yes (show in_R (1 : Int32) 3 from in_R_nI (k := 1) (by decide) (by decide)), bind_yes c2, ck_yes (show in_R (2 : Int32) 3 from in_R_nI (k := 2) (by decide) (by decide))]
    rw [show (0 : Int32).toNatClampNeg = 0 from rfl, show (1 : Int32).toNatClampNeg = 1 from rfl, show (2 : Int32).toNatClampNeg = 2 from rfl, t0, t1, t2]
    dsimp only [nm_]
    rw [bind_yes (f_power (by omega)), bind_yes c3, bind_yes c3]
    have hsum : wl (4 * k) * x + wl (4 * k + 1) * y + wl (4 * k + 2) * z = iI_ ((gM_ wl k).1 * x.toInt + (gM_ wl k).2.1 * y.toInt + (gM_ wl k).2.2.1 * z.toInt) := by
      rw [gM_0 wl k, gM_1 wl k, gM_2 wl k]
      conv => lhs; rw [← iI_of x, ← iI_of y, ← iI_of z]
      rw [iI_mul, iI_mul, iI_mul, iI_add, iI_add]
    rw [hsum, gM_3 wl k]
    obtain ⟨b1, b2, b3, b4⟩ := hb k hk
    have a : ∀ v : Int32, fr2_ v → ab_ v.toInt 1000000 := fun v h => by unfold fr2_ at h; unfold ab_; omega
    have hs1 : sm_ ((gM_ wl k).1 * x.toInt + (gM_ wl k).2.1 * y.toInt + (gM_ wl k).2.2.1 * z.toInt) := ab_sm (ab_add (ab_add (ab_mul b1 (a x hx)) (ab_mul b2 (a y hy))) (ab_mul b3 (a z hz))) (by decide)
    have hs2 : sm_ (gM_ wl k).2.2.2 := ab_sm b4 (by decide)
    have e1 := iI_le hs2 hs1
    have e2 := iI_eq hs1 hs2
    have hr : rn_ (fun k => sz_ (ov_ (gM_ wl k) x.toInt y.toInt z.toInt 1)) (k + 1) = rn_ (fun k => sz_ (ov_ (gM_ wl k) x.toInt y.toInt z.toInt 1)) k + sz_ (ov_ (gM_ wl k) x.toInt y.toInt z.toInt 1) * 3 ^ k := rfl
    rw [hr]
    unfold sz_ ov_
    generalize (gM_ wl k).1 * x.toInt + (gM_ wl k).2.1 * y.toInt + (gM_ wl k).2.2.1 * z.toInt = v at *
    generalize (gM_ wl k).2.2.2 = e at *
    by_cases q1 : e ≤ v
    · rw [if_pos (e1.mpr q1)]
      by_cases q2 : v = e
      · rw [if_pos (e2.mpr q2), if_pos (by omega), show (1 : Int32) = nI 1 from rfl, pk_mul, nI_add, nI_add, Nat.mul_comm]
      · rw [if_neg (fun q => q2 (e2.mp q)), if_neg (by omega), if_neg (by omega), show (2 : Int32) = nI 2 from rfl, pk_mul, nI_add, nI_1, Nat.mul_comm]
    · rw [if_neg (fun q => q1 (e1.mp q)), if_neg (by omega), if_pos (by omega), show (0 : Int32) = nI 0 from rfl, pk_mul, nI_add, nI_1, Nat.mul_comm]
  · show fX6_row_L79 (nI n) wl t (nI n) _ = _
    unfold fX6_row_L79
    rw [if_pos (nI_le (Nat.le_refl n) (by omega))]
theorem m_inF (x : Int32) : ∃ b, fX6_in x (-1000000) 1000000 = some b ∧ yn_ b (fr2_ x) := by
  unfold fX6_in fr2_
  have e1 : ((1000000 : Int32) < x) ↔ 1000000 < x.toInt := Int32.lt_iff_toInt_lt
  have e2 : (x < (-1000000 : Int32)) ↔ x.toInt < -1000000 := Int32.lt_iff_toInt_lt
  by_cases h2 : x.toInt < -1000000
  · rw [if_pos (e2.mpr h2)]; exact ⟨_, rfl, Or.inr ⟨rfl, by omega⟩⟩
  · rw [if_neg (fun q => h2 (e2.mp q))]
    by_cases h1 : 1000000 < x.toInt
    · rw [if_pos (e1.mpr h1)]; exact ⟨_, rfl, Or.inr ⟨rfl, by omega⟩⟩
    · rw [if_neg (fun q => h1 (e1.mp q))]; exact ⟨_, rfl, Or.inl ⟨rfl, by omega⟩⟩
theorem m_row (hn : n ≤ 8) (hd : d ≤ 3) (hb : ∀ k, k < n → bw_ (gM_ wl k)) (x y z : Int32) : fX6_row (nI d) (nI n) wl x y z = some (vX_ (gM_ wl) n x (yU_ d y) (zU_ d z)) := by
  unfold fX6_row
  have e1 : (if nI d ≤ (1 : Int32) then some (0 : Int32) else some y) = some (yU_ d y) := by
    unfold yU_
    by_cases q : d < 2
    · rw [if_pos (show nI d ≤ (1 : Int32) from nI_le (b := 1) (by omega) (by decide)), if_pos q]
    · rw [if_neg (show ¬ nI d ≤ (1 : Int32) from nI_ge (a := 1) (by omega) (by omega)), if_neg q]
  have e2 : (if nI d ≤ (2 : Int32) then some (0 : Int32) else some z) = some (zU_ d z) := by
    unfold zU_
    by_cases q : d < 3
    · rw [if_pos (show nI d ≤ (2 : Int32) from nI_le (b := 2) (by omega) (by decide)), if_pos q]
    · rw [if_neg (show ¬ nI d ≤ (2 : Int32) from nI_ge (a := 2) (by omega) (by omega)), if_neg q]
  rw [ck_yes (show in_R (0 : Int32) 3 from in_R_nI (k := 0) (by decide) (by decide)), bind_yes e1, ck_yes (show in_R (1 : Int32) 3 from in_R_nI (k := 1) (by decide) (by decide)), bind_yes e2, ck_yes (show in_R (2 : Int32) 3 from in_R_nI (k := 2) (by decide) (by decide))]
  generalize yU_ d y = y'
  generalize zU_ d z = z'
  rw [show (0 : Int32).toNatClampNeg = 0 from rfl, show (1 : Int32).toNatClampNeg = 1 from rfl, show (2 : Int32).toNatClampNeg = 2 from rfl]
  dsimp only [nm_]
  generalize ht : upd (upd (upd (fun (_ : Nat) => (0 : Int32)) 0 x) 1 y') 2 z' = t
  have t0 : t 0 = x := by rw [← ht, pk_un (by decide), pk_un (by decide), pk_us]
  have t1 : t 1 = y' := by rw [← ht, pk_un (by decide), pk_us]
  have t2 : t 2 = z' := by rw [← ht, pk_us]
  have hlp := lp_for (body := fun (st : Int32) => fX6_row_L44 t st)
    (fun k st => st = nI k ∧ ∀ j, j < k → fr2_ (t j))
    (fun u => (∃ j, u = .inl j) ∧ (∀ j, j < 3 → fr2_ (t j)) ∨ u = .inr (-1) ∧ ∃ j, j < 3 ∧ ¬ fr2_ (t j)) 3 (by decide) (s := (0 : Int32)) ⟨rfl, fun j hj => absurd hj (Nat.not_lt_zero j)⟩ ?_ ?_
  · obtain ⟨u, f1, f2⟩ := hlp
    rw [bind_yes f1]
    unfold vX_
    rcases f2 with ⟨⟨j, rfl⟩, f2⟩ | ⟨rfl, j, hj, f2⟩
    · have g0 := f2 0 (by decide)
      have g1 := f2 1 (by decide)
      have g2 := f2 2 (by decide)
      rw [t0] at g0
      rw [t1] at g1
      rw [t2] at g2
      rw [ci2_t ⟨g0, g1, g2⟩]
      show (lp_ _ fu_ _).bind _ = _
      rw [bind_yes (m_rowL hn hb g0 g1 g2 t t0 t1 t2)]
    · rw [ci2_f (fun q => f2 (by
        rcases (show j = 0 ∨ j = 1 ∨ j = 2 by omega) with rfl | rfl | rfl
        · rw [t0]; exact q.1
        · rw [t1]; exact q.2.1
        · rw [t2]; exact q.2.2))]
      rfl
  · rintro k st hk ⟨rfl, h2⟩
    unfold fX6_row_L44
    rw [if_neg (show ¬ (3 : Int32) ≤ nI k from nI_ge (a := k) (b := 3) hk (by decide)), ck_yes (in_R_nI hk (by decide)), nI_clamp (by omega)]
    obtain ⟨b, f, hy⟩ := m_inF (t k)
    rw [bind_yes f]
    rcases hy with ⟨rfl, w⟩ | ⟨rfl, w⟩
    · left
      rw [if_neg (by decide)]
      refine ⟨_, rfl, nI_1 k, fun j hj => ?_⟩
      rcases (show j < k ∨ j = k by omega) with c | rfl
      · exact h2 j c
      · exact w
    · right
      rw [if_pos rfl]
      exact ⟨_, rfl, Or.inr ⟨rfl, k, hk, w⟩⟩
  · rintro st ⟨rfl, h2⟩
    unfold fX6_row_L44
    rw [if_pos (show (3 : Int32) ≤ nI 3 by decide)]
    exact ⟨_, rfl, Or.inl ⟨⟨_, rfl⟩, h2⟩⟩
end RW
end
