/-! places, their rows, how many faces -/
def wl_ (G : Nat → Wl_) : Nat → List Wl_
  | 0 => []
  | n + 1 => G n :: wl_ G n
theorem wl_mem {G : Nat → Wl_} {x : Wl_} : ∀ {n : Nat}, x ∈ wl_ G n ↔ ∃ k, k < n ∧ x = G k := by
  intro n
  induction n with
  | zero => simp [wl_]
  | succ n ih =>
    simp only [wl_, List.mem_cons, ih]
    constructor
    · rintro (rfl | ⟨k, hk, rfl⟩)
      · exact ⟨n, by omega, rfl⟩
      · exact ⟨k, by omega, rfl⟩
    · rintro ⟨k, hk, rfl⟩
      rcases (show k = n ∨ k < n by omega) with rfl | q
      · exact Or.inl rfl
      · exact Or.inr ⟨k, q, rfl⟩
theorem wl_len (G : Nat → Wl_) : ∀ n, (wl_ G n).length = n := by
  intro n
  induction n with
  | zero => rfl
  | succ n ih => simp [wl_, ih]
theorem wl_get {G : Nat → Wl_} {n k : Nat} (h : k < n) : G k ∈ wl_ G n := wl_mem.mpr ⟨k, h, rfl⟩
/-- the signs of a place -/
def sn_ (G : Nat → Wl_) (p : V3_) : Nat → Nat := fun k => sg_ (ev_ (G k) p)
theorem sg_le (r : Rat) : sg_ r ≤ 2 := by unfold sg_; split <;> (try split) <;> omega
theorem sn_le (G : Nat → Wl_) (p : V3_) (k : Nat) : sn_ G p k ≤ 2 := sg_le _
/-- the row of a place -/
def rp_ (G : Nat → Wl_) (n : Nat) (p : V3_) : Nat := rn_ (sn_ G p) n
theorem rp_lt (G : Nat → Wl_) (n : Nat) (p : V3_) : rp_ G n p < 3 ^ n := rn_lt (fun k _ => sn_le G p k)
theorem rp_dg (G : Nat → Wl_) {n k : Nat} (p : V3_) (h : k < n) : dg_ (rp_ G n p) k = sg_ (ev_ (G k) p) := dg_rn (fun k _ => sn_le G p k) k h
theorem rp_6561 (G : Nat → Wl_) {n : Nat} (h : n ≤ 8) (p : V3_) : rp_ G n p < 6561 := Nat.lt_of_lt_of_le (rp_lt G n p) (p3_6561 h)
theorem rp_eq {G : Nat → Wl_} {n : Nat} {p q : V3_} : rp_ G n p = rp_ G n q ↔ RE_ (wl_ G n) p q := by
  constructor
  · intro h x hx
    obtain ⟨k, hk, rfl⟩ := wl_mem.mp hx
    rw [← rp_dg G p hk, ← rp_dg G q hk, h]
  · intro h
    exact rn_cg (fun k hk => h _ (wl_get hk))
/-- a row is a face's -/
def Fa_ (G : Nat → Wl_) (n r : Nat) : Prop := ∃ p, r = rp_ G n p
theorem Fa_lt {G : Nat → Wl_} {n r : Nat} (h : Fa_ G n r) : r < 3 ^ n := by obtain ⟨p, rfl⟩ := h; exact rp_lt G n p
theorem Fa_iff {G : Nat → Wl_} {n r : Nat} : Fa_ G n r ↔ r < 3 ^ n ∧ ∃ p, ∀ k, k < n → sg_ (ev_ (G k) p) = dg_ r k := by
  constructor
  · rintro ⟨p, rfl⟩; exact ⟨rp_lt G n p, p, fun k hk => (rp_dg G p hk).symm⟩
  · rintro ⟨h, p, hp⟩
    exact ⟨p, dg_ext h (rp_lt G n p) (fun k hk => by rw [rp_dg G p hk, hp k hk])⟩
/-- three stretches of a sum -/
theorem sm_3 (f : Nat → Nat) (m : Nat) : fb_sm f (m * 3) = fb_sm f m + fb_sm (fun r => f (r + 1 * m)) m + fb_sm (fun r => f (r + 2 * m)) m := by
  rw [show m * 3 = m + (m + m) by omega, fb_sm_split, fb_sm_split]
  have e1 : fb_sm (fun k => f (m + k)) m = fb_sm (fun r => f (r + 1 * m)) m := fb_sm_cong (fun k _ => by rw [Nat.one_mul, Nat.add_comm])
  have e2 : fb_sm (fun k => f (m + (m + k))) m = fb_sm (fun r => f (r + 2 * m)) m := fb_sm_cong (fun k _ => by congr 1; omega)
  rw [e1, e2]
  omega
theorem fc_sum (G : Nat → Wl_) : ∀ (m : Nat) (L : List (Wl_ × Nat)), fb_sm (fun r => iN_ (∃ p, (∀ k, k < m → sg_ (ev_ (G k) p) = dg_ r k) ∧ S3_ L p)) (3 ^ m) = fc_ [] (wl_ G m) L := by
  intro m
  induction m with
  | zero =>
    intro L
    show 0 + iN_ _ = iN_ (F3_ [] L)
    rw [Nat.zero_add]
    refine iN_cg ⟨fun ⟨p, _, h⟩ => ⟨p, fun w hw => (by cases hw), h⟩, fun ⟨p, _, h⟩ => ⟨p, fun k hk => by omega, h⟩⟩
  | succ m ih =>
    intro L
    show _ = fc_ [] (G m :: wl_ G m) L
    simp only [fc_]
    rw [← ih, ← ih, ← ih, Nat.pow_succ, sm_3]
    have step : ∀ (t : Nat), t ≤ 2 → ∀ r, r < 3 ^ m → iN_ (∃ p, (∀ k, k < m + 1 → sg_ (ev_ (G k) p) = dg_ (r + t * 3 ^ m) k) ∧ S3_ L p) = iN_ (∃ p, (∀ k, k < m → sg_ (ev_ (G k) p) = dg_ r k) ∧ S3_ ((G m, t) :: L) p) := by
      intro t ht r hr
      refine iN_cg ⟨?_, ?_⟩
      · rintro ⟨p, h1, h2⟩
        refine ⟨p, fun k hk => ?_, S3_cons.mpr ⟨?_, h2⟩⟩
        · rw [h1 k (by omega), dg_add _ _ hk]
        · have := h1 m (by omega)
          rw [dg_top hr ht] at this
          exact (sg_s3 ht).mp this
      · rintro ⟨p, h1, h2⟩
        obtain ⟨h3, h4⟩ := S3_cons.mp h2
        refine ⟨p, fun k hk => ?_, h4⟩
        rcases (show k < m ∨ k = m by omega) with q | rfl
        · rw [h1 k q, dg_add _ _ q]
        · rw [dg_top hr ht]; exact (sg_s3 ht).mpr h3
    have e0 : fb_sm (fun r => iN_ (∃ p, (∀ k, k < m + 1 → sg_ (ev_ (G k) p) = dg_ r k) ∧ S3_ L p)) (3 ^ m) = fb_sm (fun r => iN_ (∃ p, (∀ k, k < m → sg_ (ev_ (G k) p) = dg_ r k) ∧ S3_ ((G m, 0) :: L) p)) (3 ^ m) :=
      fb_sm_cong (fun r hr => by have := step 0 (by omega) r hr; rw [Nat.zero_mul, Nat.add_zero] at this; exact this)
    rw [e0]
    congr 1
    · congr 1
      exact fb_sm_cong (fun r hr => step 1 (by omega) r hr)
    · exact fb_sm_cong (fun r hr => step 2 (by omega) r hr)
theorem Fa_577 (G : Nat → Wl_) {n : Nat} (h : n ≤ 8) : fb_sm (fun r => iN_ (Fa_ G n r)) (3 ^ n) ≤ 577 := by
  have h1 := fc_577 (wl_ G n) (by rw [wl_len]; exact h)
  rw [← fc_sum] at h1
  refine Nat.le_trans (Nat.le_of_eq ?_) h1
  refine fb_sm_cong (fun r hr => iN_cg ?_)
  rw [Fa_iff]
  exact ⟨fun ⟨_, p, hp⟩ => ⟨p, hp, fun x hx => by cases hx⟩, fun ⟨p, hp, _⟩ => ⟨hr, p, hp⟩⟩
/-- marks on faces alone are at most 577; fewer while one face has none -/
theorem ct_faces {G : Nat → Wl_} {n : Nat} (h : n ≤ 8) {m : Nat → Bool} (hm : ∀ r, r < 6561 → m r = true → Fa_ G n r) : fb_ct m 6561 ≤ 577 := by
  have e1 : fb_ct m 6561 = fb_ct m (3 ^ n) := by
    have h3 := p3_6561 h
    rw [show 6561 = 3 ^ n + (6561 - 3 ^ n) by omega, fb_ct_split]
    have : fb_ct (fun k => m (3 ^ n + k)) (6561 - 3 ^ n) = 0 := fb_ct_zero.mpr (fun k hk => by
      cases e : m (3 ^ n + k) with
      | false => rfl
      | true => have := Fa_lt (hm _ (by omega) e); omega)
    omega
  have e2 : ∀ N, N ≤ 6561 → fb_ct m N ≤ fb_sm (fun r => iN_ (Fa_ G n r)) N := by
    intro N
    induction N with
    | zero => intro _; exact Nat.le_refl _
    | succ N ih =>
      intro hN
      have := ih (by omega)
      rw [fb_ct_succ, fb_sm_succ]
      cases e : m N with
      | false => simp; omega
      | true => simp only [if_true]; rw [iN_1 (hm N (by omega) e)]; omega
  rw [e1]
  exact Nat.le_trans (e2 _ (p3_6561 h)) (Fa_577 G h)
theorem ct_less {G : Nat → Wl_} {n : Nat} (h : n ≤ 8) {m : Nat → Bool} (hm : ∀ r, r < 6561 → m r = true → Fa_ G n r) {r0 : Nat} (h0 : m r0 = false) (hF : Fa_ G n r0) : fb_ct m 6561 < 577 := by
  have hr0 : r0 < 6561 := Nat.lt_of_lt_of_le (Fa_lt hF) (p3_6561 h)
  have := ct_faces h (m := fun k => if k = r0 then true else m k) (fun r hr hrt => by
    by_cases q : r = r0
    · rw [q]; exact hF
    · simp only [if_neg q] at hrt; exact hm r hr hrt)
  have e := fb_ct_upd m true hr0
  simp only [h0, Bool.false_eq_true, if_false, if_true] at e
  omega
