/-! how many faces there are at most -/
def s3_ (s : Nat) (r : Rat) : Prop := if s = 0 then r < 0 else if s = 1 then r = 0 else 0 < r
def S3_ (L : List (Wl_ × Nat)) (p : V3_) : Prop := ∀ x ∈ L, s3_ x.2 (ev_ x.1 p)
def F3_ (B : List Wl_) (L : List (Wl_ × Nat)) : Prop := ∃ p, oB_ B p ∧ S3_ L p
theorem S3_cons {x : Wl_ × Nat} {L : List (Wl_ × Nat)} {p : V3_} : S3_ (x :: L) p ↔ s3_ x.2 (ev_ x.1 p) ∧ S3_ L p := List.forall_mem_cons
theorem s3_0 {r : Rat} : s3_ 0 r ↔ r < 0 := by simp [s3_]
theorem s3_1 {r : Rat} : s3_ 1 r ↔ r = 0 := by simp [s3_]
theorem s3_2 {r : Rat} : s3_ 2 r ↔ 0 < r := by simp [s3_]
noncomputable def iN_ (P : Prop) : Nat := @ite Nat P (Classical.propDecidable P) 1 0
theorem iN_1 {P : Prop} (h : P) : iN_ P = 1 := by unfold iN_; exact if_pos h
theorem iN_0 {P : Prop} (h : ¬ P) : iN_ P = 0 := by unfold iN_; exact if_neg h
theorem iN_cg {P Q : Prop} (h : P ↔ Q) : iN_ P = iN_ Q := by rw [propext h]
theorem iN_le (P : Prop) : iN_ P ≤ 1 := by
  by_cases h : P
  · rw [iN_1 h]; exact Nat.le_refl _
  · rw [iN_0 h]; omega
noncomputable def fc_ (B : List Wl_) : List Wl_ → List (Wl_ × Nat) → Nat
  | [], L => iN_ (F3_ B L)
  | w :: A, L => fc_ B A ((w, 0) :: L) + fc_ B A ((w, 1) :: L) + fc_ B A ((w, 2) :: L)
theorem F3_sub {B : List Wl_} {L : List (Wl_ × Nat)} {x : Wl_ × Nat} (h : F3_ B (x :: L)) : F3_ B L := by
  obtain ⟨p, h1, h2⟩ := h
  exact ⟨p, h1, (S3_cons.mp h2).2⟩
theorem F3_on {B : List Wl_} {L : List (Wl_ × Nat)} {w : Wl_} : F3_ B ((w, 1) :: L) ↔ F3_ (w :: B) L :=
  ⟨fun ⟨p, h1, h2⟩ => ⟨p, oB_cons.mpr ⟨s3_1.mp (S3_cons.mp h2).1, h1⟩, (S3_cons.mp h2).2⟩, fun ⟨p, h1, h2⟩ => ⟨p, (oB_cons.mp h1).2, S3_cons.mpr ⟨s3_1.mpr (oB_cons.mp h1).1, h2⟩⟩⟩
theorem s3_mix {s : Nat} {r r' t : Rat} (h : s3_ s r) (h' : s3_ s r') (h0 : 0 ≤ t) (h1 : t ≤ 1) : s3_ s (r + t * (r' - r)) := by
  unfold s3_ at *
  by_cases c0 : s = 0
  · rw [if_pos c0] at *
    exact s1_f.mp (s1_mix (b := false) (s1_f.mpr h) (s1_f.mpr h') h0 h1)
  · rw [if_neg c0] at *
    by_cases c1 : s = 1
    · rw [if_pos c1] at *; rw [h, h']; grind
    · rw [if_neg c1] at *
      exact s1_t.mp (s1_mix (b := true) (s1_t.mpr h) (s1_t.mpr h') h0 h1)
theorem F3_meet {B : List Wl_} {L : List (Wl_ × Nat)} {w : Wl_} (h : F3_ B ((w, 2) :: L)) (h' : F3_ B ((w, 0) :: L)) : F3_ (w :: B) L := by
  obtain ⟨p, h1, h2⟩ := h
  obtain ⟨q, h3, h4⟩ := h'
  rw [S3_cons] at h2 h4
  have a1 : 0 < ev_ w p := s3_2.mp h2.1
  have a2 : ev_ w q < 0 := s3_0.mp h4.1
  obtain ⟨t, ht, he⟩ := pd_ (a := ev_ w p) (b := ev_ w p - ev_ w q) a1 (by grind)
  have t1 : t ≤ 1 := by
    rcases Rat.le_total (a := t) (b := 1) with h | h
    · exact h
    · have := Rat.mul_nonneg (show 0 ≤ t - 1 by grind) (show 0 ≤ ev_ w p - ev_ w q by grind)
      grind
  refine ⟨ad_ p t (sb_ q p), oB_cons.mpr ⟨?_, oB_mix h1 h3⟩, fun x hx => ?_⟩
  · rw [ev_ad, dr_sb]; grind
  · rw [ev_ad, dr_sb]
    exact s3_mix (h2.2 x hx) (h4.2 x hx) (by grind) t1
theorem fc_1 (B : List Wl_) (L : List (Wl_ × Nat)) (w : Wl_) : iN_ (F3_ B ((w, 0) :: L)) + iN_ (F3_ B ((w, 1) :: L)) + iN_ (F3_ B ((w, 2) :: L)) ≤ iN_ (F3_ B L) + 2 * iN_ (F3_ (w :: B) L) := by
  have l0 := iN_le (F3_ B ((w, 0) :: L))
  have l1 := iN_le (F3_ B ((w, 1) :: L))
  have l2 := iN_le (F3_ B ((w, 2) :: L))
  by_cases h : F3_ (w :: B) L
  · rw [iN_1 h, iN_1 (F3_sub (F3_on.mpr h))]; omega
  · rw [iN_0 (P := F3_ B ((w, 1) :: L)) (fun q => h (F3_on.mp q))]
    by_cases h0 : F3_ B ((w, 0) :: L)
    · rw [iN_0 (P := F3_ B ((w, 2) :: L)) (fun q => h (F3_meet q h0)), iN_1 (F3_sub h0)]; omega
    · rw [iN_0 h0]
      by_cases h2 : F3_ B ((w, 2) :: L)
      · rw [iN_1 (F3_sub h2)]; omega
      · rw [iN_0 h2]; omega
theorem fc_c (B : List Wl_) (L : List (Wl_ × Nat)) (w : Wl_) (hc : ∀ u, pB_ B u → dr_ w u = 0) : iN_ (F3_ B ((w, 0) :: L)) + iN_ (F3_ B ((w, 1) :: L)) + iN_ (F3_ B ((w, 2) :: L)) ≤ iN_ (F3_ B L) := by
  have same : ∀ p q, oB_ B p → oB_ B q → ev_ w p = ev_ w q := by
    intro p q hp hq
    have := hc (sb_ p q) (fun x hx => by rw [dr_sb, hp x hx, hq x hx]; grind)
    rw [dr_sb] at this
    grind
  by_cases h0 : F3_ B ((w, 0) :: L)
  · obtain ⟨p, h1, h2⟩ := id h0
    have e0 : ev_ w p < 0 := s3_0.mp (S3_cons.mp h2).1
    rw [iN_1 h0, iN_1 (F3_sub h0), iN_0 (P := F3_ B ((w, 1) :: L)) (fun ⟨q, g1, g2⟩ => by
      have := s3_1.mp (S3_cons.mp g2).1
      have := same p q h1 g1
      grind), iN_0 (P := F3_ B ((w, 2) :: L)) (fun ⟨q, g1, g2⟩ => by
      have := s3_2.mp (S3_cons.mp g2).1
      have := same p q h1 g1
      grind)]
    omega
  · rw [iN_0 h0]
    by_cases h1 : F3_ B ((w, 1) :: L)
    · obtain ⟨p, k1, k2⟩ := id h1
      have e0 : ev_ w p = 0 := s3_1.mp (S3_cons.mp k2).1
      rw [iN_1 h1, iN_1 (F3_sub h1), iN_0 (P := F3_ B ((w, 2) :: L)) (fun ⟨q, g1, g2⟩ => by
        have := s3_2.mp (S3_cons.mp g2).1
        have := same p q k1 g1
        grind)]
      omega
    · rw [iN_0 h1]
      by_cases h2 : F3_ B ((w, 2) :: L)
      · rw [iN_1 h2, iN_1 (F3_sub h2)]; omega
      · rw [iN_0 h2]; omega
theorem F3_cg {B B' : List Wl_} {L L' : List (Wl_ × Nat)} (hB : ∀ x, x ∈ B ↔ x ∈ B') (hL : ∀ x, x ∈ L ↔ x ∈ L') : F3_ B L ↔ F3_ B' L' :=
  ⟨fun ⟨p, h1, h2⟩ => ⟨p, fun x hx => h1 x ((hB x).mpr hx), fun x hx => h2 x ((hL x).mpr hx)⟩, fun ⟨p, h1, h2⟩ => ⟨p, fun x hx => h1 x ((hB x).mp hx), fun x hx => h2 x ((hL x).mp hx)⟩⟩
theorem fc_cg {B : List Wl_} : ∀ (A : List Wl_) (L L' : List (Wl_ × Nat)), (∀ x, x ∈ L ↔ x ∈ L') → fc_ B A L = fc_ B A L' := by
  intro A
  induction A with
  | nil => intro L L' h; exact iN_cg (F3_cg (fun _ => Iff.rfl) h)
  | cons w A ih => intro L L' h; simp only [fc_]; rw [ih _ _ (mem_cg (w, 0) h), ih _ _ (mem_cg (w, 1) h), ih _ _ (mem_cg (w, 2) h)]
theorem fc_cut {B : List Wl_} {w : Wl_} : ∀ (A : List Wl_) (L : List (Wl_ × Nat)), fc_ B A ((w, 0) :: L) + fc_ B A ((w, 1) :: L) + fc_ B A ((w, 2) :: L) ≤ fc_ B A L + 2 * fc_ (w :: B) A L := by
  intro A
  induction A with
  | nil => intro L; exact fc_1 B L w
  | cons v A ih =>
    intro L
    have e0 := ih ((v, 0) :: L)
    have e1 := ih ((v, 1) :: L)
    have e2 := ih ((v, 2) :: L)
    simp only [fc_]
    have sw : ∀ i j : Nat, fc_ B A ((v, i) :: (w, j) :: L) = fc_ B A ((w, j) :: (v, i) :: L) := fun i j => fc_cg A _ _ (mem_sw (v, i) (w, j) L)
    rw [sw 0 0, sw 0 1, sw 0 2, sw 1 0, sw 1 1, sw 1 2, sw 2 0, sw 2 1, sw 2 2]
    omega
theorem fc_cutc {B : List Wl_} {w : Wl_} (hc : ∀ u, pB_ B u → dr_ w u = 0) : ∀ (A : List Wl_) (L : List (Wl_ × Nat)), fc_ B A ((w, 0) :: L) + fc_ B A ((w, 1) :: L) + fc_ B A ((w, 2) :: L) ≤ fc_ B A L := by
  intro A
  induction A with
  | nil => intro L; exact fc_c B L w hc
  | cons v A ih =>
    intro L
    have e0 := ih ((v, 0) :: L)
    have e1 := ih ((v, 1) :: L)
    have e2 := ih ((v, 2) :: L)
    simp only [fc_]
    have sw : ∀ i j : Nat, fc_ B A ((v, i) :: (w, j) :: L) = fc_ B A ((w, j) :: (v, i) :: L) := fun i j => fc_cg A _ _ (mem_sw (v, i) (w, j) L)
    rw [sw 0 0, sw 0 1, sw 0 2, sw 1 0, sw 1 1, sw 1 2, sw 2 0, sw 2 1, sw 2 2]
    omega
/-- the most that m walls make of a flat of n numbers -/
def ph_ : Nat → Nat → Nat
  | _, 0 => 1
  | 0, m + 1 => ph_ 0 m
  | n + 1, m + 1 => ph_ (n + 1) m + 2 * ph_ n m
theorem ph_s (n m : Nat) : ph_ n m ≤ ph_ n (m + 1) := by
  cases n with
  | zero => simp only [ph_]; exact Nat.le_refl _
  | succ n => simp only [ph_]; omega
theorem fc_le : ∀ (A B : List Wl_), Id_ B → fc_ B A [] ≤ ph_ (3 - B.length) A.length := by
  intro A
  induction A with
  | nil => intro B _; simp only [fc_, List.length_nil, ph_]; exact iN_le _
  | cons w A ih =>
    intro B hI
    by_cases hw : ∃ u, pB_ B u ∧ dr_ w u ≠ 0
    · have hI' : Id_ (w :: B) := ⟨hI, hw⟩
      have hl := Id_le _ hI'
      rw [List.length_cons] at hl
      have e1 := ih B hI
      have e2 := ih (w :: B) hI'
      have e3 := fc_cut (B := B) (w := w) A []
      rw [List.length_cons] at e2
      obtain ⟨k, hk⟩ : ∃ k, 3 - B.length = k + 1 := ⟨2 - B.length, by omega⟩
      rw [show 3 - (B.length + 1) = k by omega] at e2
      rw [hk] at e1 ⊢
      simp only [fc_, List.length_cons, ph_]
      omega
    · have hc : ∀ u, pB_ B u → dr_ w u = 0 := fun u h1 => Classical.byContradiction (fun h2 => hw ⟨u, h1, h2⟩)
      have e1 := ih B hI
      have e3 := fc_cutc hc A []
      have e4 := ph_s (3 - B.length) A.length
      simp only [fc_, List.length_cons]
      omega
theorem ph_38 : ph_ 3 8 = 577 := by decide
theorem ph_mono (n : Nat) : ∀ k m : Nat, ph_ n m ≤ ph_ n (m + k) := by
  intro k
  induction k with
  | zero => intro m; exact Nat.le_refl _
  | succ k ih => intro m; exact Nat.le_trans (ih m) (ph_s n (m + k))
theorem fc_577 (A : List Wl_) (h : A.length ≤ 8) : fc_ [] A [] ≤ 577 := by
  have e1 := fc_le A [] trivial
  have e2 := ph_mono 3 (8 - A.length) A.length
  rw [show A.length + (8 - A.length) = 8 by omega, ph_38] at e2
  exact Nat.le_trans e1 e2
