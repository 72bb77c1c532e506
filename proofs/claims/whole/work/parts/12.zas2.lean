/-! how many bounded rooms there are: one wall after the other -/
noncomputable def cn_ (B : List Wl_) : List Wl_ → List (Wl_ × Bool) → Int
  | [], L => in_ (Bd_ B L)
  | w :: A, L => cn_ B A ((w, true) :: L) + cn_ B A ((w, false) :: L)
/-- the heaps that have a place in common, odd ones below 0 -/
noncomputable def sS_ : List Wl_ → List Wl_ → Int
  | [], B => in_ (∃ p, oB_ B p)
  | w :: A, B => sS_ A B - sS_ A (w :: B)
theorem Re_cg {B B' : List Wl_} {L L' : List (Wl_ × Bool)} (hB : ∀ x, x ∈ B ↔ x ∈ B') (hL : ∀ x, x ∈ L ↔ x ∈ L') (h : Re_ B L) : Re_ B' L' := by
  obtain ⟨p, h1, h2⟩ := h
  exact ⟨p, fun x hx => h1 x ((hB x).mpr hx), fun x hx => h2 x ((hL x).mpr hx)⟩
theorem Rc_cg {B B' : List Wl_} {L L' : List (Wl_ × Bool)} (hB : ∀ x, x ∈ B ↔ x ∈ B') (hL : ∀ x, x ∈ L ↔ x ∈ L') (h : Rc_ B L) : Rc_ B' L' := by
  obtain ⟨p, h1, h2, h3⟩ := h
  exact ⟨p, fun x hx => h1 x ((hB x).mpr hx), fun x hx => h2 x ((hL x).mpr hx), h3⟩
theorem Bd_cg {B B' : List Wl_} {L L' : List (Wl_ × Bool)} (hB : ∀ x, x ∈ B ↔ x ∈ B') (hL : ∀ x, x ∈ L ↔ x ∈ L') : Bd_ B L ↔ Bd_ B' L' :=
  ⟨fun h => ⟨Re_cg hB hL h.1, fun c => h.2 (Rc_cg (fun x => (hB x).symm) (fun x => (hL x).symm) c)⟩, fun h => ⟨Re_cg (fun x => (hB x).symm) (fun x => (hL x).symm) h.1, fun c => h.2 (Rc_cg hB hL c)⟩⟩
theorem mem_cg {α : Type} {L L' : List α} (x : α) (h : ∀ y, y ∈ L ↔ y ∈ L') : ∀ y, y ∈ x :: L ↔ y ∈ x :: L' := fun y => by simp [h y]
theorem mem_sw {α : Type} (a b : α) (L : List α) : ∀ y, y ∈ a :: b :: L ↔ y ∈ b :: a :: L := fun y => by simp; grind
theorem cn_cg {B B' : List Wl_} (hB : ∀ x, x ∈ B ↔ x ∈ B') : ∀ (A : List Wl_) (L L' : List (Wl_ × Bool)), (∀ x, x ∈ L ↔ x ∈ L') → cn_ B A L = cn_ B' A L' := by
  intro A
  induction A with
  | nil => intro L L' h; exact in_cg (Bd_cg hB h)
  | cons w A ih => intro L L' h; simp only [cn_]; rw [ih _ _ (mem_cg (w, true) h), ih _ _ (mem_cg (w, false) h)]
theorem sS_cg : ∀ (A : List Wl_) (B B' : List Wl_), (∀ x, x ∈ B ↔ x ∈ B') → sS_ A B = sS_ A B' := by
  intro A
  induction A with
  | nil => intro B B' h; exact in_cg ⟨fun ⟨p, hp⟩ => ⟨p, fun x hx => hp x ((h x).mpr hx)⟩, fun ⟨p, hp⟩ => ⟨p, fun x hx => hp x ((h x).mp hx)⟩⟩
  | cons w A ih => intro B B' h; simp only [sS_]; rw [ih _ _ h, ih _ _ (mem_cg w h)]
theorem Es_cg {B : List Wl_} {A A' : List Wl_} (h : ∀ x, x ∈ A ↔ x ∈ A') (hE : Es_ B A) : Es_ B A' := fun u h1 h2 => hE u h1 (fun x hx => h2 x ((h x).mp hx))
theorem cut_all {B : List Wl_} {w : Wl_} (hw : ∃ u, pB_ B u ∧ dr_ w u ≠ 0) : ∀ (A : List Wl_) (L : List (Wl_ × Bool)), Es_ B (L.map Prod.fst ++ A) → cn_ B A ((w, true) :: L) + cn_ B A ((w, false) :: L) = cn_ B A L + cn_ (w :: B) A L := by
  intro A
  induction A with
  | nil => intro L hE; exact cut_1 (by simpa using hE) hw
  | cons v A ih =>
    intro L hE
    simp only [cn_]
    have e1 := ih ((v, true) :: L) (Es_cg (fun x => by simp; grind) hE)
    have e2 := ih ((v, false) :: L) (Es_cg (fun x => by simp; grind) hE)
    rw [cn_cg (fun _ => Iff.rfl) A _ _ (mem_sw (v, true) (w, true) L), cn_cg (fun _ => Iff.rfl) A _ _ (mem_sw (v, true) (w, false) L), cn_cg (fun _ => Iff.rfl) A _ _ (mem_sw (v, false) (w, true) L), cn_cg (fun _ => Iff.rfl) A _ _ (mem_sw (v, false) (w, false) L)]
    omega
theorem cn_none {B : List Wl_} : ∀ (A : List Wl_) (L : List (Wl_ × Bool)), ¬ Re_ B L → cn_ B A L = 0 := by
  intro A
  induction A with
  | nil => intro L h; exact in_0 (fun q => h q.1)
  | cons w A ih => intro L h; simp only [cn_]; rw [ih _ (fun q => h (Re_sub q)), ih _ (fun q => h (Re_sub q))]; rfl
theorem sS_none : ∀ (A : List Wl_) (B : List Wl_), (¬ ∃ p, oB_ B p) → sS_ A B = 0 := by
  intro A
  induction A with
  | nil => intro B h; exact in_0 h
  | cons w A ih => intro B h; simp only [sS_]; rw [ih _ h, ih _ (fun ⟨p, hp⟩ => h ⟨p, (oB_cons.mp hp).2⟩)]; rfl
/-- a way along everything but w: to be on w is no matter -/
theorem sS_free {w : Wl_} : ∀ (A : List Wl_) (B : List Wl_), (∃ u, pB_ B u ∧ pB_ A u ∧ dr_ w u ≠ 0) → sS_ A B = sS_ A (w :: B) := by
  intro A
  induction A with
  | nil =>
    intro B ⟨u, h1, _, h3⟩
    refine in_cg ⟨fun ⟨p, hp⟩ => ?_, fun ⟨p, hp⟩ => ⟨p, (oB_cons.mp hp).2⟩⟩
    refine ⟨ad_ p (- ev_ w p / dr_ w u) u, oB_cons.mpr ⟨?_, oB_ad hp h1⟩⟩
    rw [ev_ad, Rat.div_mul_cancel h3]; grind
  | cons a A ih =>
    intro B ⟨u, h1, h2, h3⟩
    rw [pB_cons] at h2
    simp only [sS_]
    rw [ih B ⟨u, h1, h2.2, h3⟩, ih (a :: B) ⟨u, pB_cons.mpr ⟨h2.1, h1⟩, h2.2, h3⟩, sS_cg A _ _ (mem_sw w a B)]
theorem cn_free {B : List Wl_} : ∀ (A : List Wl_) (L : List (Wl_ × Bool)), (∃ u, pB_ B u ∧ pB_ A u ∧ rB_ L u ∧ u ≠ o3_) → cn_ B A L = 0 := by
  intro A
  induction A with
  | nil => intro L ⟨u, h1, _, h3, h4⟩; exact in_0 (fun q => q.2 ⟨u, h1, h3, h4⟩)
  | cons a A ih =>
    intro L ⟨u, h1, h2, h3, h4⟩
    rw [pB_cons] at h2
    simp only [cn_]
    have hb : ∀ b : Bool, r1_ b (dr_ a u) := by
      intro b
      rw [h2.1]
      cases b
      · rw [r1_f]; grind
      · rw [r1_t]; grind
    rw [ih _ ⟨u, h1, h2.2, rB_cons.mpr ⟨hb true, h3⟩, h4⟩, ih _ ⟨u, h1, h2.2, rB_cons.mpr ⟨hb false, h3⟩, h4⟩]; rfl
/-! walls one after the other that cross all those before -/
def Id_ : List Wl_ → Prop
  | [] => True
  | w :: B => Id_ B ∧ ∃ u, pB_ B u ∧ dr_ w u ≠ 0
theorem perp_2 (a b : V3_) : ∃ u : V3_, u ≠ o3_ ∧ a.1 * u.1 + a.2.1 * u.2.1 + a.2.2 * u.2.2 = 0 ∧ b.1 * u.1 + b.2.1 * u.2.1 + b.2.2 * u.2.2 = 0 := by
  obtain ⟨a1, a2, a3⟩ := a
  obtain ⟨b1, b2, b3⟩ := b
  simp only [o3_]
  by_cases h : (a2 * b3 - a3 * b2, a3 * b1 - a1 * b3, a1 * b2 - a2 * b1) = ((0, 0, 0) : V3_)
  · simp only [Prod.mk.injEq] at h
    obtain ⟨h1, h2, h3⟩ := h
    -- parallel: any way across the one that isn't 0
    by_cases ha1 : a1 = 0
    · by_cases ha2 : a2 = 0
      · by_cases ha3 : a3 = 0
        · by_cases hb1 : b1 = 0
          · exact ⟨(1, 0, 0), by simp, by simp only []; grind, by simp only []; grind⟩
          · exact ⟨(-b2, b1, 0), by simp; grind, by simp only []; grind, by simp only []; grind⟩
        · exact ⟨(1, 0, 0), by simp, by simp only []; grind, by
            have : a3 * b1 = 0 := by grind
            rcases Rat.mul_eq_zero.mp this with h | h <;> simp only [] <;> grind⟩
      · exact ⟨(1, 0, 0), by simp, by simp only []; grind, by
            have : a2 * b1 = 0 := by grind
            rcases Rat.mul_eq_zero.mp this with h | h <;> simp only [] <;> grind⟩
    · exact ⟨(-a2, a1, 0), by simp; grind, by simp only []; grind, by simp only []; grind⟩
  · exact ⟨_, h, by simp only []; grind, by simp only []; grind⟩
def nv_ (w : Wl_) : V3_ := ((w.1 : Rat), (w.2.1 : Rat), (w.2.2.1 : Rat))
theorem dr_nv (w : Wl_) (u : V3_) : dr_ w u = (nv_ w).1 * u.1 + (nv_ w).2.1 * u.2.1 + (nv_ w).2.2 * u.2.2 := rfl
theorem Id_3 {a b c : Wl_} (h : Id_ [c, b, a]) : ∀ v : V3_, dr_ a v = 0 → dr_ b v = 0 → dr_ c v = 0 → v = o3_ := by
  obtain ⟨⟨⟨-, u1, -, h1⟩, u2, h2, h3⟩, u3, h4, h5⟩ := h
  have k2 : dr_ a u2 = 0 := h2 a (by simp)
  have k3 : dr_ a u3 = 0 := h4 a (by simp)
  have k4 : dr_ b u3 = 0 := h4 b (by simp)
  intro v g1 g2 g3
  rw [dr_nv] at *
  generalize nv_ a = a at *
  generalize nv_ b = b at *
  generalize nv_ c = c at *
  obtain ⟨a1, a2, a3⟩ := a
  obtain ⟨b1, b2, b3⟩ := b
  obtain ⟨c1, c2, c3⟩ := c
  obtain ⟨x1, x2, x3⟩ := u1
  obtain ⟨y1, y2, y3⟩ := u2
  obtain ⟨z1, z2, z3⟩ := u3
  obtain ⟨v1, v2, v3⟩ := v
  simp only [dr_nv] at *
  -- the determinant of a, b, c isn't 0, for its product with that of the ways isn't
  have hdet : (a1 * (b2 * c3 - b3 * c2) - a2 * (b1 * c3 - b3 * c1) + a3 * (b1 * c2 - b2 * c1)) * (x1 * (y2 * z3 - y3 * z2) - x2 * (y1 * z3 - y3 * z1) + x3 * (y1 * z2 - y2 * z1)) = (a1 * x1 + a2 * x2 + a3 * x3) * (b1 * y1 + b2 * y2 + b3 * y3) * (c1 * z1 + c2 * z2 + c3 * z3) := by
    grind
  have hd : a1 * (b2 * c3 - b3 * c2) - a2 * (b1 * c3 - b3 * c1) + a3 * (b1 * c2 - b2 * c1) ≠ 0 := by
    intro h0
    rw [h0] at hdet
    have q : (a1 * x1 + a2 * x2 + a3 * x3) * (b1 * y1 + b2 * y2 + b3 * y3) * (c1 * z1 + c2 * z2 + c3 * z3) = 0 := by grind
    rcases Rat.mul_eq_zero.mp q with q | q
    · rcases Rat.mul_eq_zero.mp q with q | q
      · exact h1 q
      · exact h3 q
    · exact h5 q
  have e1 : (a1 * (b2 * c3 - b3 * c2) - a2 * (b1 * c3 - b3 * c1) + a3 * (b1 * c2 - b2 * c1)) * v1 = 0 := by grind
  have e2 : (a1 * (b2 * c3 - b3 * c2) - a2 * (b1 * c3 - b3 * c1) + a3 * (b1 * c2 - b2 * c1)) * v2 = 0 := by grind
  have e3 : (a1 * (b2 * c3 - b3 * c2) - a2 * (b1 * c3 - b3 * c1) + a3 * (b1 * c2 - b2 * c1)) * v3 = 0 := by grind
  have w1 := (Rat.mul_eq_zero.mp e1).resolve_left hd
  have w2 := (Rat.mul_eq_zero.mp e2).resolve_left hd
  have w3 := (Rat.mul_eq_zero.mp e3).resolve_left hd
  simp only [o3_, w1, w2, w3]
theorem Id_le : ∀ (B : List Wl_), Id_ B → B.length ≤ 3 := by
  intro B h
  match B, h with
  | [], _ => simp
  | [_], _ => simp
  | [_, _], _ => simp
  | [_, _, _], _ => simp
  | d :: c :: b :: a :: B, h =>
    exfalso
    -- the last four: cut the rest off
    have key : ∀ (X Y : List Wl_), Id_ (X ++ Y) → Id_ X := by
      intro X Y
      induction X with
      | nil => intro _; trivial
      | cons x X ih =>
        intro ⟨q1, u, q2, q3⟩
        exact ⟨ih q1, u, fun y hy => q2 y (List.mem_append_left _ hy), q3⟩
    have h4 : Id_ [d, c, b, a] := key [d, c, b, a] B h
    obtain ⟨h3, u, h5, h6⟩ := h4
    have hu : u = o3_ := Id_3 h3 u (h5 a (by simp)) (h5 b (by simp)) (h5 c (by simp))
    rw [hu, dr_o] at h6
    exact h6 rfl
theorem Id_es {B : List Wl_} (h : Id_ B) (hE : Es_ B []) : B.length = 3 := by
  have hl := Id_le B h
  match B, h, hE with
  | [], _, hE =>
    exfalso
    have := hE (1, 0, 0) (fun x hx => by cases hx) (fun x hx => by cases hx)
    simp [o3_] at this
  | [a], _, hE =>
    exfalso
    obtain ⟨u, h1, h2, -⟩ := perp_2 (nv_ a) (nv_ a)
    exact h1 (hE u (fun x hx => by rw [List.mem_singleton] at hx; subst hx; exact h2) (fun x hx => by cases hx))
  | [a, b], _, hE =>
    exfalso
    obtain ⟨u, h1, h2, h3⟩ := perp_2 (nv_ a) (nv_ b)
    exact h1 (hE u (fun x hx => by
      rcases List.mem_cons.mp hx with rfl | hx
      · exact h2
      · rw [List.mem_singleton] at hx; subst hx; exact h3) (fun x hx => by cases hx))
  | [_, _, _], _, _ => rfl
  | _ :: _ :: _ :: _ :: _, _, _ => simp at hl
/-- 1 for an odd number, -1 for an even one -/
def sg3_ (n : Nat) : Int := if n % 2 = 1 then 1 else -1
theorem sg3_s (n : Nat) : sg3_ (n + 1) = - sg3_ n := by
  unfold sg3_
  by_cases h : n % 2 = 1
  · rw [if_pos h, if_neg (by omega)]
  · rw [if_neg h, if_pos (by omega)]; rfl
/-- Zaslavsky's count of the bounded rooms -/
theorem zas_ : ∀ (A B : List Wl_), Id_ B → (∃ p, oB_ B p) → Es_ B A → cn_ B A [] = sg3_ B.length * sS_ A B := by
  intro A
  induction A with
  | nil =>
    intro B hI hp hE
    have h3 := Id_es hI hE
    simp only [cn_, sS_]
    rw [in_1 hp, in_1 (P := Bd_ B []) ⟨⟨hp.choose, hp.choose_spec, fun x hx => by cases hx⟩, fun ⟨u, h1, _, h2⟩ => h2 (hE u h1 (fun x hx => by cases hx))⟩, h3]
    rfl
  | cons w A ih =>
    intro B hI hp hE
    by_cases hw : ∃ u, pB_ B u ∧ dr_ w u ≠ 0
    · have hI' : Id_ (w :: B) := ⟨hI, hw⟩
      have hp' : ∃ p, oB_ (w :: B) p := by
        obtain ⟨p, hp⟩ := hp
        obtain ⟨u, h1, h2⟩ := hw
        refine ⟨ad_ p (- ev_ w p / dr_ w u) u, oB_cons.mpr ⟨?_, oB_ad hp h1⟩⟩
        rw [ev_ad, Rat.div_mul_cancel h2]; grind
      have hE' : Es_ (w :: B) A := fun u h1 h2 => hE u (pB_cons.mp h1).2 (pB_cons.mpr ⟨(pB_cons.mp h1).1, h2⟩)
      have e1 := ih (w :: B) hI' hp' hE'
      rw [List.length_cons, sg3_s] at e1
      by_cases hA : Es_ B A
      · have e2 := ih B hI hp hA
        have e3 := cut_all hw A [] (by simpa using hA)
        simp only [cn_, sS_]
        rw [e3, e1, e2]
        rw [Int.mul_sub, Int.neg_mul]; omega
      · have : ∃ u, pB_ B u ∧ pB_ A u ∧ u ≠ o3_ := by
          refine Classical.byContradiction (fun hn => hA (fun u h1 h2 => Classical.byContradiction (fun h3 => hn ⟨u, h1, h2, h3⟩)))
        obtain ⟨u, h1, h2, h3⟩ := this
        have h4 : dr_ w u ≠ 0 := fun h0 => h3 (hE u h1 (pB_cons.mpr ⟨h0, h2⟩))
        simp only [cn_, sS_]
        rw [← sS_free A B ⟨u, h1, h2, h4⟩]
        have hm1 : pB_ B (mu_ (-1) u) := fun x hx => by rw [dr_mu, h1 x hx]; grind
        have hm2 : pB_ A (mu_ (-1) u) := fun x hx => by rw [dr_mu, h2 x hx]; grind
        have hm3 : mu_ (-1) u ≠ o3_ := mu_ne (by decide) h3
        have hnil : ∀ v, rB_ [] v := fun v x hx => by cases hx
        rcases (show 0 < dr_ w u ∨ dr_ w u < 0 by grind) with h | h
        · rw [cn_free A [(w, true)] ⟨u, h1, h2, rB_cons.mpr ⟨r1_t.mpr (Rat.le_of_lt h), hnil _⟩, h3⟩, cn_free A [(w, false)] ⟨_, hm1, hm2, rB_cons.mpr ⟨r1_f.mpr (by show dr_ w _ ≤ 0; rw [dr_mu]; grind), hnil _⟩, hm3⟩]
          rw [Int.sub_self, Int.mul_zero]; rfl
        · rw [cn_free A [(w, false)] ⟨u, h1, h2, rB_cons.mpr ⟨r1_f.mpr (Rat.le_of_lt h), hnil _⟩, h3⟩, cn_free A [(w, true)] ⟨_, hm1, hm2, rB_cons.mpr ⟨r1_t.mpr (by show 0 ≤ dr_ w _; rw [dr_mu]; grind), hnil _⟩, hm3⟩]
          rw [Int.sub_self, Int.mul_zero]; rfl
    · have hc : ∀ u, pB_ B u → dr_ w u = 0 := fun u h1 => Classical.byContradiction (fun h2 => hw ⟨u, h1, h2⟩)
      obtain ⟨p0, hp0⟩ := hp
      have hconst : ∀ p, oB_ B p → ev_ w p = ev_ w p0 := by
        intro p hp
        have := hc (sb_ p p0) (fun x hx => by rw [dr_sb, hp x hx, hp0 x hx]; grind)
        rw [dr_sb] at this
        grind
      have hEA : Es_ B A := fun u h1 h2 => hE u h1 (pB_cons.mpr ⟨hc u h1, h2⟩)
      have e2 := ih B hI ⟨p0, hp0⟩ hEA
      by_cases h0 : ev_ w p0 = 0
      · have hsame : sS_ A (w :: B) = sS_ A B := by
          have gen : ∀ (A B' : List Wl_), sS_ A (w :: (B' ++ B)) = sS_ A (B' ++ B) := by
            intro A
            induction A with
            | nil =>
              intro B'
              refine in_cg ⟨fun ⟨p, hp⟩ => ⟨p, (oB_cons.mp hp).2⟩, fun ⟨p, hp⟩ => ⟨p, oB_cons.mpr ⟨?_, hp⟩⟩⟩
              rw [hconst p (fun x hx => hp x (List.mem_append_right _ hx)), h0]
            | cons a A ih2 =>
              intro B'
              simp only [sS_]
              have e5 : sS_ A (w :: a :: (B' ++ B)) = sS_ A (a :: (B' ++ B)) := ih2 (a :: B')
              rw [ih2 B', sS_cg A _ _ (mem_sw a w (B' ++ B)), e5]
          exact gen A []
        simp only [cn_, sS_]
        rw [hsame, cn_none A [(w, true)] (fun ⟨p, q1, q2⟩ => by
          have := s1_t.mp (sB_cons.mp q2).1
          rw [hconst p q1, h0] at this; grind), cn_none A [(w, false)] (fun ⟨p, q1, q2⟩ => by
          have := s1_f.mp (sB_cons.mp q2).1
          rw [hconst p q1, h0] at this; grind), Int.sub_self, Int.mul_zero]; rfl
      · have hn : sS_ A (w :: B) = 0 := sS_none A _ (fun ⟨p, hp⟩ => by
          have := oB_cons.mp hp
          exact h0 ((hconst p this.2).symm.trans this.1))
        have same : ∀ (b : Bool), s1_ b (ev_ w p0) → ∀ (A : List Wl_) (L : List (Wl_ × Bool)), cn_ B A ((w, b) :: L) = cn_ B A L := by
          intro b hb A
          induction A with
          | nil =>
            intro L
            refine in_cg ⟨fun h => ⟨Re_sub h.1, fun ⟨u, q1, q2, q3⟩ => h.2 ⟨u, q1, rB_cons.mpr ⟨?_, q2⟩, q3⟩⟩, fun h => ⟨?_, fun q => h.2 (Rc_sub q)⟩⟩
            · show r1_ b (dr_ w u)
              rw [hc u q1]
              cases b
              · rw [r1_f]; grind
              · rw [r1_t]; grind
            · obtain ⟨p, q1, q2⟩ := h.1
              exact ⟨p, q1, sB_cons.mpr ⟨by show s1_ b (ev_ w p); rw [hconst p q1]; exact hb, q2⟩⟩
          | cons a A ih2 =>
            intro L
            simp only [cn_]
            rw [cn_cg (fun _ => Iff.rfl) A _ _ (mem_sw (a, true) (w, b) L), cn_cg (fun _ => Iff.rfl) A _ _ (mem_sw (a, false) (w, b) L), ih2, ih2]
        simp only [cn_, sS_]
        rw [hn, Int.sub_zero, ← e2]
        rcases (show 0 < ev_ w p0 ∨ ev_ w p0 < 0 by grind) with h | h
        · rw [same true (s1_t.mpr h) A [], cn_none A [(w, false)] (fun ⟨p, q1, q2⟩ => by
            have := s1_f.mp (sB_cons.mp q2).1
            rw [hconst p q1] at this; grind)]; omega
        · rw [same false (s1_f.mpr h) A [], cn_none A [(w, true)] (fun ⟨p, q1, q2⟩ => by
            have := s1_t.mp (sB_cons.mp q2).1
            rw [hconst p q1] at this; grind)]; omega
