/-! the polynomial on a wall: what others cut out of it twice cancels -/
theorem si_2 (f : Nat → Int) (m : Nat) : fb_si f (m * 2) = fb_si f m + fb_si (fun h => f (h + m)) m := by
  rw [show m * 2 = m + m by omega, fb_si_split]
  congr 1
  exact fb_si_cong (fun k _ => by rw [Nat.add_comm])
theorem xor_top {h m o : Nat} (hh : h < 2 ^ m) (ho : o < m) : (h + 2 ^ m) ^^^ 2 ^ o = (h ^^^ 2 ^ o) + 2 ^ m := by
  have hx : h ^^^ 2 ^ o < 2 ^ m := Nat.xor_lt_two_pow hh (Nat.pow_lt_pow_right (by decide) ho)
  apply Nat.eq_of_testBit_eq
  intro j
  rw [fb_bit_flip, bit_more hh, bit_more hx, fb_bit_flip]
  by_cases q : j = m
  · subst q
    have h1 : ¬ j = o := by omega
    simp [h1]
  · simp [q]
theorem inv_0 : ∀ (n o : Nat) (g : Nat → Int), o < n → (∀ h, h < 2 ^ n → g (h ^^^ 2 ^ o) = - g h) → fb_si g (2 ^ n) = 0 := by
  intro n
  induction n with
  | zero => intro o g h; omega
  | succ n ih =>
    intro o g ho hg
    rw [Nat.pow_succ, si_2]
    have h2 : 2 ^ (n + 1) = 2 ^ n * 2 := Nat.pow_succ ..
    rcases (show o < n ∨ o = n by omega) with q | rfl
    · rw [ih o g q (fun h hh => hg h (by omega)), ih o (fun h => g (h + 2 ^ n)) q (fun h hh => by
        rw [← xor_top hh q]
        exact hg _ (by omega))]
      rfl
    · rw [← fb_si_add]
      have : ∀ k, k < 2 ^ o → g k + g (k + 2 ^ o) = 0 := by
        intro k hk
        have := hg k (by omega)
        have e : k ^^^ 2 ^ o = k + 2 ^ o := by
          rw [← or_add hk]
          apply Nat.eq_of_testBit_eq
          intro j
          rw [fb_bit_flip, fb_bit_set]
          by_cases w : j = o
          · subst w
            rw [Nat.testBit_lt_two_pow hk]; simp
          · simp [w]
        rw [e] at this
        omega
      rw [fb_si_cong (g := fun _ => 0) this]
      have z : ∀ N, fb_si (fun _ => (0 : Int)) N = 0 := by
        intro N
        induction N with
        | zero => rfl
        | succ N ih => rw [fb_si_succ, ih]; rfl
      exact z _
theorem sg2_flip : ∀ h : Fin 256, ∀ o : Fin 8, sg2_ (h.val ^^^ 2 ^ o.val) = - sg2_ h.val := by decide +kernel
theorem Si_split (n : Nat) (P Q : Nat → Prop) : Si_ n P = Si_ n (fun h => P h ∧ Q h) + Si_ n (fun h => P h ∧ ¬ Q h) := by
  unfold Si_
  rw [← fb_si_add]
  refine fb_si_cong (fun h _ => ?_)
  by_cases p : P h
  · by_cases q : Q h
    · rw [if_pos (pb_t.mpr p), if_pos (pb_t.mpr ⟨p, q⟩), if_neg (fun z => (pb_t.mp z).2 q), Int.add_zero]
    · rw [if_pos (pb_t.mpr p), if_neg (fun z => q (pb_t.mp z).2), if_pos (pb_t.mpr ⟨p, q⟩), Int.zero_add]
  · rw [if_neg (fun z => p (pb_t.mp z)), if_neg (fun z => p (pb_t.mp z).1), if_neg (fun z => p (pb_t.mp z).1)]; rfl
theorem Si_none {n : Nat} {P : Nat → Prop} (h : ∀ k, k < 2 ^ n → ¬ P k) : Si_ n P = 0 := by
  unfold Si_
  have z : ∀ N, N ≤ 2 ^ n → fb_si (fun h => if pb_ (P h) = true then sg2_ h else 0) N = 0 := by
    intro N
    induction N with
    | zero => intro _; rfl
    | succ N ih => intro hN; rw [fb_si_succ, ih (by omega), if_neg (fun q => h N (by omega) (pb_t.mp q))]; rfl
  exact z _ (Nat.le_refl _)
theorem Si_inv {n o : Nat} (hn : n ≤ 8) (ho : o < n) {P : Nat → Prop} (h : ∀ k, k < 2 ^ n → (P (k ^^^ 2 ^ o) ↔ P k)) : Si_ n P = 0 := by
  unfold Si_
  refine inv_0 n o _ ho (fun k hk => ?_)
  have h2n : 2 ^ n ≤ 256 := Nat.pow_le_pow_right (n := 2) (j := 8) (by decide) hn
  have hs := sg2_flip ⟨k, by omega⟩ ⟨o, by omega⟩
  dsimp only at hs ⊢
  by_cases p : P k
  · rw [if_pos (pb_t.mpr ((h k hk).mpr p)), if_pos (pb_t.mpr p), hs]
  · rw [if_neg (fun z => p ((h k hk).mp (pb_t.mp z))), if_neg (fun z => p (pb_t.mp z))]; rfl
theorem T_rm {n k : Nat} (hn : n ≤ 8) {U F : Nat → Prop} (h : (∀ h, h < 2 ^ n → (∀ j, h.testBit j = true → U j) → h.testBit k = true → ¬ F h) ∨ ∃ o, o < n ∧ o ≠ k ∧ U o ∧ ∀ h, h < 2 ^ n → h.testBit k = true → (F (h ^^^ 2 ^ o) ↔ F h)) :
    Si_ n (fun h => (∀ j, h.testBit j = true → U j) ∧ F h) = Si_ n (fun h => (∀ j, h.testBit j = true → U j ∧ j ≠ k) ∧ F h) := by
  rw [Si_split n (fun h => (∀ j, h.testBit j = true → U j) ∧ F h) (fun h => h.testBit k = true)]
  have e0 : Si_ n (fun h => ((∀ j, h.testBit j = true → U j) ∧ F h) ∧ h.testBit k = true) = 0 := by
    rcases h with h | ⟨o, ho, hok, hU, h⟩
    · exact Si_none (fun x hx q => h x hx q.1.1 q.2 q.1.2)
    · refine Si_inv hn ho (fun x hx => ?_)
      have hbk : (x ^^^ 2 ^ o).testBit k = x.testBit k := by
        rw [fb_bit_flip]
        have : ¬ k = o := fun q => hok q.symm
        simp [this]
      have hbj : (∀ j, (x ^^^ 2 ^ o).testBit j = true → U j) ↔ ∀ j, x.testBit j = true → U j := by
        constructor
        · intro q j hj
          by_cases w : j = o
          · rw [w]; exact hU
          · exact q j (by rw [fb_bit_flip]; simp [w, hj])
        · intro q j hj
          by_cases w : j = o
          · rw [w]; exact hU
          · rw [fb_bit_flip] at hj
            simp [w] at hj
            exact q j hj
      rw [hbk, hbj]
      by_cases c : x.testBit k = true
      · rw [h x hx c]
      · exact ⟨fun q => absurd q.2 c, fun q => absurd q.2 c⟩
  rw [e0, Int.zero_add]
  refine Si_cg (fun x _ => ⟨fun q => ⟨fun j hj => ⟨q.1.1 j hj, fun w => q.2 (by rw [← w]; exact hj)⟩, q.1.2⟩, fun q => ⟨⟨fun j hj => (q.1 j hj).1, q.2⟩, fun w => (q.1 k w).2 rfl⟩⟩)
theorem two_b (w k j : Nat) : (2 ^ w ||| 2 ^ k).testBit j = (decide (j = w) || decide (j = k)) := by
  rw [fb_bit_set, Nat.testBit_two_pow]
  congr 1
  exact decide_eq_decide.mpr ⟨fun h => h.symm, fun h => h.symm⟩
theorem three_b (w k o j : Nat) : (2 ^ w ||| 2 ^ k ||| 2 ^ o).testBit j = (decide (j = w) || decide (j = k) || decide (j = o)) := by
  rw [fb_bit_set, two_b]
/-- another wall meets this one and isn't beside it -/
def mt_ (G : Nat → Wl_) (w k : Nat) : Prop := hC_ G (2 ^ w ||| 2 ^ k) ∧ 2 ≤ rk_ (hS_ G (2 ^ w ||| 2 ^ k))
noncomputable def r4_ (G : Nat → Wl_) (h : Nat) : Nat := rk_ (hS_ G h) + iN_ (¬ hC_ G h)
def OF_ (G : Nat → Wl_) (w m κ : Nat) : Prop := m < 2 ^ κ ∧ ∀ k, k < κ → (m.testBit k = true ↔ k ≠ w ∧ mt_ G w k ∧ ∀ o, o < k → m.testBit o = true → r4_ G (2 ^ w ||| 2 ^ k ||| 2 ^ o) ≠ 2)
theorem mt_cx {G : Nat → Wl_} {w k : Nat} (h : mt_ G w k) : cx_ (G w) (G k) ≠ o3_ := by
  intro hc
  have hR2 : R2_ (hS_ G (2 ^ w ||| 2 ^ k)) := by
    have l3 := rk_le3 (hS_ G (2 ^ w ||| 2 ^ k))
    have := h.2
    rcases (show rk_ (hS_ G (2 ^ w ||| 2 ^ k)) = 2 ∨ rk_ (hS_ G (2 ^ w ||| 2 ^ k)) = 3 by omega) with q | q
    · exact (rk_inv2 q).1
    · exact R3_R2 (rk_inv3 q)
  obtain ⟨x, y, ⟨a, ha, rfl⟩, ⟨b, hb, rfl⟩, hd⟩ := hR2
  rw [two_b] at ha hb
  simp at ha hb
  rcases ha with rfl | rfl <;> rcases hb with rfl | rfl
  · exact hd (cx_self _)
  · exact hd hc
  · exact hd (cx_swap hc)
  · exact hd (cx_self _)
theorem mt_not {G : Nat → Wl_} {n d w k : Nat} (hI : MI_ G n d) (hw : w < n) (hk : k < n) (hwk : k ≠ w) (hc : hC_ G (2 ^ w ||| 2 ^ k)) : mt_ G w k := by
  refine ⟨hc, ?_⟩
  have hcx : cx_ (G w) (G k) ≠ o3_ := by
    intro hz
    obtain ⟨p, hp⟩ := hc
    exact hI.2.2.2.2.2.2 w k hw hk (fun q => hwk q.symm) (s4_on hz (hp w (by rw [two_b]; simp)) (hp k (by rw [two_b]; simp)))
  have hR2 : R2_ (hS_ G (2 ^ w ||| 2 ^ k)) := ⟨G w, G k, ⟨w, by rw [two_b]; simp, rfl⟩, ⟨k, by rw [two_b]; simp, rfl⟩, hcx⟩
  by_cases h3 : R3_ (hS_ G (2 ^ w ||| 2 ^ k))
  · rw [rk_3 h3]; omega
  · rw [rk_2 hR2 h3]; omega
theorem rk_dep {X : Wl_ → Prop} {x y z : Wl_} (hx : X x) (hy : X y) (hc : cx_ x y ≠ o3_) (hz : dr_ z (cx_ x y) = 0) : rk_ (fun w => X w ∨ w = z) = rk_ X := by
  by_cases h3 : R3_ X
  · rw [rk_3 h3, rk_add3 (rk_3 h3)]
  · have h2 := rk_2 ⟨x, y, hx, hy, hc⟩ h3
    rw [h2, rk_add2 h2 hx hy hc hz]
/-- where two others cut the same out of a wall, one of them may come or go -/
theorem on_flip {G : Nat → Wl_} {d w k o : Nat} {i : Int32} (hm : mt_ G w k) (h4 : r4_ G (2 ^ w ||| 2 ^ k ||| 2 ^ o) = 2) {h : Nat} (hk : h.testBit k = true) (hok : o ≠ k) (how : o ≠ w) : Fp_ G d i ((h ^^^ 2 ^ o) ||| 2 ^ w) ↔ Fp_ G d i (h ||| 2 ^ w) := by
  have hcx := mt_cx hm
  have hR2 : R2_ (hS_ G (2 ^ w ||| 2 ^ k ||| 2 ^ o)) := ⟨G w, G k, ⟨w, by rw [three_b]; simp, rfl⟩, ⟨k, by rw [three_b]; simp, rfl⟩, hcx⟩
  unfold r4_ at h4
  have l1 := iN_le (¬ hC_ G (2 ^ w ||| 2 ^ k ||| 2 ^ o))
  have hrk : ¬ R3_ (hS_ G (2 ^ w ||| 2 ^ k ||| 2 ^ o)) := fun h3 => by rw [rk_3 h3] at h4; omega
  have hcom : hC_ G (2 ^ w ||| 2 ^ k ||| 2 ^ o) := by
    refine Classical.byContradiction fun q => ?_
    rw [rk_2 hR2 hrk, iN_1 q] at h4
    omega
  have hz : dr_ (G o) (cx_ (G w) (G k)) = 0 := by
    refine Classical.byContradiction fun q => hrk ⟨G w, G k, G o, ⟨w, by rw [three_b]; simp, rfl⟩, ⟨k, by rw [three_b]; simp, rfl⟩, ⟨o, by rw [three_b]; simp, rfl⟩, q⟩
  obtain ⟨p0, hp0⟩ := hcom
  have w0 := hp0 w (by rw [three_b]; simp)
  have k0 := hp0 k (by rw [three_b]; simp)
  have o0 := hp0 o (by rw [three_b]; simp)
  have hon : ∀ p, ev_ (G w) p = 0 → ev_ (G k) p = 0 → ev_ (G o) p = 0 := by
    intro p h1 h2
    have d1 : dr_ (G w) (sb_ p p0) = 0 := by rw [dr_sb, h1, w0]; grind
    have d2 : dr_ (G k) (sb_ p p0) = 0 := by rw [dr_sb, h2, k0]; grind
    obtain ⟨t, ht⟩ := along_cx d1 d2 hcx
    have d3 := dr_sb (G o) p p0
    rw [ht, dr_mu, hz, o0] at d3
    grind
  have hbw : ∀ x : Nat, (x ||| 2 ^ w).testBit w = true := fun x => by rw [fb_bit_set]; simp
  have hbk : (h ||| 2 ^ w).testBit k = true := by rw [fb_bit_set, hk]; rfl
  have hbk' : ((h ^^^ 2 ^ o) ||| 2 ^ w).testBit k = true := by
    rw [fb_bit_set, fb_bit_flip, hk]
    have : ¬ k = o := fun q => hok q.symm
    simp [this]
  have other : ∀ j, j ≠ o → ((h ^^^ 2 ^ o) ||| 2 ^ w).testBit j = (h ||| 2 ^ w).testBit j := by
    intro j hj
    rw [fb_bit_set, fb_bit_set, fb_bit_flip]
    simp [hj]
  have hC : hC_ G ((h ^^^ 2 ^ o) ||| 2 ^ w) ↔ hC_ G (h ||| 2 ^ w) := by
    constructor
    · rintro ⟨p, hp⟩
      refine ⟨p, fun j hj => ?_⟩
      by_cases q : j = o
      · rw [q]; exact hon p (hp w (hbw _)) (hp k hbk')
      · exact hp j (by rw [other j q]; exact hj)
    · rintro ⟨p, hp⟩
      refine ⟨p, fun j hj => ?_⟩
      by_cases q : j = o
      · rw [q]; exact hon p (hp w (hbw _)) (hp k hbk)
      · exact hp j (by rw [← other j q]; exact hj)
  -- both have the rank of the heap with the wall o
  have hrkx : ∀ x : Nat, x.testBit w = true → x.testBit k = true → rk_ (hS_ G x) = rk_ (fun y => hS_ G x y ∨ y = G o) := fun x h1 h2 => (rk_dep ⟨w, h1, rfl⟩ ⟨k, h2, rfl⟩ hcx hz).symm
  have hR : rk_ (hS_ G ((h ^^^ 2 ^ o) ||| 2 ^ w)) = rk_ (hS_ G (h ||| 2 ^ w)) := by
    rw [hrkx _ (hbw _) hbk', hrkx _ (hbw _) hbk]
    refine rk_cg (fun y => ?_)
    constructor
    · rintro (⟨j, hj, rfl⟩ | rfl)
      · by_cases q : j = o
        · rw [q]; exact Or.inr rfl
        · exact Or.inl ⟨j, by rw [← other j q]; exact hj, rfl⟩
      · exact Or.inr rfl
    · rintro (⟨j, hj, rfl⟩ | rfl)
      · by_cases q : j = o
        · rw [q]; exact Or.inr rfl
        · exact Or.inl ⟨j, by rw [other j q]; exact hj, rfl⟩
      · exact Or.inr rfl
  unfold Fp_
  rw [hC, hR]
theorem on_same {G : Nat → Wl_} {n d w m : Nat} {i : Int32} (hI : MI_ G n d) (hw : w < n) (hO : OF_ G w m n) :
    Si_ n (fun h => h.testBit w = false ∧ Fp_ G d i (h ||| 2 ^ w)) = Si_ n (fun h => (∀ k, h.testBit k = true → m.testBit k = true) ∧ Fp_ G d i (h ||| 2 ^ w)) := by
  have hn := hI.1
  obtain ⟨hm, hO⟩ := hO
  have main : ∀ j, j ≤ n → Si_ n (fun h => (∀ k, h.testBit k = true → k ≠ w ∧ (k < j ∨ m.testBit k = true)) ∧ Fp_ G d i (h ||| 2 ^ w)) = Si_ n (fun h => (∀ k, h.testBit k = true → k ≠ w ∧ m.testBit k = true) ∧ Fp_ G d i (h ||| 2 ^ w)) := by
    intro j
    induction j with
    | zero =>
      intro _
      refine Si_cg (fun h _ => and_congr_left (fun _ => ?_))
      exact ⟨fun q k hk => ⟨(q k hk).1, ((q k hk).2).resolve_left (Nat.not_lt_zero k)⟩, fun q k hk => ⟨(q k hk).1, Or.inr (q k hk).2⟩⟩
    | succ j ih =>
      intro hj
      rw [← ih (by omega)]
      by_cases c : j = w ∨ m.testBit j = true
      · refine Si_cg (fun h _ => and_congr_left (fun _ => ?_))
        constructor
        · intro q k hk
          refine ⟨(q k hk).1, ?_⟩
          rcases (q k hk).2 with z | z
          · rcases (show k < j ∨ k = j by omega) with y | rfl
            · exact Or.inl y
            · rcases c with rfl | c
              · exact absurd rfl (q k hk).1
              · exact Or.inr c
          · exact Or.inr z
        · intro q k hk
          refine ⟨(q k hk).1, ?_⟩
          rcases (q k hk).2 with z | z
          · exact Or.inl (by omega)
          · exact Or.inr z
      · have hjw : j ≠ w := fun q => c (Or.inl q)
        have hjm : ¬ m.testBit j = true := fun q => c (Or.inr q)
        have hno := fun q => hjm ((hO j (by omega)).mpr q)
        rw [T_rm (k := j) hn (U := fun k => k ≠ w ∧ (k < j + 1 ∨ m.testBit k = true)) (F := fun h => Fp_ G d i (h ||| 2 ^ w)) ?_]
        · refine Si_cg (fun h _ => and_congr_left (fun _ => ?_))
          constructor
          · intro q k hk
            obtain ⟨⟨q1, q2⟩, q3⟩ := q k hk
            refine ⟨q1, ?_⟩
            rcases q2 with z | z
            · exact Or.inl (by omega)
            · exact Or.inr z
          · intro q k hk
            obtain ⟨q1, q2⟩ := q k hk
            refine ⟨⟨q1, ?_⟩, ?_⟩
            · rcases q2 with z | z
              · exact Or.inl (by omega)
              · exact Or.inr z
            · rcases q2 with z | z
              · omega
              · exact fun y => hjm (by rw [← y]; exact z)
        · by_cases hmt : mt_ G w j
          · right
            have : ∃ o, o < j ∧ m.testBit o = true ∧ r4_ G (2 ^ w ||| 2 ^ j ||| 2 ^ o) = 2 := by
              refine Classical.byContradiction fun q => hno ⟨hjw, hmt, fun o ho hmo h4 => q ⟨o, ho, hmo, h4⟩⟩
            obtain ⟨o, ho, hmo, h4⟩ := this
            have how : o ≠ w := ((hO o (by omega)).mp hmo).1
            exact ⟨o, by omega, by omega, ⟨how, Or.inr hmo⟩, fun h _ hk => on_flip hmt h4 hk (by omega) how⟩
          · left
            intro h _ _ hk hF
            apply hmt
            refine mt_not hI hw (by omega) hjw ?_
            obtain ⟨⟨p, hp⟩, _⟩ := hF
            refine ⟨p, fun k' hk' => hp k' ?_⟩
            rw [two_b] at hk'
            simp at hk'
            rcases hk' with rfl | rfl
            · rw [fb_bit_set]; simp
            · rw [fb_bit_set, hk]; rfl
  have e1 : Si_ n (fun h => h.testBit w = false ∧ Fp_ G d i (h ||| 2 ^ w)) = Si_ n (fun h => (∀ k, h.testBit k = true → k ≠ w ∧ (k < n ∨ m.testBit k = true)) ∧ Fp_ G d i (h ||| 2 ^ w)) := by
    refine Si_cg (fun h hh => and_congr_left (fun _ => ?_))
    constructor
    · intro q k hk
      exact ⟨fun z => (by rw [z, q] at hk; cases hk), Or.inl (lt_bit hh hk)⟩
    · intro q
      cases e : h.testBit w with
      | false => rfl
      | true => exact absurd rfl (q w e).1
  rw [e1, main n (Nat.le_refl n)]
  refine Si_cg (fun h _ => and_congr_left (fun _ => ?_))
  exact ⟨fun q k hk => (q k hk).2, fun q k hk => ⟨((hO k (lt_bit hm (q k hk))).mp (q k hk)).1, q k hk⟩⟩
theorem on_diff {n d w : Nat} {G : Nat → Wl_} {i : Int32} (hn : n ≤ 8) (hw : w < n) : Si_ n (fun h => Fp_ G d i h ∧ h.testBit w = false) - Si_ n (Fp_ G d i) = Si_ n (fun h => h.testBit w = false ∧ Fp_ G d i (h ||| 2 ^ w)) := by
  rw [Si_split n (Fp_ G d i) (fun h => h.testBit w = false)]
  have key : Si_ n (fun h => Fp_ G d i (h ||| 2 ^ w)) = 0 := by
    refine Si_inv hn hw (fun h _ => ?_)
    have : (h ^^^ 2 ^ w) ||| 2 ^ w = h ||| 2 ^ w := by
      apply Nat.eq_of_testBit_eq
      intro j
      rw [fb_bit_set, fb_bit_set, fb_bit_flip]
      by_cases q : j = w <;> simp [q]
    rw [this]
  rw [Si_split n (fun h => Fp_ G d i (h ||| 2 ^ w)) (fun h => h.testBit w = false)] at key
  have a : Si_ n (fun h => Fp_ G d i (h ||| 2 ^ w) ∧ h.testBit w = false) = Si_ n (fun h => h.testBit w = false ∧ Fp_ G d i (h ||| 2 ^ w)) := Si_cg (fun h _ => and_comm)
  have b : Si_ n (fun h => Fp_ G d i (h ||| 2 ^ w) ∧ ¬ h.testBit w = false) = Si_ n (fun h => Fp_ G d i h ∧ ¬ h.testBit w = false) := by
    refine Si_cg (fun h _ => and_congr_left (fun q => ?_))
    have : h ||| 2 ^ w = h := by
      apply Nat.eq_of_testBit_eq
      intro j
      rw [fb_bit_set]
      by_cases z : j = w
      · subst z
        cases e : h.testBit j with
        | false => exact absurd e q
        | true => rfl
      · simp [z]
    rw [this]
  rw [a, b] at key
  omega
noncomputable def vN_ (G : Nat → Wl_) (n d : Nat) (w i : Int32) : Int32 := ci2_ (∃ k, k < n ∧ w = nI k) (iI_ (Si_ n (fun h => h.testBit w.toNatClampNeg = false ∧ Fp_ G d i (h ||| 2 ^ w.toNatClampNeg)))) 0
section ONC
variable {va vb vc ve vth : Nat → Int32} {n d : Nat}
theorem c_on (hP : PI_ (gC_ va vb vc ve) n) (hT : TH_ vth) {u : CT_} (hu : cI_ (gC_ va vb vc ve) n d u) (w i : Int32) : ∃ u' : CT_, fX5_on (nI d) (nI n) u.1 u.2.1 u.2.2.1 va vb vc ve vth u.2.2.2.1 u.2.2.2.2.1 u.2.2.2.2.2.1 u.2.2.2.2.2.2.1 u.2.2.2.2.2.2.2.1 u.2.2.2.2.2.2.2.2.1 u.2.2.2.2.2.2.2.2.2.1 u.2.2.2.2.2.2.2.2.2.2.1 u.2.2.2.2.2.2.2.2.2.2.2.1 u.2.2.2.2.2.2.2.2.2.2.2.2.1 u.2.2.2.2.2.2.2.2.2.2.2.2.2.1 u.2.2.2.2.2.2.2.2.2.2.2.2.2.2.1 u.2.2.2.2.2.2.2.2.2.2.2.2.2.2.2.1 u.2.2.2.2.2.2.2.2.2.2.2.2.2.2.2.2.1 u.2.2.2.2.2.2.2.2.2.2.2.2.2.2.2.2.2.1 u.2.2.2.2.2.2.2.2.2.2.2.2.2.2.2.2.2.2.1 u.2.2.2.2.2.2.2.2.2.2.2.2.2.2.2.2.2.2.2.1 u.2.2.2.2.2.2.2.2.2.2.2.2.2.2.2.2.2.2.2.2.1 u.2.2.2.2.2.2.2.2.2.2.2.2.2.2.2.2.2.2.2.2.2.1 u.2.2.2.2.2.2.2.2.2.2.2.2.2.2.2.2.2.2.2.2.2.2.1 u.2.2.2.2.2.2.2.2.2.2.2.2.2.2.2.2.2.2.2.2.2.2.2.1 u.2.2.2.2.2.2.2.2.2.2.2.2.2.2.2.2.2.2.2.2.2.2.2.2.1 u.2.2.2.2.2.2.2.2.2.2.2.2.2.2.2.2.2.2.2.2.2.2.2.2.2 w i = some (vN_ (gC_ va vb vc ve) n d w i, u') ∧ cI_ (gC_ va vb vc ve) n d u' := by
  unfold fX5_on vN_
  have hn := hP.1
  obtain ⟨x, e1, hy⟩ := f_holds (p := w) hn
  rw [bind_yes e1]
  rcases hy with ⟨rfl, hk⟩ | ⟨rfl, hk⟩
  · rw [if_neg (by decide), ci2_t hk]
    obtain ⟨k, hk, rfl⟩ := hk
    obtain ⟨u', e, hF⟩ := f_freshCut hP hT hu
    obtain ⟨h5, h6, fo, li, h7, h8, hC⟩ := hF
    rw [bind_yes e, bind_yes (f_factorW hn hC i hk), bind_yes (f_factor0 hn hC i), nI_clamp (by omega), ← on_diff hn hk]
    unfold vP_
    rw [iI_sub]
    exact ⟨u', rfl, Or.inr ⟨h5, h6, fo, li, h7, h8, hC⟩⟩
  · rw [if_pos rfl, ci2_f hk]
    exact ⟨u, rfl, hu⟩
end ONC
section ONM
variable {wl : Nat → Int32} {n d : Nat}
theorem m_isNew (hI : MI_ (gM_ wl) n d) {w k m : Nat} (hw : w < n) (hk : k < n) (hm : m < 2 ^ k) (t : Nat → Int64) :
    ∃ j x t', lp_ (fun (st : (Int32 × Int32 × (Nat → Int64))) => fX6_on_L78 (nI k) (nI m) (nI n) wl (nI w) st.1 st.2.1 st.2.2) fu_ ((0 : Int32), (1 : Int32), t) = some (j, x, t') ∧ yn_ x (∀ o, o < k → m.testBit o = true → r4_ (gM_ wl) (2 ^ w ||| 2 ^ k ||| 2 ^ o) ≠ 2) := by
  obtain ⟨hn, hd1, hd, hb, hnv, hz, _⟩ := hI
  have h2k : 2 ^ k ≤ 256 := Nat.pow_le_pow_right (n := 2) (j := 8) (by decide) (by omega)
  have hlp := lp_for (body := fun (st : (Int32 × Int32 × (Nat → Int64))) => fX6_on_L78 (nI k) (nI m) (nI n) wl (nI w) st.1 st.2.1 st.2.2)
    (fun κ st => st.1 = nI κ ∧ yn_ st.2.1 (∀ o, o < κ → m.testBit o = true → r4_ (gM_ wl) (2 ^ w ||| 2 ^ k ||| 2 ^ o) ≠ 2))
    (fun st => yn_ st.2.1 (∀ o, o < k → m.testBit o = true → r4_ (gM_ wl) (2 ^ w ||| 2 ^ k ||| 2 ^ o) ≠ 2)) k (by omega) (s := ((0 : Int32), (1 : Int32), t)) ⟨rfl, Or.inl ⟨rfl, fun o ho => absurd ho (Nat.not_lt_zero o)⟩⟩ ?_ ?_
  · obtain ⟨⟨j, x, t'⟩, e1, e2⟩ := hlp
    exact ⟨j, x, t', e1, e2⟩
  · rintro κ ⟨j, x, t1⟩ hκ ⟨e1, e2⟩
    dsimp only at e1 e2 ⊢
    subst e1
    left
    unfold fX6_on_L78
    rw [if_neg (nI_ge hκ (by omega))]
    have hbt := bit_t1 (h := m) (k := κ) (by omega) (by omega)
    cases e : m.testBit κ with
    | false =>
      rw [if_neg (fun q => by rw [hbt.mp q] at e; cases e)]
      refine ⟨_, rfl, nI_1 κ, yn_cg e2 ⟨fun q o ho hmo => ?_, fun q o ho => q o (by omega)⟩⟩
      rcases (show o < κ ∨ o = κ by omega) with c | rfl
      · exact q o c hmo
      · rw [e] at hmo; cases hmo
    | true =>
      rw [if_pos (hbt.mpr e)]
      have hmask : (((1 : Int32) <<< (nI w &&& 31)) ||| ((1 : Int32) <<< (nI k &&& 31))) ||| ((1 : Int32) <<< (nI κ &&& 31)) = nI (2 ^ w ||| 2 ^ k ||| 2 ^ κ) := by rw [sh_1 w (by omega), sh_1 k (by omega), sh_1 κ (by omega), nI_or, nI_or]
      have hlt : 2 ^ w ||| 2 ^ k ||| 2 ^ κ < 2 ^ n := Nat.or_lt_two_pow (Nat.or_lt_two_pow (Nat.pow_lt_pow_right (by decide) hw) (Nat.pow_lt_pow_right (by decide) hk)) (Nat.pow_lt_pow_right (by decide) (by omega))
      obtain ⟨t2, e3⟩ := m_rank4 hn hb hnv hlt t1
      rw [hmask, bind_yes e3]
      dsimp only
      have l1 := iN_le (¬ hC_ (gM_ wl) (2 ^ w ||| 2 ^ k ||| 2 ^ κ))
      have l3 := rk_le3 (hS_ (gM_ wl) (2 ^ w ||| 2 ^ k ||| 2 ^ κ))
      have e4 : (nI (rk_ (hS_ (gM_ wl) (2 ^ w ||| 2 ^ k ||| 2 ^ κ)) + iN_ (¬ hC_ (gM_ wl) (2 ^ w ||| 2 ^ k ||| 2 ^ κ))) = (2 : Int32)) ↔ r4_ (gM_ wl) (2 ^ w ||| 2 ^ k ||| 2 ^ κ) = 2 := nI_eq (b := 2) (by omega) (by decide)
      by_cases c : r4_ (gM_ wl) (2 ^ w ||| 2 ^ k ||| 2 ^ κ) = 2
      · rw [if_pos (e4.mpr c)]
        exact ⟨_, rfl, nI_1 κ, Or.inr ⟨rfl, fun q => q κ (by omega) e c⟩⟩
      · rw [if_neg (fun q => c (e4.mp q))]
        refine ⟨_, rfl, nI_1 κ, yn_cg e2 ⟨fun q o ho hmo => ?_, fun q o ho => q o (by omega)⟩⟩
        rcases (show o < κ ∨ o = κ by omega) with y | rfl
        · exact q o y hmo
        · exact c
  · rintro ⟨j, x, t1⟩ ⟨e1, e2⟩
    dsimp only at e1 e2 ⊢
    subst e1
    unfold fX6_on_L78
    rw [if_pos (nI_le (Nat.le_refl k) (by omega))]
    exact ⟨_, rfl, e2⟩
theorem m_of (hI : MI_ (gM_ wl) n d) {w : Nat} (hw : w < n) (t : Nat → Int64) :
    ∃ j m t', lp_ (fun (st : (Int32 × Int32 × (Nat → Int64))) => fX6_on_L26 (nI n) (nI w) wl st.1 st.2.1 st.2.2) fu_ ((0 : Int32), (0 : Int32), t) = some (j, nI m, t') ∧ OF_ (gM_ wl) w m n := by
  have hI0 := hI
  obtain ⟨hn, hd1, hd, hb, hnv, hz, _⟩ := hI
  have hlp := lp_for (body := fun (st : (Int32 × Int32 × (Nat → Int64))) => fX6_on_L26 (nI n) (nI w) wl st.1 st.2.1 st.2.2)
    (fun κ st => st.1 = nI κ ∧ ∃ m, st.2.1 = nI m ∧ OF_ (gM_ wl) w m κ) (fun st => ∃ m, st.2.1 = nI m ∧ OF_ (gM_ wl) w m n) n (by omega) (s := ((0 : Int32), (0 : Int32), t)) ⟨rfl, 0, rfl, by decide, fun k hk => absurd hk (Nat.not_lt_zero k)⟩ ?_ ?_
  · obtain ⟨⟨j, x, t'⟩, e1, m, e2, e3⟩ := hlp
    dsimp only at e2
    subst e2
    exact ⟨j, m, t', e1, e3⟩
  · rintro κ ⟨j, x, t1⟩ hκ ⟨e1, m, e2, hm, hO⟩
    dsimp only at e1 e2 ⊢
    subst e1 e2
    left
    have h2κ : 2 ^ κ ≤ 256 := Nat.pow_le_pow_right (n := 2) (j := 8) (by decide) (by omega)
    -- the wall isn't taken
    have no : ¬ (κ ≠ w ∧ mt_ (gM_ wl) w κ ∧ ∀ o, o < κ → m.testBit o = true → r4_ (gM_ wl) (2 ^ w ||| 2 ^ κ ||| 2 ^ o) ≠ 2) → OF_ (gM_ wl) w m (κ + 1) := by
      intro q
      refine ⟨by rw [Nat.pow_succ]; omega, fun k hk => ?_⟩
      rcases (show k < κ ∨ k = κ by omega) with c | rfl
      · exact hO k c
      · rw [Nat.testBit_lt_two_pow hm]
        exact ⟨fun z => (by cases z), fun z => absurd z q⟩
    unfold fX6_on_L26
    rw [if_neg (nI_ge hκ (by omega))]
    by_cases hκw : κ = w
    · rw [if_pos (by rw [hκw]), nI_1]
      exact ⟨_, rfl, rfl, m, rfl, no (fun q => q.1 hκw)⟩
    · rw [if_neg (fun q => hκw ((nI_eq (by omega) (by omega)).mp q))]
      have hmask : ((1 : Int32) <<< (nI w &&& 31)) ||| ((1 : Int32) <<< (nI κ &&& 31)) = nI (2 ^ w ||| 2 ^ κ) := by rw [sh_1 w (by omega), sh_1 κ (by omega), nI_or]
      have hlt : 2 ^ w ||| 2 ^ κ < 2 ^ n := Nat.or_lt_two_pow (Nat.pow_lt_pow_right (by decide) hw) (Nat.pow_lt_pow_right (by decide) hκ)
      obtain ⟨t2, y, e3, hy⟩ := m_meets hn hb hnv hlt t1
      rw [hmask, bind_yes e3]
      dsimp only
      rcases hy with ⟨rfl, hc⟩ | ⟨rfl, hc⟩
      · obtain ⟨t3, e4⟩ := m_rank3 hn hb hnv hlt t2
        rw [if_neg (by decide), bind_yes e4]
        dsimp only
        have hmt := mt_not hI0 hw hκ hκw hc
        have l3 := rk_le3 (hS_ (gM_ wl) (2 ^ w ||| 2 ^ κ))
        rw [if_pos (show (2 : Int32) ≤ nI (rk_ (hS_ (gM_ wl) (2 ^ w ||| 2 ^ κ))) from nI_le (a := 2) hmt.2 (by omega))]
        obtain ⟨j2, z, t4, e5, hz5⟩ := m_isNew hI0 hw hκ hm t3
        rw [bind_yes e5]
        dsimp only
        rcases hz5 with ⟨rfl, hnew⟩ | ⟨rfl, hnew⟩
        · rw [if_neg (by decide), sh_1 κ (by omega), nI_or, or_add hm, nI_1]
          refine ⟨_, rfl, rfl, m + 2 ^ κ, rfl, by rw [Nat.pow_succ]; omega, fun k hk => ?_⟩
          rcases (show k < κ ∨ k = κ by omega) with c | rfl
          · rw [bit_more hm]
            have : ¬ k = κ := by omega
            simp only [this, decide_false, Bool.or_false]
            rw [hO k c]
            refine and_congr_right (fun _ => and_congr_right (fun _ => forall_congr' (fun o => forall_congr' (fun ho => ?_))))
            rw [bit_more hm]
            have : ¬ o = κ := by omega
            simp [this]
          · rw [bit_more hm]
            simp only [decide_true, Bool.or_true, true_iff]
            refine ⟨hκw, hmt, fun o ho hmo => hnew o ho ?_⟩
            rw [bit_more hm] at hmo
            have : ¬ o = k := by omega
            simpa [this] using hmo
        · rw [if_pos rfl, nI_1]
          exact ⟨_, rfl, rfl, m, rfl, no (fun q => hnew q.2.2)⟩
      · rw [if_pos rfl, nI_1]
        exact ⟨_, rfl, rfl, m, rfl, no (fun q => hc q.2.1.1)⟩
  · rintro ⟨j, x, t1⟩ ⟨e1, e2⟩
    dsimp only at e1 e2 ⊢
    subst e1
    unfold fX6_on_L26
    rw [if_pos (nI_le (Nat.le_refl n) (by omega))]
    exact ⟨_, rfl, e2⟩
theorem m_on (hI : MI_ (gM_ wl) n d) (t : Nat → Int64) (w i : Int32) : ∃ t', fX6_on (nI d) (nI n) wl t w i = some (vN_ (gM_ wl) n d w i, t') := by
  have hI0 := hI
  obtain ⟨hn, hd1, hd, hb, hnv, hz, _⟩ := hI
  have h2n : 2 ^ n ≤ 256 := Nat.pow_le_pow_right (n := 2) (j := 8) (by decide) hn
  unfold fX6_on vN_
  obtain ⟨x, e, hy⟩ := m_in hn w
  rw [bind_yes e]
  rcases hy with ⟨rfl, hk⟩ | ⟨rfl, hk⟩
  · rw [if_neg (by decide), ci2_t hk]
    obtain ⟨k, hk, rfl⟩ := hk
    obtain ⟨j, m, t1, e1, hO⟩ := m_of hI0 hk t
    rw [bind_yes e1, nI_clamp (by omega), on_same hI0 hk hO]
    have hlp := lp_for (body := fun (st : (Int32 × Int32 × (Nat → Int64))) => fX6_on_L151 (nI n) (j, nI m, t1) wl (nI k) (nI d) i st.1 st.2.1 st.2.2)
      (fun h st => st.1 = nI h ∧ st.2.1 = iI_ (fb_si (fun h => if pb_ ((∀ k, h.testBit k = true → m.testBit k = true) ∧ Fp_ (gM_ wl) d i (h ||| 2 ^ k)) = true then sg2_ h else 0) h))
      (fun st => st.2.1 = iI_ (Si_ n (fun h => (∀ k, h.testBit k = true → m.testBit k = true) ∧ Fp_ (gM_ wl) d i (h ||| 2 ^ k)))) (2 ^ n) (by omega) (s := ((0 : Int32), (0 : Int32), t1)) ⟨rfl, rfl⟩ ?_ ?_
    · obtain ⟨⟨j, x, t'⟩, e1, e2⟩ := hlp
      dsimp only at e2
      subst e2
      rw [bind_yes e1]
      exact ⟨t', rfl⟩
    · rintro h ⟨j, x, t1⟩ hh ⟨e1, e2⟩
      dsimp only at e1 e2 ⊢
      subst e1 e2
      left
      unfold fX6_on_L151
      dsimp only
      have hmask : nI h ||| ((1 : Int32) <<< (nI k &&& 31)) = nI (h ||| 2 ^ k) := by rw [sh_1 k (by omega), nI_or]
      have hlt : h ||| 2 ^ k < 2 ^ n := Nat.or_lt_two_pow hh (Nat.pow_lt_pow_right (by decide) hk)
      rw [hmask, sh_1 n (by omega), if_neg (nI_ge hh (by omega))]
      have h0 := andn_0 hh hO.1 hn
      by_cases q : ∀ k, h.testBit k = true → m.testBit k = true
      · rw [if_pos (h0.mpr q)]
        obtain ⟨t2, x, e3, hx⟩ := m_meets hn hb hnv hlt t1
        rw [bind_yes e3]
        dsimp only
        rcases hx with ⟨rfl, hc⟩ | ⟨rfl, hc⟩
        · obtain ⟨t3, e4⟩ := m_rank3 hn hb hnv hlt t2
          rw [if_neg (by decide), bind_yes e4]
          dsimp only
          by_cases w : nI d - nI (rk_ (hS_ (gM_ wl) (h ||| 2 ^ k))) = i
          · rw [if_pos w, bind_yes (m_odd (by omega)), iI_add]
            exact ⟨_, rfl, nI_1 h, by rw [fb_si_succ, if_pos (pb_t.mpr ⟨q, hc, w⟩)]⟩
          · rw [if_neg w]
            exact ⟨_, rfl, nI_1 h, by rw [fb_si_succ, if_neg (fun z => w (pb_t.mp z).2.2), Int.add_zero]⟩
        · rw [if_pos rfl]
          exact ⟨_, rfl, nI_1 h, by rw [fb_si_succ, if_neg (fun z => hc (pb_t.mp z).2.1), Int.add_zero]⟩
      · rw [if_neg (fun z => q (h0.mp z))]
        exact ⟨_, rfl, nI_1 h, by rw [fb_si_succ, if_neg (fun z => q (pb_t.mp z).1), Int.add_zero]⟩
    · rintro ⟨j, x, t1⟩ ⟨e1, e2⟩
      dsimp only at e1 e2 ⊢
      subst e1 e2
      unfold fX6_on_L151
      rw [sh_1 n (by omega), if_pos (nI_le (Nat.le_refl _) (by omega))]
      exact ⟨_, rfl, rfl⟩
  · rw [if_pos rfl, ci2_f hk]
    exact ⟨t, rfl⟩
end ONM
