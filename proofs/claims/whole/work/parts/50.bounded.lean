/-! bounded rooms -/
/-- a way goes on within a room -/
def Cn_ (G : Nat → Wl_) (n r : Nat) (v : V3_) : Prop := ∀ k, k < n → r1_ (decide (dg_ r k = 2)) (dr_ (G k) v)
def xc_ (j : Nat) (u : V3_) : Rat := if j = 0 then u.1 else if j = 1 then u.2.1 else u.2.2
def Op_ (G : Nat → Wl_) (n d r : Nat) : Prop := ∃ u, u ≠ o3_ ∧ (∀ j, j < 3 → d ≤ j → xc_ j u = 0) ∧ Cn_ G n r u
def BdR_ (G : Nat → Wl_) (n d r : Nat) : Prop := Ro_ G n r ∧ rk_ (hS_ G (2 ^ n - 1)) = d ∧ ¬ Op_ G n d r
def BdI_ (G : Nat → Wl_) (n d : Nat) (p : Int32) : Prop := ∃ r, p = nI r ∧ BdR_ G n d r
def aw_ (j : Nat) : Wl_ := if j = 0 then (1, 0, 0, 0) else if j = 1 then (0, 1, 0, 0) else (0, 0, 1, 0)
theorem dr_aw {j : Nat} (hj : j < 3) (u : V3_) : dr_ (aw_ j) u = xc_ j u := by
  rcases (show j = 0 ∨ j = 1 ∨ j = 2 by omega) with rfl | rfl | rfl
  · unfold aw_ xc_ dr_
    simp only [if_true]
    have : ((1 : Int) : Rat) = 1 := rfl
    have z : ((0 : Int) : Rat) = 0 := rfl
    rw [this, z]; grind
  · unfold aw_ xc_ dr_
    simp only [show ¬ (1 = 0) by decide, if_false, if_true]
    have : ((1 : Int) : Rat) = 1 := rfl
    have z : ((0 : Int) : Rat) = 0 := rfl
    rw [this, z]; grind
  · unfold aw_ xc_ dr_
    simp only [show ¬ (2 = 0) by decide, show ¬ (2 = 1) by decide, if_false]
    have : ((1 : Int) : Rat) = 1 := rfl
    have z : ((0 : Int) : Rat) = 0 := rfl
    rw [this, z]; grind
theorem nv_aw {j : Nat} (hj : j < 3) : nv_ (aw_ j) ≠ o3_ := by
  rcases (show j = 0 ∨ j = 1 ∨ j = 2 by omega) with rfl | rfl | rfl <;> (unfold nv_ aw_ o3_; decide +kernel)
def Lp_ (G : Nat → Wl_) (n d r : Nat) : List (Wl_ × Bool) := (List.range n).map (fun k => (G k, decide (dg_ r k = 2))) ++ ((List.range 3).filter (fun j => decide (d ≤ j))).flatMap (fun j => [(aw_ j, true), (aw_ j, false)])
theorem Lp_mem {G : Nat → Wl_} {n d r : Nat} {x : Wl_ × Bool} : x ∈ Lp_ G n d r ↔ (∃ k, k < n ∧ x = (G k, decide (dg_ r k = 2))) ∨ ∃ j, j < 3 ∧ d ≤ j ∧ (x = (aw_ j, true) ∨ x = (aw_ j, false)) := by
  unfold Lp_
  rw [List.mem_append, List.mem_map, List.mem_flatMap]
  constructor
  · rintro (⟨k, hk, rfl⟩ | ⟨j, hj, hx⟩)
    · exact Or.inl ⟨k, List.mem_range.mp hk, rfl⟩
    · rw [List.mem_filter, List.mem_range] at hj
      simp only [List.mem_cons, List.not_mem_nil, or_false] at hx
      exact Or.inr ⟨j, hj.1, of_decide_eq_true hj.2, hx⟩
  · rintro (⟨k, hk, rfl⟩ | ⟨j, hj, hdj, hx⟩)
    · exact Or.inl ⟨k, List.mem_range.mpr hk, rfl⟩
    · refine Or.inr ⟨j, ?_, ?_⟩
      · rw [List.mem_filter, List.mem_range]; exact ⟨hj, decide_eq_true hdj⟩
      · simp only [List.mem_cons, List.not_mem_nil, or_false]; exact hx
theorem rB_Lp {G : Nat → Wl_} {n d r : Nat} {u : V3_} : rB_ (Lp_ G n d r) u ↔ (∀ j, j < 3 → d ≤ j → xc_ j u = 0) ∧ Cn_ G n r u := by
  constructor
  · intro h
    refine ⟨fun j hj hdj => ?_, fun k hk => h _ (Lp_mem.mpr (Or.inl ⟨k, hk, rfl⟩))⟩
    have a := h _ (Lp_mem.mpr (Or.inr ⟨j, hj, hdj, Or.inl rfl⟩))
    have b := h _ (Lp_mem.mpr (Or.inr ⟨j, hj, hdj, Or.inr rfl⟩))
    dsimp only at a b
    rw [r1_t, dr_aw hj] at a
    rw [r1_f, dr_aw hj] at b
    grind
  · rintro ⟨h1, h2⟩ x hx
    rcases Lp_mem.mp hx with ⟨k, hk, rfl⟩ | ⟨j, hj, hdj, rfl | rfl⟩
    · exact h2 k hk
    · dsimp only
      rw [r1_t, dr_aw hj, h1 j hj hdj]; grind
    · dsimp only
      rw [r1_f, dr_aw hj, h1 j hj hdj]; grind
section BM
variable {G : Nat → Wl_} {n d r : Nat}
theorem ker_0 (hI : MI_ G n d) (hrk : rk_ (hS_ G (2 ^ n - 1)) = d) {u : V3_} (h1 : ∀ j, j < 3 → d ≤ j → xc_ j u = 0) (h2 : ∀ k, k < n → dr_ (G k) u = 0) : u = o3_ := by
  obtain ⟨hn, hd1, hd3, hb, hnv, hz, _⟩ := hI
  have on : ∀ x, hS_ G (2 ^ n - 1) x → ∃ k, k < n ∧ x = G k := fun x hx => wl_mem.mp (hS_all.mp hx)
  rcases (show d = 3 ∨ d = 2 ∨ d = 1 by omega) with rfl | rfl | rfl
  · obtain ⟨x, y, z, hx, hy, hz', hd⟩ := rk_inv3 hrk
    obtain ⟨a, ha, rfl⟩ := on x hx
    obtain ⟨b, hb', rfl⟩ := on y hy
    obtain ⟨c, hc, rfl⟩ := on z hz'
    obtain ⟨t, rfl⟩ := along_cx (h2 a ha) (h2 b hb') (fun q => hd (dt_0 q _))
    have h4 := h2 c hc
    rw [dr_mu] at h4
    have t0 : t = 0 := (Rat.mul_eq_zero.mp h4).resolve_right hd
    rw [t0]
    unfold mu_ o3_
    simp only [Prod.mk.injEq]
    refine ⟨?_, ?_, ?_⟩ <;> grind
  · obtain ⟨⟨x, y, hx, hy, hc⟩, _⟩ := rk_inv2 hrk
    obtain ⟨a, ha, rfl⟩ := on x hx
    obtain ⟨b, hb', rfl⟩ := on y hy
    obtain ⟨t, rfl⟩ := along_cx (h2 a ha) (h2 b hb') hc
    have za := hz a ha 2 (by decide) (by decide)
    have zb := hz b hb' 2 (by decide) (by decide)
    simp only [cf_] at za zb
    simp at za zb
    have h4 := h1 2 (by decide) (by decide)
    unfold xc_ at h4
    simp only [show ¬ (2 = 0) by decide, show ¬ (2 = 1) by decide, if_false, mu_] at h4
    have hc3 : (cx_ (G a) (G b)).2.2 ≠ 0 := by
      intro q
      apply hc
      have e1 : (cx_ (G a) (G b)).1 = 0 := by simp only [cx_, za, zb]; grind
      have e2 : (cx_ (G a) (G b)).2.1 = 0 := by simp only [cx_, za, zb]; grind
      exact Prod.ext e1 (Prod.ext e2 q)
    have t0 : t = 0 := (Rat.mul_eq_zero.mp h4).resolve_right hc3
    rw [t0]
    unfold mu_ o3_
    simp only [Prod.mk.injEq]
    refine ⟨?_, ?_, ?_⟩ <;> grind
  · obtain ⟨⟨x, hx⟩, _⟩ := rk_inv1 hrk
    obtain ⟨a, ha, rfl⟩ := on x hx
    have z2 := hz a ha 2 (by decide) (by decide)
    have z1 := hz a ha 1 (by decide) (by decide)
    simp only [cf_] at z1 z2
    simp at z1 z2
    have ha0 : (G a).1 ≠ 0 := fun q => nv_int (hnv a ha) ⟨q, z1, z2⟩
    have g1 := h1 1 (by decide) (by decide)
    have g2 := h1 2 (by decide) (by decide)
    unfold xc_ at g1 g2
    simp only [show ¬ (1 = 0) by decide, show ¬ (2 = 0) by decide, show ¬ (2 = 1) by decide, if_false, if_true] at g1 g2
    have h4 := h2 a ha
    unfold dr_ at h4
    rw [z1, z2, g1, g2] at h4
    have h5 : ((G a).1 : Rat) * u.1 = 0 := by grind
    have h6 : u.1 = 0 := (Rat.mul_eq_zero.mp h5).resolve_left (fun q => ha0 (rI_zero.mp q))
    exact Prod.ext h6 (Prod.ext g1 g2)
/-- an open room leads on along a line of two planes -/
theorem open_line (hI : MI_ G n d) (hrk : rk_ (hS_ G (2 ^ n - 1)) = d) (hO : Op_ G n d r) :
    ∃ x y, (x ∈ wl_ G n ∨ ∃ j, j < 3 ∧ d ≤ j ∧ x = aw_ j) ∧ (y ∈ wl_ G n ∨ ∃ j, j < 3 ∧ d ≤ j ∧ y = aw_ j) ∧ cx_ x y ≠ o3_ ∧ (∀ j, j < 3 → d ≤ j → xc_ j (cx_ x y) = 0) ∧ (Cn_ G n r (cx_ x y) ∨ Cn_ G n r (mu_ (-1) (cx_ x y))) := by
  obtain ⟨u, hu, h1, h2⟩ := hO
  have hmem : ∀ x ∈ Lp_ G n d r, x.1 ∈ wl_ G n ∨ ∃ j, j < 3 ∧ d ≤ j ∧ x.1 = aw_ j := by
    intro x hx
    rcases Lp_mem.mp hx with ⟨k, hk, rfl⟩ | ⟨j, hj, hdj, rfl | rfl⟩
    · exact Or.inl (wl_get hk)
    · exact Or.inr ⟨j, hj, hdj, rfl⟩
    · exact Or.inr ⟨j, hj, hdj, rfl⟩
  obtain ⟨x, hx, y, hy, hc, hr⟩ := ray_all (L := Lp_ G n d r) (fun x hx => by
    rcases hmem x hx with q | ⟨j, hj, _, q⟩
    · obtain ⟨k, hk, e⟩ := wl_mem.mp q
      rw [e]; exact hI.2.2.2.2.1 k hk
    · rw [q]; exact nv_aw hj) (fun v hv => ker_0 hI hrk (fun j hj hdj => by
      have := hv _ (Lp_mem.mpr (Or.inr ⟨j, hj, hdj, Or.inl rfl⟩))
      dsimp only at this
      rw [dr_aw hj] at this
      exact this) (fun k hk => hv _ (Lp_mem.mpr (Or.inl ⟨k, hk, rfl⟩)))) ⟨u, hu, rB_Lp.mpr ⟨h1, h2⟩⟩
  refine ⟨x.1, y.1, hmem x hx, hmem y hy, hc, ?_, ?_⟩
  · rcases hr with q | q
    · exact (rB_Lp.mp q).1
    · intro j hj hdj
      have := (rB_Lp.mp q).1 j hj hdj
      have e : xc_ j (mu_ (-1) (cx_ x.1 y.1)) = - xc_ j (cx_ x.1 y.1) := by
        unfold xc_ mu_
        split
        · grind
        · split <;> grind
      rw [e] at this
      grind
  · rcases hr with q | q
    · exact Or.inl (rB_Lp.mp q).2
    · exact Or.inr (rB_Lp.mp q).2
theorem Cn_cg {v w : V3_} (h : ∀ k, k < n → dr_ (G k) v = dr_ (G k) w) : Cn_ G n r v ↔ Cn_ G n r w := by
  unfold Cn_
  exact forall_congr' (fun k => forall_congr' (fun hk => by rw [h k hk]))
/-- a way that isn't along all walls opens a room within the numbers of space -/
theorem open_of (hI : MI_ G n d) {v : V3_} (hv : ∃ k, k < n ∧ dr_ (G k) v ≠ 0) (hC : Cn_ G n r v) : Op_ G n d r := by
  obtain ⟨hn, hd1, hd3, hb, hnv, hz, _⟩ := hI
  -- only the numbers that space has
  obtain ⟨u, hu⟩ : ∃ u : V3_, u = (v.1, if d ≤ 1 then 0 else v.2.1, if d ≤ 2 then 0 else v.2.2) := ⟨_, rfl⟩
  have he : ∀ k, k < n → dr_ (G k) u = dr_ (G k) v := by
    intro k hk
    unfold dr_
    rw [hu]
    dsimp only
    have z1 := hz k hk 1 (by decide)
    have z2 := hz k hk 2 (by decide)
    simp only [cf_] at z1 z2
    simp at z1 z2
    by_cases q1 : d ≤ 1
    · rw [if_pos q1, if_pos (by omega), z1 q1, z2 (by omega)]
      have z : ((0 : Int) : Rat) = 0 := rfl
      rw [z]; grind
    · rw [if_neg q1]
      by_cases q2 : d ≤ 2
      · rw [if_pos q2, z2 q2]
        have z : ((0 : Int) : Rat) = 0 := rfl
        rw [z]; grind
      · rw [if_neg q2]
  refine ⟨u, ?_, ?_, (Cn_cg he).mpr hC⟩
  · intro q
    obtain ⟨k, hk, hd⟩ := hv
    apply hd
    rw [← he k hk, q, dr_o]
  · intro j hj hdj
    rw [hu]
    rcases (show j = 1 ∨ j = 2 by omega) with rfl | rfl
    · unfold xc_
      simp only [show ¬ (1 = 0) by decide, if_false, if_true]
      rw [if_pos hdj]
    · unfold xc_
      simp only [show ¬ (2 = 0) by decide, show ¬ (2 = 1) by decide, if_false]
      rw [if_pos hdj]
end BM
section BC
variable {G : Nat → Wl_} {n d fo li r : Nat} {rk cm mk ro wi la lb : Nat → Int32}
/-- the class's test at one line -/
theorem line_test (hn : n ≤ 8) (v : V3_) : ((nI (lm_ G n v 2) &&& (nI (bn_ (fun k => decide (dg_ r k = 2)) n) ^^^ (-1 : Int32)) = 0) ∧ (nI (lm_ G n v 0) &&& nI (bn_ (fun k => decide (dg_ r k = 2)) n) = 0)) ↔ Cn_ G n r v := by
  unfold lm_
  rw [bn_andn, nI_and, bn_and]
  have a1 := bn_lt8 (fun k => decide (sg_ (dr_ (G k) v) = 2) && !decide (dg_ r k = 2)) hn
  have a2 := bn_lt8 (fun k => decide (sg_ (dr_ (G k) v) = 0) && decide (dg_ r k = 2)) hn
  have e1 : (nI (bn_ (fun k => decide (sg_ (dr_ (G k) v) = 2) && !decide (dg_ r k = 2)) n) = 0) ↔ _ := (nI_eq (b := 0) (by omega) (by decide)).trans bn_zero
  have e2 : (nI (bn_ (fun k => decide (sg_ (dr_ (G k) v) = 0) && decide (dg_ r k = 2)) n) = 0) ↔ _ := (nI_eq (b := 0) (by omega) (by decide)).trans bn_zero
  rw [e1, e2]
  unfold Cn_
  constructor
  · rintro ⟨h1, h2⟩ k hk
    have b1 := h1 k hk
    have b2 := h2 k hk
    by_cases q : dg_ r k = 2
    · rw [decide_eq_true q, r1_t]
      rw [decide_eq_true q] at b2
      simp at b2
      refine Classical.byContradiction fun w => b2 (sg_neg (by grind))
    · rw [decide_eq_false q, r1_f]
      rw [decide_eq_false q] at b1
      simp at b1
      refine Classical.byContradiction fun w => b1 (sg_pos (by grind))
  · intro h
    refine ⟨fun k hk => ?_, fun k hk => ?_⟩
    · have := h k hk
      by_cases q : dg_ r k = 2
      · simp [q]
      · rw [decide_eq_false q, r1_f] at this
        have : ¬ sg_ (dr_ (G k) v) = 2 := fun w => by have := sg_eq2.mp w; grind
        simp [this]
    · have := h k hk
      by_cases q : dg_ r k = 2
      · rw [decide_eq_true q, r1_t] at this
        have : ¬ sg_ (dr_ (G k) v) = 0 := fun w => by have := sg_eq0.mp w; grind
        simp [this]
      · simp [q]
theorem lm_m1 (v : V3_) : lm_ G n (mu_ (-1) v) 2 = lm_ G n v 0 ∧ lm_ G n (mu_ (-1) v) 0 = lm_ G n v 2 := by
  unfold lm_
  constructor <;>
  · refine bn_cg (fun k _ => ?_)
    rw [dr_mu, sg_m1]
    have := sg_le (dr_ (G k) v)
    generalize sg_ (dr_ (G k) v) = g at *
    rcases (show g = 0 ∨ g = 1 ∨ g = 2 by omega) with rfl | rfl | rfl <;> rfl
theorem f_isOpen (hI : MI_ G n d) (hA : AX_ G) (hrk : rk_ (hS_ G (2 ^ n - 1)) = d) (hC : CU_ G n d fo li rk cm mk ro wi la lb) : ∃ x, fX1_isOpen (nI li) la lb (nI (bn_ (fun k => decide (dg_ r k = 2)) n)) = some x ∧ yn_ x (Op_ G n d r) := by
  have hn := hI.1
  obtain ⟨_, _, _, _, _, _, hli, hL, hLc⟩ := hC
  have hlp := lp_for (body := fun (st : Int32) => fX1_isOpen_L2 (nI li) la (nI (bn_ (fun k => decide (dg_ r k = 2)) n)) lb st)
    (fun l st => st = nI l ∧ ∀ l', l' < l → ∀ v, la l' = nI (lm_ G n v 2) → lb l' = nI (lm_ G n v 0) → ¬ (Cn_ G n r v ∨ Cn_ G n r (mu_ (-1) v)))
    (fun u => ∃ x, Sum.elim (fun (x6 : Int32) => some (0 : Int32)) (fun y => some y) u = some x ∧ yn_ x (Op_ G n d r)) li (by omega) (s := (0 : Int32)) ⟨rfl, fun l' h => absurd h (Nat.not_lt_zero l')⟩ ?_ ?_
  · unfold fX1_isOpen
    obtain ⟨u, e1, x, e2, e3⟩ := hlp
    rw [bind_yes e1]
    exact ⟨x, e2, e3⟩
  · rintro l st hl ⟨rfl, h2⟩
    obtain ⟨i1, j1, _, _, _, hw, hla, hlb⟩ := hL l hl
    generalize hv : cx_ (G (ix_ n i1)) (G (ix_ n j1)) = v at hla hlb hw
    have hf := line_test (G := G) (r := r) hn v
    have hb := line_test (G := G) (r := r) hn (mu_ (-1) v)
    rw [(lm_m1 v).1, (lm_m1 v).2, ← hlb, ← hla] at hb
    rw [← hlb, ← hla] at hf
    have hR : in_R (nI l) 55 := in_R_nI (by omega) (by decide)
    have yes : (Cn_ G n r v ∨ Cn_ G n r (mu_ (-1) v)) → Op_ G n d r := by
      rintro (q | q)
      · exact open_of hI hw q
      · refine open_of hI ?_ q
        obtain ⟨k, hk, hd⟩ := hw
        exact ⟨k, hk, by rw [dr_mu]; grind⟩
    have no : ¬ (Cn_ G n r v ∨ Cn_ G n r (mu_ (-1) v)) → ∀ l', l' < l + 1 → ∀ w, la l' = nI (lm_ G n w 2) → lb l' = nI (lm_ G n w 0) → ¬ (Cn_ G n r w ∨ Cn_ G n r (mu_ (-1) w)) := by
      intro q l' hl' w w2 w0
      rcases (show l' < l ∨ l' = l by omega) with c | rfl
      · exact h2 l' c w w2 w0
      · have hs : ∀ k, k < n → sg_ (dr_ (G k) w) = sg_ (dr_ (G k) v) := fun k hk => lm_sg hn (w2.symm.trans hla) (w0.symm.trans hlb) hk
        have e : ∀ x y : V3_, (∀ k, k < n → sg_ (dr_ (G k) x) = sg_ (dr_ (G k) y)) → Cn_ G n r x → Cn_ G n r y := by
          intro x y hxy hx k hk
          have a := hx k hk
          have b := hxy k hk
          by_cases z : dg_ r k = 2
          · rw [decide_eq_true z, r1_t] at a ⊢
            refine Classical.byContradiction fun c => ?_
            rw [sg_neg (show dr_ (G k) y < 0 by grind), sg_eq0] at b
            grind
          · rw [decide_eq_false z, r1_f] at a ⊢
            refine Classical.byContradiction fun c => ?_
            rw [sg_pos (show 0 < dr_ (G k) y by grind), sg_eq2] at b
            grind
        rintro (z | z)
        · exact q (Or.inl (e w v hs z))
        · exact q (Or.inr (e (mu_ (-1) w) (mu_ (-1) v) (fun k hk => by rw [dr_mu, dr_mu, sg_m1, sg_m1, hs k hk]) z))
    unfold fX1_isOpen_L2
    rw [if_neg (nI_ge hl (by omega))]
    simp only [ck_yes hR, nI_clamp (show l < 2 ^ 31 by omega)]
    have good : (Cn_ G n r v ∨ Cn_ G n r (mu_ (-1) v)) → (∃ s', (some (Sum.inr (Sum.inr (1 : Int32))) : Option (Int32 ⊕ (Int32 ⊕ Int32))) = some (Sum.inl s') ∧ s' = nI (l + 1) ∧ ∀ l', l' < l + 1 → ∀ v, la l' = nI (lm_ G n v 2) → lb l' = nI (lm_ G n v 0) → ¬ (Cn_ G n r v ∨ Cn_ G n r (mu_ (-1) v))) ∨ ∃ u, (some (Sum.inr (Sum.inr (1 : Int32))) : Option (Int32 ⊕ (Int32 ⊕ Int32))) = some (Sum.inr u) ∧ ∃ x, Sum.elim (fun (x6 : Int32) => some (0 : Int32)) (fun y => some y) u = some x ∧ yn_ x (Op_ G n d r) :=
      fun q => Or.inr ⟨_, rfl, 1, rfl, Or.inl ⟨rfl, yes q⟩⟩
    have bad : ¬ (Cn_ G n r v ∨ Cn_ G n r (mu_ (-1) v)) → (∃ s', (some (Sum.inl (nI l + 1)) : Option (Int32 ⊕ (Int32 ⊕ Int32))) = some (Sum.inl s') ∧ s' = nI (l + 1) ∧ ∀ l', l' < l + 1 → ∀ v, la l' = nI (lm_ G n v 2) → lb l' = nI (lm_ G n v 0) → ¬ (Cn_ G n r v ∨ Cn_ G n r (mu_ (-1) v))) ∨ ∃ u, (some (Sum.inl (nI l + 1)) : Option (Int32 ⊕ (Int32 ⊕ Int32))) = some (Sum.inr u) ∧ ∃ x, Sum.elim (fun (x6 : Int32) => some (0 : Int32)) (fun y => some y) u = some x ∧ yn_ x (Op_ G n d r) :=
      fun q => Or.inl ⟨_, rfl, nI_1 l, no q⟩
    by_cases c1 : la l &&& (nI (bn_ (fun k => decide (dg_ r k = 2)) n) ^^^ (-1 : Int32)) = 0 <;> by_cases c2 : lb l &&& nI (bn_ (fun k => decide (dg_ r k = 2)) n) = 0 <;> by_cases c3 : lb l &&& (nI (bn_ (fun k => decide (dg_ r k = 2)) n) ^^^ (-1 : Int32)) = 0 <;> by_cases c4 : la l &&& nI (bn_ (fun k => decide (dg_ r k = 2)) n) = 0 <;> simp only [c1, c2, c3, c4, if_true, if_false, Option.bind_some, show ¬ ((1 : Int32) = 0) by decide] <;>
      first
      | exact good (Or.inl (hf.mp ⟨c1, c2⟩))
      | exact good (Or.inr (hb.mp ⟨c3, c4⟩))
      | exact bad (fun q => by
          rcases q with q | q
          · obtain ⟨z1, z2⟩ := hf.mpr q
            first
            | exact c1 z1
            | exact c2 z2
          · obtain ⟨z1, z2⟩ := hb.mpr q
            first
            | exact c3 z1
            | exact c4 z2)
  · rintro st ⟨rfl, h2⟩
    unfold fX1_isOpen_L2
    rw [if_pos (nI_le (Nat.le_refl _) (by omega))]
    refine ⟨_, rfl, 0, rfl, Or.inr ⟨rfl, fun hO => ?_⟩⟩
    obtain ⟨x, y, hx, hy, hc, hcoord, hcone⟩ := open_line hI hrk hO
    -- both are among the planes
    have plane : ∀ z, (z ∈ wl_ G n ∨ ∃ j, j < 3 ∧ d ≤ j ∧ z = aw_ j) → ∃ i, i < mM_ G n ∧ z = G (ix_ n i) := by
      rintro z (hz | ⟨j, hj, hdj, rfl⟩)
      · obtain ⟨k, hk, rfl⟩ := wl_mem.mp hz
        refine ⟨k, ?_, by rw [ix_, if_pos hk]⟩
        unfold mM_; split <;> omega
      · have hne : ¬ rk_ (hS_ G (2 ^ n - 1)) = 3 := by omega
        refine ⟨n + j, ?_, ?_⟩
        · unfold mM_; rw [if_neg hne]; omega
        · rw [ix_, if_neg (by omega), show n + j - n = j by omega]
          rcases (show j = 0 ∨ j = 1 ∨ j = 2 by omega) with rfl | rfl | rfl
          · exact hA.1.symm
          · exact hA.2.1.symm
          · exact hA.2.2.symm
    obtain ⟨i, hi, rfl⟩ := plane x hx
    obtain ⟨j, hj, rfl⟩ := plane y hy
    have hnot : ∃ k, k < n ∧ dr_ (G k) (cx_ (G (ix_ n i)) (G (ix_ n j))) ≠ 0 := by
      refine Classical.byContradiction fun q => hc (ker_0 hI hrk hcoord (fun k hk => Classical.byContradiction fun w => q ⟨k, hk, w⟩))
    rcases (show i < j ∨ i = j ∨ j < i by omega) with q | rfl | q
    · obtain ⟨l, hl, l1, l2⟩ := hLc i j q hj hc hnot
      exact h2 l hl _ l1 l2 hcone
    · exact hc (cx_self _)
    · have hanti : ∀ k, k < n → dr_ (G k) (cx_ (G (ix_ n j)) (G (ix_ n i))) = dr_ (G k) (mu_ (-1) (cx_ (G (ix_ n i)) (G (ix_ n j)))) := fun k _ => by rw [dr_anti, dr_mu]; grind
      have hanti2 : ∀ k, k < n → dr_ (G k) (mu_ (-1) (cx_ (G (ix_ n j)) (G (ix_ n i)))) = dr_ (G k) (cx_ (G (ix_ n i)) (G (ix_ n j))) := fun k _ => by rw [dr_mu, dr_anti]; grind
      obtain ⟨l, hl, l1, l2⟩ := hLc j i q hi (cx_anti hc) (by
        obtain ⟨k, hk, hd⟩ := hnot
        exact ⟨k, hk, by rw [dr_anti]; grind⟩)
      refine h2 l hl _ l1 l2 ?_
      rcases hcone with z | z
      · exact Or.inr ((Cn_cg hanti2).mpr z)
      · exact Or.inl ((Cn_cg hanti).mpr z)
end BC
