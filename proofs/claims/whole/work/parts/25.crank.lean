/-! the class's ranks of all heaps -/
def hS_ (G : Nat → Wl_) (h : Nat) : Wl_ → Prop := fun x => ∃ k, h.testBit k = true ∧ x = G k
theorem rk_inv0 {X : Wl_ → Prop} (h : rk_ X = 0) : ¬ ∃ x, X x := by
  intro hx
  unfold rk_ at h
  by_cases h3 : R3_ X
  · rw [if_pos h3] at h; cases h
  · rw [if_neg h3] at h
    by_cases h2 : R2_ X
    · rw [if_pos h2] at h; cases h
    · rw [if_neg h2, if_pos hx] at h; cases h
theorem rk_inv1 {X : Wl_ → Prop} (h : rk_ X = 1) : (∃ x, X x) ∧ ¬ R2_ X := by
  unfold rk_ at h
  by_cases h3 : R3_ X
  · rw [if_pos h3] at h; cases h
  · rw [if_neg h3] at h
    by_cases h2 : R2_ X
    · rw [if_pos h2] at h; cases h
    · rw [if_neg h2] at h
      by_cases hx : ∃ x, X x
      · exact ⟨hx, h2⟩
      · rw [if_neg hx] at h; cases h
theorem rk_inv2 {X : Wl_ → Prop} (h : rk_ X = 2) : R2_ X ∧ ¬ R3_ X := by
  unfold rk_ at h
  by_cases h3 : R3_ X
  · rw [if_pos h3] at h; cases h
  · rw [if_neg h3] at h
    by_cases h2 : R2_ X
    · exact ⟨h2, h3⟩
    · rw [if_neg h2] at h
      by_cases hx : ∃ x, X x
      · rw [if_pos hx] at h; cases h
      · rw [if_neg hx] at h; cases h
theorem rk_inv3 {X : Wl_ → Prop} (h : rk_ X = 3) : R3_ X := by
  refine Classical.byContradiction fun h3 => ?_
  unfold rk_ at h
  rw [if_neg h3] at h
  by_cases h2 : R2_ X
  · rw [if_pos h2] at h; cases h
  · rw [if_neg h2] at h
    by_cases hx : ∃ x, X x
    · rw [if_pos hx] at h; cases h
    · rw [if_neg hx] at h; cases h
theorem par_tr {x w w' : Wl_} (hn : nv_ x ≠ o3_) (h : cx_ x w = o3_) (h' : cx_ x w' = o3_) : cx_ w w' = o3_ := by
  refine Classical.byContradiction fun hc => ?_
  obtain ⟨a, b, ha, hb, hab⟩ := ways_2 x
  obtain ⟨t, rfl⟩ := along_cx (par_2 h hn ha) (par_2 h' hn ha) hc
  obtain ⟨s, rfl⟩ := along_cx (par_2 h hn hb) (par_2 h' hn hb) hc
  apply hab
  simp only [mu_]
  refine ⟨?_, ?_, ?_⟩ <;> grind
section RA
variable {X : Wl_ → Prop} {z : Wl_}
theorem rk_add0 (h : rk_ X = 0) : rk_ (fun x => X x ∨ x = z) = 1 := by
  have hX := rk_inv0 h
  have h2 : ¬ R2_ (fun x => X x ∨ x = z) := by
    rintro ⟨x, y, hx, hy, hc⟩
    rcases hx with hx | rfl
    · exact hX ⟨x, hx⟩
    · rcases hy with hy | rfl
      · exact hX ⟨y, hy⟩
      · exact hc (cx_self _)
  exact rk_1 ⟨z, Or.inr rfl⟩ h2 (fun h3 => h2 (R3_R2 h3))
theorem rk_add1 (h : rk_ X = 1) {x : Wl_} (hx : X x) (hn : nv_ x ≠ o3_) (hc : cx_ x z = o3_) : rk_ (fun w => X w ∨ w = z) = 1 := by
  obtain ⟨_, h2⟩ := rk_inv1 h
  have hall : ∀ w, (X w ∨ w = z) → cx_ x w = o3_ := by
    rintro w (hw | rfl)
    · exact Classical.byContradiction fun q => h2 ⟨x, w, hx, hw, q⟩
    · exact hc
  have h2' : ¬ R2_ (fun w => X w ∨ w = z) := by
    rintro ⟨a, b, ha, hb, hab⟩
    exact hab (par_tr hn (hall a ha) (hall b hb))
  exact rk_1 ⟨z, Or.inr rfl⟩ h2' (fun h3 => h2' (R3_R2 h3))
theorem rk_add1' (h : rk_ X = 1) {x : Wl_} (hx : X x) (hn : nv_ x ≠ o3_) (hc : cx_ x z ≠ o3_) : rk_ (fun w => X w ∨ w = z) = 2 := by
  obtain ⟨_, h2⟩ := rk_inv1 h
  refine rk_2 ⟨x, z, Or.inl hx, Or.inr rfl, hc⟩ ?_
  have hall : ∀ w, (X w ∨ w = z) → dr_ w (cx_ x z) = 0 := by
    rintro w (hw | rfl)
    · exact par_2 (Classical.byContradiction fun q => h2 ⟨x, w, hx, hw, q⟩) hn (dr_cx1 _ _)
    · exact dr_cx2 _ _
  rintro ⟨a, b, c, ha, hb, hcc, hd⟩
  exact hd (one_way hc (hall a ha) (hall b hb) (hall c hcc))
theorem rk_add2 (h : rk_ X = 2) {x y : Wl_} (hx : X x) (hy : X y) (hc : cx_ x y ≠ o3_) (hz : dr_ z (cx_ x y) = 0) : rk_ (fun w => X w ∨ w = z) = 2 := by
  obtain ⟨_, h3⟩ := rk_inv2 h
  refine rk_2 ⟨x, y, Or.inl hx, Or.inl hy, hc⟩ ?_
  have hall : ∀ w, (X w ∨ w = z) → dr_ w (cx_ x y) = 0 := by
    rintro w (hw | rfl)
    · exact flat_all h3 hx hy hw hc (dr_cx1 _ _) (dr_cx2 _ _)
    · exact hz
  rintro ⟨a, b, c, ha, hb, hcc, hd⟩
  exact hd (one_way hc (hall a ha) (hall b hb) (hall c hcc))
theorem rk_add2' {x y : Wl_} (hx : X x) (hy : X y) (hz : dr_ z (cx_ x y) ≠ 0) : rk_ (fun w => X w ∨ w = z) = 3 :=
  rk_3 ⟨x, y, z, Or.inl hx, Or.inl hy, Or.inr rfl, hz⟩
theorem rk_add3 (h : rk_ X = 3) : rk_ (fun w => X w ∨ w = z) = 3 := by
  obtain ⟨x, y, w, hx, hy, hw, hd⟩ := rk_inv3 h
  exact rk_3 ⟨x, y, w, Or.inl hx, Or.inl hy, Or.inl hw, hd⟩
end RA
theorem bit_more {h k : Nat} (hh : h < 2 ^ k) (j : Nat) : (h + 2 ^ k).testBit j = (h.testBit j || decide (j = k)) := by rw [← or_add hh, fb_bit_set]
theorem hS_more {G : Nat → Wl_} {h k : Nat} (hh : h < 2 ^ k) : rk_ (hS_ G (h + 2 ^ k)) = rk_ (fun x => hS_ G h x ∨ x = G k) := by
  refine rk_cg (fun x => ?_)
  constructor
  · rintro ⟨j, hj, rfl⟩
    rw [bit_more hh] at hj
    rcases Bool.or_eq_true_iff.mp hj with q | q
    · exact Or.inl ⟨j, q, rfl⟩
    · rw [of_decide_eq_true q]; exact Or.inr rfl
  · rintro (⟨j, hj, rfl⟩ | rfl)
    · exact ⟨j, by rw [bit_more hh, hj]; rfl, rfl⟩
    · exact ⟨k, by rw [bit_more hh]; simp, rfl⟩
/-- what the rows of ranks and keys hold of a heap -/
def KV_ (G : Nat → Wl_) (h : Nat) (r x y z : Int32) : Prop :=
  r = nI (rk_ (hS_ G h)) ∧
  (rk_ (hS_ G h) = 1 → ∃ j, h.testBit j = true ∧ x = iI_ (G j).1 ∧ y = iI_ (G j).2.1 ∧ z = iI_ (G j).2.2.1) ∧
  (rk_ (hS_ G h) = 2 → ∃ i j, h.testBit i = true ∧ h.testBit j = true ∧ cx_ (G i) (G j) ≠ o3_ ∧ x = iI_ (ci_ (G i) (G j)).1 ∧ y = iI_ (ci_ (G i) (G j)).2.1 ∧ z = iI_ (ci_ (G i) (G j)).2.2)
theorem f_crossC {va vb vc : Nat → Int32} (ve : Nat → Int32) {i j : Nat} (hj : j < 11) :
    fX0_crossWith va vb vc (iI_ (gC_ va vb vc ve i).1) (iI_ (gC_ va vb vc ve i).2.1) (iI_ (gC_ va vb vc ve i).2.2.1) (nI j) = some (iI_ (ci_ (gC_ va vb vc ve i) (gC_ va vb vc ve j)).1, iI_ (ci_ (gC_ va vb vc ve i) (gC_ va vb vc ve j)).2.1, iI_ (ci_ (gC_ va vb vc ve i) (gC_ va vb vc ve j)).2.2) := f_cross ve hj _ _ _
theorem f_rankWith {va vb vc ve vrk vkx vky vkz : Nat → Int32} {h k : Nat} (hk : k < 8) (hh : h < 2 ^ k) (hb : ∀ j, j ≤ k → bw_ (gC_ va vb vc ve j)) (hn : ∀ j, j ≤ k → nv_ (gC_ va vb vc ve j) ≠ o3_)
    (hV : KV_ (gC_ va vb vc ve) h (vrk h) (vkx h) (vky h) (vkz h)) :
    ∃ r x y z, fX2_rankWith va vb vc vrk vkx vky vkz (nI h) (nI k) = some (upd vrk (h + 2 ^ k) r, upd vkx (h + 2 ^ k) x, upd vky (h + 2 ^ k) y, upd vkz (h + 2 ^ k) z, x, y, z) ∧ KV_ (gC_ va vb vc ve) (h + 2 ^ k) r x y z := by
  have h256 : h + 2 ^ k < 256 := by
    have : 2 ^ (k + 1) ≤ 2 ^ 8 := Nat.pow_le_pow_right (by decide) (by omega)
    rw [Nat.pow_succ] at this
    omega
  have hR : in_R (nI h) 256 := in_R_nI (by omega) (by decide)
  have hRk : in_R (nI k) 11 := in_R_nI (by omega) (by decide)
  have hRm : in_R (nI (h + 2 ^ k)) 256 := in_R_nI h256 (by decide)
  have hor : nI h ||| ((1 : Int32) <<< (nI k &&& 31)) = nI (h + 2 ^ k) := by rw [sh_1 k (by omega), nI_or, or_add hh]
  unfold fX2_rankWith
  rw [ck_yes hR, ck_yes hR, ck_yes hR, ck_yes hR, hor]
  simp only [nI_clamp (show h < 2 ^ 31 by omega), nI_clamp (show k < 2 ^ 31 by omega), nI_clamp (show h + 2 ^ k < 2 ^ 31 by omega)]
  unfold fX0_set
  simp only [Option.bind_some]
  obtain ⟨hr, hk1, hk2⟩ := hV
  have hle := rk_le3 (hS_ (gC_ va vb vc ve) h)
  have hmore := hS_more (G := gC_ va vb vc ve) hh
  generalize hg : rk_ (hS_ (gC_ va vb vc ve) h) = g at *
  have hbit : ∀ j, h.testBit j = true → j ≤ k := fun j hj => Nat.le_of_lt (lt_bit hh hj)
  have hup : ∀ j, h.testBit j = true → (h + 2 ^ k).testBit j = true := fun j hj => by rw [bit_more hh, hj]; rfl
  have hkk : (h + 2 ^ k).testBit k = true := by rw [bit_more hh]; simp
  rw [hr]
  rcases (show g = 0 ∨ g = 1 ∨ g = 2 ∨ g = 3 by omega) with rfl | rfl | rfl | rfl
  · rw [if_pos (show nI 0 = 0 from rfl), ck_yes hRk, ck_yes hRk, ck_yes hRk]
    rw [Option.bind_some, ck_yes hRm, ck_yes hRm, ck_yes hRm, ck_yes hRm]
    have e := hmore.trans (rk_add0 (z := gC_ va vb vc ve k) hg)
    refine ⟨_, _, _, _, rfl, ?_, ?_, ?_⟩
    · rw [e]; rfl
    · intro _; exact ⟨k, hkk, gC_a va vb vc ve k, gC_b va vb vc ve k, gC_c va vb vc ve k⟩
    · intro q; rw [e] at q; cases q
  · rw [if_neg (show ¬ nI 1 = 0 by decide), if_pos (show nI 1 = 1 from rfl)]
    obtain ⟨j, hj, ex, ey, ez⟩ := hk1 rfl
    have hX : hS_ (gC_ va vb vc ve) h (gC_ va vb vc ve j) := ⟨j, hj, rfl⟩
    have hbj := hb j (hbit j hj)
    have hbk := hb k (Nat.le_refl k)
    have hab := ab_ci hbj hbk
    rw [ex, ey, ez, bind_yes (f_crossC ve (by omega))]
    rw [bind_yes (f_nothing (ab_sm hab.1 (by decide)) (ab_sm hab.2.1 (by decide)) (ab_sm hab.2.2 (by decide)))]
    by_cases hc : cx_ (gC_ va vb vc ve j) (gC_ va vb vc ve k) = o3_
    · have h0 := (ci_0 _ _).mp hc
      rw [if_pos (show _ ∧ _ ∧ _ from h0), if_neg (show ¬ (1 : Int32) = 0 by decide), ck_yes hR, ck_yes hR, ck_yes hR]
      rw [Option.bind_some, ck_yes hRm, ck_yes hRm, ck_yes hRm, ck_yes hRm]
      have e := hmore.trans (rk_add1 (z := gC_ va vb vc ve k) hg hX (hn j (hbit j hj)) hc)
      refine ⟨_, _, _, _, rfl, ?_, ?_, ?_⟩
      · rw [e]
      · intro _; exact ⟨j, hup j hj, rfl, rfl, rfl⟩
      · intro q; rw [e] at q; cases q
    · have h0 : ¬ _ := fun q => hc ((ci_0 _ _).mpr q)
      rw [if_neg (show ¬ (_ ∧ _ ∧ _) from h0), if_pos rfl]
      rw [Option.bind_some, ck_yes hRm, ck_yes hRm, ck_yes hRm, ck_yes hRm]
      have e := hmore.trans (rk_add1' (z := gC_ va vb vc ve k) hg hX (hn j (hbit j hj)) hc)
      refine ⟨_, _, _, _, rfl, ?_, ?_, ?_⟩
      · rw [e]; rfl
      · intro q; rw [e] at q; cases q
      · intro _; exact ⟨j, k, hup j hj, hkk, hc, rfl, rfl, rfl⟩
  · rw [if_neg (show ¬ nI 2 = 0 by decide), if_neg (show ¬ nI 2 = 1 by decide), if_pos (show nI 2 = 2 from rfl)]
    obtain ⟨i, j, hi, hj, hc, ex, ey, ez⟩ := hk2 rfl
    have hX : hS_ (gC_ va vb vc ve) h (gC_ va vb vc ve i) := ⟨i, hi, rfl⟩
    have hY : hS_ (gC_ va vb vc ve) h (gC_ va vb vc ve j) := ⟨j, hj, rfl⟩
    have hab := ab_ci (hb i (hbit i hi)) (hb j (hbit j hj))
    have hcl := ab_sm (ab_cl (v := ci_ (gC_ va vb vc ve i) (gC_ va vb vc ve j)) (hb k (Nat.le_refl k)) hab.1 hab.2.1 hab.2.2) (by decide)
    rw [ex, ey, ez, bind_yes (f_climb ve (by omega) _ _ _)]
    have hz0 : sm_ 0 := by unfold sm_; omega
    have e0 : (iI_ (cl_ (gC_ va vb vc ve k) (ci_ (gC_ va vb vc ve i) (gC_ va vb vc ve j))) = 0) ↔ cl_ (gC_ va vb vc ve k) (ci_ (gC_ va vb vc ve i) (gC_ va vb vc ve j)) = 0 := iI_eq hcl hz0
    by_cases c0 : cl_ (gC_ va vb vc ve k) (ci_ (gC_ va vb vc ve i) (gC_ va vb vc ve j)) = 0
    · rw [if_pos (e0.mpr c0)]
      rw [Option.bind_some, ck_yes hRm, ck_yes hRm, ck_yes hRm, ck_yes hRm]
      have e := hmore.trans (rk_add2 (z := gC_ va vb vc ve k) hg hX hY hc (by rw [← cl_cx]; exact rI_zero.mpr c0))
      refine ⟨_, _, _, _, rfl, ?_, ?_, ?_⟩
      · rw [e]
      · intro q; rw [e] at q; cases q
      · intro _; exact ⟨i, j, hup i hi, hup j hj, hc, rfl, rfl, rfl⟩
    · rw [if_neg (fun q => c0 (e0.mp q))]
      rw [Option.bind_some, ck_yes hRm, ck_yes hRm, ck_yes hRm, ck_yes hRm]
      have e := hmore.trans (rk_add2' (z := gC_ va vb vc ve k) hX hY (by rw [← cl_cx]; exact fun q => c0 (rI_zero.mp q)))
      refine ⟨_, _, _, _, rfl, ?_, ?_, ?_⟩
      · rw [e]; rfl
      · intro q; rw [e] at q; cases q
      · intro q; rw [e] at q; cases q
  · rw [if_neg (show ¬ nI 3 = 0 by decide), if_neg (show ¬ nI 3 = 1 by decide), if_neg (show ¬ nI 3 = 2 by decide)]
    rw [Option.bind_some, ck_yes hRm, ck_yes hRm, ck_yes hRm, ck_yes hRm]
    have e := hmore.trans (rk_add3 (z := gC_ va vb vc ve k) hg)
    refine ⟨_, _, _, _, rfl, ?_, ?_, ?_⟩
    · rw [e]
    · intro q; rw [e] at q; cases q
    · intro q; rw [e] at q; cases q
theorem KV_0 (G : Nat → Wl_) (x y z : Int32) : KV_ G 0 0 x y z := by
  have e : rk_ (hS_ G 0) = 0 := by
    have h0 : ¬ ∃ x, hS_ G 0 x := by rintro ⟨x, k, hk, _⟩; simp at hk
    have h2 : ¬ R2_ (hS_ G 0) := fun h => h0 (R2_ex h)
    exact rk_0 h0 h2 (fun h3 => h2 (R3_R2 h3))
  refine ⟨by rw [e]; rfl, fun q => ?_, fun q => ?_⟩
  · rw [e] at q; cases q
  · rw [e] at q; cases q
theorem f_rankAnew {va vb vc ve vrk vkx vky vkz : Nat → Int32} {k0x k0y k0z : Int32} {n : Nat} (hn8 : n ≤ 8) (hb : ∀ j, j < n → bw_ (gC_ va vb vc ve j)) (hn : ∀ j, j < n → nv_ (gC_ va vb vc ve j) ≠ o3_) (h0 : vrk 0 = 0) :
    ∃ r, fX2_rankAnew (nI n) va vb vc vrk vkx vky vkz k0x k0y k0z = some r ∧ ∀ h, h < 2 ^ n → KV_ (gC_ va vb vc ve) h (r.1 h) (r.2.1 h) (r.2.2.1 h) (r.2.2.2.1 h) := by
  unfold fX2_rankAnew
  have hlp := lp_for (body := fun (st : (Int32 × (Nat → Int32) × (Nat → Int32) × (Nat → Int32) × (Nat → Int32) × Int32 × Int32 × Int32)) => fX2_rankAnew_L2 (nI n) va vb vc st.1 st.2.1 st.2.2.1 st.2.2.2.1 st.2.2.2.2.1 st.2.2.2.2.2.1 st.2.2.2.2.2.2.1 st.2.2.2.2.2.2.2)
    (fun k st => st.1 = nI k ∧ ∀ h, h < 2 ^ k → KV_ (gC_ va vb vc ve) h (st.2.1 h) (st.2.2.1 h) (st.2.2.2.1 h) (st.2.2.2.2.1 h))
    (fun st => ∀ h, h < 2 ^ n → KV_ (gC_ va vb vc ve) h (st.2.1 h) (st.2.2.1 h) (st.2.2.2.1 h) (st.2.2.2.2.1 h)) n (by omega) (s := ((0 : Int32), vrk, vkx, vky, vkz, k0x, k0y, k0z))
    ⟨rfl, fun h hh => by
      have : h = 0 := by simp at hh; exact hh
      subst this
      show KV_ _ 0 (vrk 0) _ _ _
      rw [h0]; exact KV_0 _ _ _ _⟩ ?_ ?_
  · obtain ⟨r, h1, h2⟩ := hlp
    rw [bind_yes h1]
    exact ⟨_, rfl, h2⟩
  · rintro k ⟨i, rk, kx, ky, kz, x, y, z⟩ hk ⟨hi, hI⟩
    dsimp only at hi hI ⊢
    subst hi
    unfold fX2_rankAnew_L2
    rw [if_neg (nI_ge hk (by omega))]
    left
    have hlp := lp_for (body := fun (st : (Int32 × (Nat → Int32) × (Nat → Int32) × (Nat → Int32) × (Nat → Int32) × Int32 × Int32 × Int32)) => fX2_rankAnew_L15 (nI k) va vb vc st.1 st.2.1 st.2.2.1 st.2.2.2.1 st.2.2.2.2.1 st.2.2.2.2.2.1 st.2.2.2.2.2.2.1 st.2.2.2.2.2.2.2)
      (fun j st => st.1 = nI j ∧ ∀ h, h < 2 ^ k + j → KV_ (gC_ va vb vc ve) h (st.2.1 h) (st.2.2.1 h) (st.2.2.2.1 h) (st.2.2.2.2.1 h))
      (fun st => ∀ h, h < 2 ^ (k + 1) → KV_ (gC_ va vb vc ve) h (st.2.1 h) (st.2.2.1 h) (st.2.2.2.1 h) (st.2.2.2.2.1 h)) (2 ^ k) (by
        have : 2 ^ k ≤ 2 ^ 8 := Nat.pow_le_pow_right (by decide) (by omega)
        omega) (s := ((0 : Int32), rk, kx, ky, kz, x, y, z)) ⟨rfl, hI⟩ ?_ ?_
    · obtain ⟨r, h1, h2⟩ := hlp
      rw [bind_yes h1]
      exact ⟨_, rfl, nI_1 k, h2⟩
    · rintro j ⟨i, rk, kx, ky, kz, x, y, z⟩ hj ⟨hi, hI⟩
      dsimp only at hi hI ⊢
      subst hi
      unfold fX2_rankAnew_L15
      have h28 : 2 ^ k ≤ 2 ^ 8 := Nat.pow_le_pow_right (by decide) (by omega)
      rw [sh_1 k (by omega), if_neg (nI_ge hj (by omega))]
      left
      obtain ⟨r, x', y', z', e, hV⟩ := f_rankWith (va := va) (vb := vb) (vc := vc) (ve := ve) (vrk := rk) (vkx := kx) (vky := ky) (vkz := kz) (h := j) (k := k) (by omega) hj (fun i hi => hb i (by omega)) (fun i hi => hn i (by omega)) (hI j (by omega))
      rw [bind_yes e]
      refine ⟨_, rfl, nI_1 j, ?_⟩
      intro h hh
      dsimp only
      rcases (show h = j + 2 ^ k ∨ h < 2 ^ k + j by omega) with rfl | q
      · rw [pk_us, pk_us, pk_us, pk_us]; exact hV
      · have ne : h ≠ j + 2 ^ k := by omega
        rw [pk_un ne, pk_un ne, pk_un ne, pk_un ne]; exact hI h q
    · rintro ⟨i, rk, kx, ky, kz, x, y, z⟩ ⟨hi, hI⟩
      dsimp only at hi hI ⊢
      subst hi
      unfold fX2_rankAnew_L15
      have h28 : 2 ^ k ≤ 2 ^ 8 := Nat.pow_le_pow_right (by decide) (by omega)
      rw [sh_1 k (by omega), if_pos (nI_le (Nat.le_refl _) (by omega))]
      refine ⟨_, rfl, fun h hh => hI h ?_⟩
      rw [Nat.pow_succ] at hh
      omega
  · rintro ⟨i, rk, kx, ky, kz, x, y, z⟩ ⟨hi, hI⟩
    dsimp only at hi hI ⊢
    subst hi
    unfold fX2_rankAnew_L2
    rw [if_pos (nI_le (Nat.le_refl _) (by omega))]
    exact ⟨_, rfl, hI⟩
