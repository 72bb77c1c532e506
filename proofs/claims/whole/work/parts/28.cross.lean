/-! lines and corners of the planes -/
def MO_ (fo : Nat) (mk re : Nat → Int32) (fo' : Nat) (mk' re' : Nat → Int32) : Prop := (∀ r, mkd_ mk r = true → mkd_ mk' r = true) ∧ fo ≤ fo' ∧ ∀ i, i < fo → re' i = re i
theorem MO_refl (fo : Nat) (mk re : Nat → Int32) : MO_ fo mk re fo mk re := ⟨fun _ h => h, Nat.le_refl _, fun _ _ => rfl⟩
theorem MO_trans {f1 f2 f3 : Nat} {m1 m2 m3 r1 r2 r3 : Nat → Int32} (h : MO_ f1 m1 r1 f2 m2 r2) (h' : MO_ f2 m2 r2 f3 m3 r3) : MO_ f1 m1 r1 f3 m3 r3 :=
  ⟨fun r q => h'.1 r (h.1 r q), Nat.le_trans h.2.1 h'.2.1, fun i hi => by rw [h'.2.2 i (Nat.lt_of_lt_of_le hi h.2.1), h.2.2 i hi]⟩
theorem sp_cg {s t : Nat → Nat} {n : Nat} (h : ∀ k, k < n → s k = t k) : sp_ s n = sp_ t n := by
  unfold sp_
  rw [bn_cg (fun k q => by rw [h k q]), bn_cg (a := fun k => decide (s k = 2)) (fun k q => by rw [h k q])]
theorem ov_cor {x y z w : Wl_} (h : dt_ x y z ≠ 0) (t : Int) :
    ((ov_ w (t * x.2.2.2 * (ci_ y z).1 + t * y.2.2.2 * (ci_ z x).1 + t * z.2.2.2 * (ci_ x y).1) (t * x.2.2.2 * (ci_ y z).2.1 + t * y.2.2.2 * (ci_ z x).2.1 + t * z.2.2.2 * (ci_ x y).2.1) (t * x.2.2.2 * (ci_ y z).2.2 + t * y.2.2.2 * (ci_ z x).2.2 + t * z.2.2.2 * (ci_ x y).2.2) (t * cl_ z (ci_ x y)) : Int) : Rat) = ((t : Rat) * dt_ x y z) * ev_ w (cor_ x y z) := by
  have h1 := cor_dr x y z w h
  have h2 := cl_cx z x y
  have e1 := cx_ci y z
  have e2 := cx_ci z x
  have e3 := cx_ci x y
  simp only [ov_, Rat.intCast_sub, Rat.intCast_add, Rat.intCast_mul]
  rw [h2]
  unfold ev_
  rw [show dr_ z (cx_ x y) = dt_ x y z from rfl]
  have k1 : dr_ w (cx_ y z) = w.1 * ((ci_ y z).1 : Rat) + w.2.1 * ((ci_ y z).2.1 : Rat) + w.2.2.1 * ((ci_ y z).2.2 : Rat) := by rw [e1]; rfl
  have k2 : dr_ w (cx_ z x) = w.1 * ((ci_ z x).1 : Rat) + w.2.1 * ((ci_ z x).2.1 : Rat) + w.2.2.1 * ((ci_ z x).2.2 : Rat) := by rw [e2]; rfl
  have k3 : dr_ w (cx_ x y) = w.1 * ((ci_ x y).1 : Rat) + w.2.1 * ((ci_ x y).2.1 : Rat) + w.2.2.1 * ((ci_ x y).2.2 : Rat) := by rw [e3]; rfl
  rw [k1, k2, k3] at h1
  clear k1 k2 k3 e1 e2 e3 h2
  grind
theorem sz_cor {x y z w : Wl_} (h : dt_ x y z ≠ 0) {t : Int} (ht : t = 1 ∧ 0 ≤ cl_ z (ci_ x y) ∨ t = -1 ∧ cl_ z (ci_ x y) < 0) :
    sz_ (ov_ w (t * x.2.2.2 * (ci_ y z).1 + t * y.2.2.2 * (ci_ z x).1 + t * z.2.2.2 * (ci_ x y).1) (t * x.2.2.2 * (ci_ y z).2.1 + t * y.2.2.2 * (ci_ z x).2.1 + t * z.2.2.2 * (ci_ x y).2.1) (t * x.2.2.2 * (ci_ y z).2.2 + t * y.2.2.2 * (ci_ z x).2.2 + t * z.2.2.2 * (ci_ x y).2.2) (t * cl_ z (ci_ x y))) = sg_ (ev_ w (cor_ x y z)) := by
  rw [← sg_int, ov_cor h]
  apply sg_scale
  have h2 : ((cl_ z (ci_ x y) : Int) : Rat) = dt_ x y z := cl_cx z x y
  have h3 : cl_ z (ci_ x y) ≠ 0 := fun q => h (by rw [← h2, q]; rfl)
  rw [← h2]
  rcases ht with ⟨rfl, h4⟩ | ⟨rfl, h4⟩
  · have := rI_pos.mpr (show 0 < cl_ z (ci_ x y) by omega)
    simpa using this
  · have := rI_neg.mpr h4
    rw [show ((-1 : Int) : Rat) = -1 from rfl]
    grind
section CR
variable {va vb vc ve vth : Nat → Int32} {n : Nat}
theorem f_noteCorner (hn : n ≤ 8) (hT : TH_ vth) (hb : ∀ k, k < n → bw_ (gC_ va vb vc ve k)) {i j k : Nat} (hi : i < 11) (hj : j < 11) (hk : k < 11) (bi : bw_ (gC_ va vb vc ve i)) (bj : bw_ (gC_ va vb vc ve j)) (bk : bw_ (gC_ va vb vc ve k))
    {fo : Nat} {cm mk re : Nat → Int32} (h : CS_ (gC_ va vb vc ve) n fo cm mk re) (k2x k2y k2z k3x k3y k3z : Int32) :
    ∃ fo' cm' mk' re' q1 q2 q3 q4 q5 q6, fX1_noteCorner (nI n) (nI fo) va vb vc ve vth cm mk re (iI_ (ci_ (gC_ va vb vc ve i) (gC_ va vb vc ve j)).1) (iI_ (ci_ (gC_ va vb vc ve i) (gC_ va vb vc ve j)).2.1) (iI_ (ci_ (gC_ va vb vc ve i) (gC_ va vb vc ve j)).2.2) k2x k2y k2z k3x k3y k3z (nI i) (nI j) (nI k) = some (nI fo', cm', mk', re', q1, q2, q3, q4, q5, q6) ∧
      CS_ (gC_ va vb vc ve) n fo' cm' mk' re' ∧ MO_ fo mk re fo' mk' re' ∧ (dt_ (gC_ va vb vc ve i) (gC_ va vb vc ve j) (gC_ va vb vc ve k) ≠ 0 → mkd_ mk' (rp_ (gC_ va vb vc ve) n (cor_ (gC_ va vb vc ve i) (gC_ va vb vc ve j) (gC_ va vb vc ve k))) = true) := by
  have ij := ab_ci bi bj
  have jk := ab_ci bj bk
  have ki := ab_ci bk bi
  have hcl := ab_cl (v := ci_ (gC_ va vb vc ve i) (gC_ va vb vc ve j)) bk ij.1 ij.2.1 ij.2.2
  have hcs := ab_sm hcl (by decide)
  have hz0 : sm_ 0 := by unfold sm_; omega
  have hdt : ((cl_ (gC_ va vb vc ve k) (ci_ (gC_ va vb vc ve i) (gC_ va vb vc ve j)) : Int) : Rat) = dt_ (gC_ va vb vc ve i) (gC_ va vb vc ve j) (gC_ va vb vc ve k) := cl_cx _ _ _
  unfold fX1_noteCorner
  rw [bind_yes (f_climb ve hk _ _ _)]
  have e0 : (iI_ (cl_ (gC_ va vb vc ve k) ((ci_ (gC_ va vb vc ve i) (gC_ va vb vc ve j)).1, (ci_ (gC_ va vb vc ve i) (gC_ va vb vc ve j)).2.1, (ci_ (gC_ va vb vc ve i) (gC_ va vb vc ve j)).2.2)) = 0) ↔ cl_ (gC_ va vb vc ve k) (ci_ (gC_ va vb vc ve i) (gC_ va vb vc ve j)) = 0 := iI_eq hcs hz0
  by_cases c0 : cl_ (gC_ va vb vc ve k) (ci_ (gC_ va vb vc ve i) (gC_ va vb vc ve j)) = 0
  · rw [if_pos (e0.mpr c0)]
    refine ⟨fo, cm, mk, re, _, _, _, _, _, _, rfl, h, MO_refl _ _ _, fun hd => ?_⟩
    rw [c0] at hdt
    exact absurd hdt.symm hd
  · rw [if_neg (fun q => c0 (e0.mp q)), bind_yes (f_along ve hj hk), bind_yes (f_along ve hk hi)]
    have hd : dt_ (gC_ va vb vc ve i) (gC_ va vb vc ve j) (gC_ va vb vc ve k) ≠ 0 := by rw [← hdt]; exact fun q => c0 (rI_zero.mp q)
    obtain ⟨t, ht, htab, hturn⟩ : ∃ t : Int, (t = 1 ∧ 0 ≤ cl_ (gC_ va vb vc ve k) (ci_ (gC_ va vb vc ve i) (gC_ va vb vc ve j)) ∨ t = -1 ∧ cl_ (gC_ va vb vc ve k) (ci_ (gC_ va vb vc ve i) (gC_ va vb vc ve j)) < 0) ∧ ab_ t 1 ∧ (if 0 ≤ iI_ (cl_ (gC_ va vb vc ve k) ((ci_ (gC_ va vb vc ve i) (gC_ va vb vc ve j)).1, (ci_ (gC_ va vb vc ve i) (gC_ va vb vc ve j)).2.1, (ci_ (gC_ va vb vc ve i) (gC_ va vb vc ve j)).2.2)) then some (1 : Int32) else some (-1 : Int32)) = some (iI_ t) := by
      have e1 : (0 ≤ iI_ (cl_ (gC_ va vb vc ve k) ((ci_ (gC_ va vb vc ve i) (gC_ va vb vc ve j)).1, (ci_ (gC_ va vb vc ve i) (gC_ va vb vc ve j)).2.1, (ci_ (gC_ va vb vc ve i) (gC_ va vb vc ve j)).2.2))) ↔ 0 ≤ cl_ (gC_ va vb vc ve k) (ci_ (gC_ va vb vc ve i) (gC_ va vb vc ve j)) := iI_le hz0 hcs
      by_cases c1 : 0 ≤ cl_ (gC_ va vb vc ve k) (ci_ (gC_ va vb vc ve i) (gC_ va vb vc ve j))
      · exact ⟨1, Or.inl ⟨rfl, c1⟩, by unfold ab_; decide, by rw [if_pos (e1.mpr c1)]; rfl⟩
      · exact ⟨-1, Or.inr ⟨rfl, by omega⟩, by unfold ab_; decide, by rw [if_neg (fun q => c1 (e1.mp q))]; rfl⟩
    rw [bind_yes hturn, ck_yes (in_R_nI hi (by decide)), ck_yes (in_R_nI hj (by decide)), ck_yes (in_R_nI hk (by decide))]
    simp only [nI_clamp (show i < 2 ^ 31 by omega), nI_clamp (show j < 2 ^ 31 by omega), nI_clamp (show k < 2 ^ 31 by omega)]
    rw [gC_e va vb vc ve i, gC_e va vb vc ve j, gC_e va vb vc ve k]
    unfold nm_
    simp only [iI_mul, iI_add]
    have bx : ∀ {a b c : Int}, ab_ a 162 → ab_ b 162 → ab_ c 162 → ab_ (t * (gC_ va vb vc ve i).2.2.2 * a + t * (gC_ va vb vc ve j).2.2.2 * b + t * (gC_ va vb vc ve k).2.2.2 * c) 48114 := by
      intro a b c ha hb hc
      exact ab_mono (ab_add (ab_add (ab_mul (ab_mul htab bi.2.2.2) ha) (ab_mul (ab_mul htab bj.2.2.2) hb)) (ab_mul (ab_mul htab bk.2.2.2) hc)) (by decide)
    have hs := f_signs (va := va) (vb := vb) (vc := vc) (ve := ve) hn
      (x := t * (gC_ va vb vc ve i).2.2.2 * (ci_ (gC_ va vb vc ve j) (gC_ va vb vc ve k)).1 + t * (gC_ va vb vc ve j).2.2.2 * (ci_ (gC_ va vb vc ve k) (gC_ va vb vc ve i)).1 + t * (gC_ va vb vc ve k).2.2.2 * (ci_ (gC_ va vb vc ve i) (gC_ va vb vc ve j)).1)
      (y := t * (gC_ va vb vc ve i).2.2.2 * (ci_ (gC_ va vb vc ve j) (gC_ va vb vc ve k)).2.1 + t * (gC_ va vb vc ve j).2.2.2 * (ci_ (gC_ va vb vc ve k) (gC_ va vb vc ve i)).2.1 + t * (gC_ va vb vc ve k).2.2.2 * (ci_ (gC_ va vb vc ve i) (gC_ va vb vc ve j)).2.1)
      (z := t * (gC_ va vb vc ve i).2.2.2 * (ci_ (gC_ va vb vc ve j) (gC_ va vb vc ve k)).2.2 + t * (gC_ va vb vc ve j).2.2.2 * (ci_ (gC_ va vb vc ve k) (gC_ va vb vc ve i)).2.2 + t * (gC_ va vb vc ve k).2.2.2 * (ci_ (gC_ va vb vc ve i) (gC_ va vb vc ve j)).2.2)
      (t := t * cl_ (gC_ va vb vc ve k) (ci_ (gC_ va vb vc ve i) (gC_ va vb vc ve j))) (by
        intro m hm
        obtain ⟨w1, w2, w3, w4⟩ := hb m hm
        exact ab_sm (ab_sub (ab_add (ab_add (ab_mul w1 (bx jk.1 ki.1 ij.1)) (ab_mul w2 (bx jk.2.1 ki.2.1 ij.2.1))) (ab_mul w3 (bx jk.2.2 ki.2.2 ij.2.2))) (ab_mul w4 (ab_mul htab hcl))) (by decide))
    rw [sp_cg (t := sn_ (gC_ va vb vc ve) (cor_ (gC_ va vb vc ve i) (gC_ va vb vc ve j) (gC_ va vb vc ve k))) (fun m _ => sz_cor hd ht)] at hs
    obtain ⟨fo', cm', mk', re', e, hC, hM, hMo, hfo, hre⟩ := f_reach hn hT h (cor_ (gC_ va vb vc ve i) (gC_ va vb vc ve j) (gC_ va vb vc ve k))
    rw [bind_yes hs, bind_yes e]
    exact ⟨fo', cm', mk', re', _, _, _, _, _, _, rfl, hC, ⟨hMo, hfo, hre⟩, fun _ => hM⟩
/-- the walls over which a way leads with a sign -/
def lm_ (G : Nat → Wl_) (n : Nat) (v : V3_) (c : Nat) : Nat := bn_ (fun k => decide (sg_ (dr_ (G k) v) = c)) n
theorem f_noteLine (hn : n ≤ 8) (hb : ∀ k, k < n → bw_ (gC_ va vb vc ve k)) {x y : Wl_} (bx : bw_ x) (byy : bw_ y) {li : Nat} (hl : li < 55) (la lb : Nat → Int32) :
    (∃ k, k < n ∧ dr_ (gC_ va vb vc ve k) (cx_ x y) ≠ 0) ∧ fX1_noteLine (nI n) (nI li) va vb vc ve la lb (iI_ (ci_ x y).1) (iI_ (ci_ x y).2.1) (iI_ (ci_ x y).2.2) = some (nI (li + 1), upd la li (nI (lm_ (gC_ va vb vc ve) n (cx_ x y) 2)), upd lb li (nI (lm_ (gC_ va vb vc ve) n (cx_ x y) 0))) ∨
    (¬ ∃ k, k < n ∧ dr_ (gC_ va vb vc ve k) (cx_ x y) ≠ 0) ∧ fX1_noteLine (nI n) (nI li) va vb vc ve la lb (iI_ (ci_ x y).1) (iI_ (ci_ x y).2.1) (iI_ (ci_ x y).2.2) = some (nI li, la, lb) := by
  have ij := ab_ci bx byy
  have hs := f_signs (va := va) (vb := vb) (vc := vc) (ve := ve) hn (x := (ci_ x y).1) (y := (ci_ x y).2.1) (z := (ci_ x y).2.2) (t := 0) (by
    intro m hm
    obtain ⟨w1, w2, w3, w4⟩ := hb m hm
    exact ab_sm (ab_sub (ab_add (ab_add (ab_mul w1 ij.1) (ab_mul w2 ij.2.1)) (ab_mul w3 ij.2.2)) (ab_mul w4 (show ab_ 0 0 from Nat.le_refl _))) (by decide))
  rw [sp_cg (t := fun k => sg_ (dr_ (gC_ va vb vc ve k) (cx_ x y))) (fun m _ => by rw [← sg_int, ov_dr, ← cx_ci])] at hs
  unfold fX1_noteLine
  rw [show iI_ 0 = (0 : Int32) from rfl] at hs
  rw [bind_yes hs, bind_yes (f_onMask hn), bind_yes (f_aboveMask hn), nI_all hn]
  have hbl := bn_lt8 (fun k => decide (sg_ (dr_ (gC_ va vb vc ve k) (cx_ x y)) = 1)) hn
  have h2n : 2 ^ n ≤ 256 := Nat.pow_le_pow_right (n := 2) (j := 8) (by decide) hn
  have e1 : (nI (bn_ (fun k => decide (sg_ (dr_ (gC_ va vb vc ve k) (cx_ x y)) = 1)) n) = nI (2 ^ n - 1)) ↔ ∀ k, k < n → decide (sg_ (dr_ (gC_ va vb vc ve k) (cx_ x y)) = 1) = true := by
    rw [nI_eq (by omega) (by omega), ← bn_all, bn_eq]
  by_cases c : ∃ k, k < n ∧ dr_ (gC_ va vb vc ve k) (cx_ x y) ≠ 0
  · refine Or.inl ⟨c, ?_⟩
    obtain ⟨k, hk, hd⟩ := c
    rw [if_neg (fun q => hd (sg_eq1.mp (of_decide_eq_true (e1.mp q k hk)))), if_pos (show nI li < 55 from nI_lt (a := li) (b := 55) hl (by decide)), ck_yes (in_R_nI hl (by decide)), ck_yes (in_R_nI hl (by decide)), nI_clamp (by omega), nI_1, ← bn_all, bn_andn, bn_andn]
    have : bn_ (fun k => (true && !decide (sg_ (dr_ (gC_ va vb vc ve k) (cx_ x y)) = 1)) && !decide (sg_ (dr_ (gC_ va vb vc ve k) (cx_ x y)) = 2)) n = lm_ (gC_ va vb vc ve) n (cx_ x y) 0 := by
      refine bn_cg (fun m _ => ?_)
      have := sg_le (dr_ (gC_ va vb vc ve m) (cx_ x y))
      generalize sg_ (dr_ (gC_ va vb vc ve m) (cx_ x y)) = g at *
      rcases (show g = 0 ∨ g = 1 ∨ g = 2 by omega) with rfl | rfl | rfl <;> rfl
    rw [this]
    rfl
  · refine Or.inr ⟨c, ?_⟩
    rw [if_pos (e1.mpr (fun k hk => decide_eq_true (sg_eq1.mpr (Classical.byContradiction fun q => c ⟨k, hk, q⟩))))]
end CR
