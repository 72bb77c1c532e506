/-! told, row, wall, take -/
noncomputable def vT_ (G : Nat → Wl_) (n : Nat) (p q : Int32) : Int32 :=
  ci2_ (∃ k, k < n ∧ p = nI k) (if q = 0 then iI_ (G p.toNatClampNeg).1 else if q = 1 then iI_ (G p.toNatClampNeg).2.1 else if q = 2 then iI_ (G p.toNatClampNeg).2.2.1 else if q = 3 then iI_ (G p.toNatClampNeg).2.2.2 else -1) (-1)
section TO
variable {va vb vc ve wl : Nat → Int32} {n d : Nat}
theorem c_told (hn : n ≤ 8) (p q : Int32) : fX5_told (nI n) va vb vc ve p q = some (vT_ (gC_ va vb vc ve) n p q) := by
  unfold fX5_told vT_
  obtain ⟨x, e, hy⟩ := f_holds (p := p) hn
  rw [bind_yes e]
  rcases hy with ⟨rfl, hk⟩ | ⟨rfl, hk⟩
  · rw [if_neg (by decide), ci2_t hk]
    obtain ⟨k, hk, rfl⟩ := hk
    have hR : in_R (nI k) 11 := in_R_nI (by omega) (by decide)
    rw [ck_yes hR, ck_yes hR, ck_yes hR, ck_yes hR, nI_clamp (by omega), ← gC_a, ← gC_b, ← gC_c, ← gC_e]
    by_cases h0 : q = 0
    · rw [if_pos h0, if_pos h0]
    rw [if_neg h0, if_neg h0]
    by_cases h1 : q = 1
    · rw [if_pos h1, if_pos h1]
    rw [if_neg h1, if_neg h1]
    by_cases h2 : q = 2
    · rw [if_pos h2, if_pos h2]
    rw [if_neg h2, if_neg h2]
    by_cases h3 : q = 3
    · rw [if_pos h3, if_pos h3]
    rw [if_neg h3, if_neg h3]
  · rw [if_pos rfl, ci2_f hk]
theorem gM_0 (wl : Nat → Int32) (k : Nat) : wl (4 * k) = iI_ (gM_ wl k).1 := (iI_of _).symm
theorem gM_1 (wl : Nat → Int32) (k : Nat) : wl (4 * k + 1) = iI_ (gM_ wl k).2.1 := (iI_of _).symm
theorem gM_2 (wl : Nat → Int32) (k : Nat) : wl (4 * k + 2) = iI_ (gM_ wl k).2.2.1 := (iI_of _).symm
theorem gM_3 (wl : Nat → Int32) (k : Nat) : wl (4 * k + 3) = iI_ (gM_ wl k).2.2.2 := (iI_of _).symm
theorem m_told (hn : n ≤ 8) (p q : Int32) : fX6_told (nI n) wl p q = some (vT_ (gM_ wl) n p q) := by
  unfold fX6_told vT_
  obtain ⟨x, e, hy⟩ := m_in hn p
  rw [bind_yes e]
  rcases hy with ⟨rfl, hk⟩ | ⟨rfl, hk⟩
  · rw [if_neg (by decide), ci2_t hk]
    obtain ⟨k, hk, rfl⟩ := hk
    rw [nI_clamp (by omega)]
    unfold fX6_in
    by_cases h0 : q < 0
    · rw [if_pos h0, Option.bind_some, if_pos rfl]
      have a : ∀ j : Nat, j ≤ 3 → q ≠ nI j := fun j hj w => nI_pos (n := j) (by omega) (by rw [← w]; exact h0)
      rw [if_neg (show ¬ q = (0 : Int32) from a 0 (by decide)), if_neg (show ¬ q = (1 : Int32) from a 1 (by decide)), if_neg (show ¬ q = (2 : Int32) from a 2 (by decide)), if_neg (show ¬ q = (3 : Int32) from a 3 (by decide))]
    · rw [if_neg h0]
      obtain ⟨j, hj, rfl⟩ := nI_of h0
      by_cases h3 : 3 < j
      · rw [if_pos (show (3 : Int32) < nI j from nI_lt (a := 3) h3 hj), Option.bind_some, if_pos rfl]
        have a : ∀ i : Nat, i ≤ 3 → nI j ≠ nI i := fun i hi w => by have := (nI_eq hj (by omega)).mp w; omega
        rw [if_neg (show ¬ nI j = (0 : Int32) from a 0 (by decide)), if_neg (show ¬ nI j = (1 : Int32) from a 1 (by decide)), if_neg (show ¬ nI j = (2 : Int32) from a 2 (by decide)), if_neg (show ¬ nI j = (3 : Int32) from a 3 (by decide))]
      · rw [if_neg (show ¬ (3 : Int32) < nI j from nI_nlt (a := 3) (b := j) (by omega) (by decide)), Option.bind_some, if_neg (show ¬ (1 : Int32) = 0 by decide), bind_yes (f_at wl (show 4 * k + j < 32 by omega))]
        have b : ∀ i : Nat, i ≤ 3 → j ≠ i → nI j ≠ nI i := fun i hi hne w => hne ((nI_eq hj (by omega)).mp w)
        rcases (show j = 0 ∨ j = 1 ∨ j = 2 ∨ j = 3 by omega) with rfl | rfl | rfl | rfl
        · rw [if_pos (show nI 0 = 0 from rfl), ← gM_0]; rfl
        · rw [if_neg (show ¬ nI 1 = (0 : Int32) by decide), if_pos (show nI 1 = 1 from rfl), ← gM_1]
        · rw [if_neg (show ¬ nI 2 = (0 : Int32) by decide), if_neg (show ¬ nI 2 = (1 : Int32) by decide), if_pos (show nI 2 = 2 from rfl), ← gM_2]
        · rw [if_neg (show ¬ nI 3 = (0 : Int32) by decide), if_neg (show ¬ nI 3 = (1 : Int32) by decide), if_neg (show ¬ nI 3 = (2 : Int32) by decide), if_pos (show nI 3 = 3 from rfl), ← gM_3]
  · rw [if_pos rfl, ci2_f hk]
end TO
/-! the row of a place of whole numbers -/
def fr2_ (x : Int32) : Prop := -1000000 ≤ x.toInt ∧ x.toInt ≤ 1000000
noncomputable def vX_ (G : Nat → Wl_) (n : Nat) (x y z : Int32) : Int32 := ci2_ (fr2_ x ∧ fr2_ y ∧ fr2_ z) (nI (rn_ (fun k => sz_ (ov_ (G k) x.toInt y.toInt z.toInt 1)) n)) (-1)
theorem f_tooFar (x : Int32) : ∃ b, fX5_isTooFar x = some b ∧ yn_ b (¬ fr2_ x) := by
  unfold fX5_isTooFar fr2_
  have e1 : ((1000000 : Int32) < x) ↔ 1000000 < x.toInt := Int32.lt_iff_toInt_lt
  have e2 : ((-1000000 : Int32) ≤ x) ↔ -1000000 ≤ x.toInt := Int32.le_iff_toInt_le
  by_cases h1 : 1000000 < x.toInt
  · rw [if_pos (e1.mpr h1)]; exact ⟨_, rfl, Or.inl ⟨rfl, by omega⟩⟩
  · rw [if_neg (fun q => h1 (e1.mp q))]
    by_cases h2 : -1000000 ≤ x.toInt
    · rw [if_pos (e2.mpr h2)]; exact ⟨_, rfl, Or.inr ⟨rfl, by omega⟩⟩
    · rw [if_neg (fun q => h2 (e2.mp q))]; exact ⟨_, rfl, Or.inl ⟨rfl, by omega⟩⟩
def yU_ (d : Nat) (y : Int32) : Int32 := if d < 2 then 0 else y
def zU_ (d : Nat) (z : Int32) : Int32 := if d < 3 then 0 else z
section RW
variable {va vb vc ve vth wl : Nat → Int32} {n d : Nat}
theorem ov_sm {w : Wl_} (hb : bw_ w) {x y z : Int32} (hx : fr2_ x) (hy : fr2_ y) (hz : fr2_ z) : sm_ (ov_ w x.toInt y.toInt z.toInt 1) := by
  obtain ⟨b1, b2, b3, b4⟩ := hb
  have a : ∀ v : Int32, fr2_ v → ab_ v.toInt 1000000 := fun v h => by unfold fr2_ at h; unfold ab_; omega
  exact ab_sm (ab_sub (ab_add (ab_add (ab_mul b1 (a x hx)) (ab_mul b2 (a y hy))) (ab_mul b3 (a z hz))) (ab_mul b4 (show ab_ 1 1 from Nat.le_refl _))) (by decide)
theorem c_row (hn : n ≤ 8) (hd : d ≤ 3) (hb : ∀ k, k < n → bw_ (gC_ va vb vc ve k)) (hT : TH_ vth) (x y z : Int32) : fX5_row (nI d) (nI n) va vb vc ve vth x y z = some (vX_ (gC_ va vb vc ve) n x (yU_ d y) (zU_ d z)) := by
  unfold fX5_row vX_
  have e1 : (if nI d < (2 : Int32) then some (0 : Int32) else some y) = some (yU_ d y) := by
    unfold yU_
    by_cases q : d < 2
    · rw [if_pos (show nI d < (2 : Int32) from nI_lt (b := 2) q (by decide)), if_pos q]
    · rw [if_neg (show ¬ nI d < (2 : Int32) from nI_nlt (b := 2) (by omega) (by omega)), if_neg q]
  have e2 : (if nI d < (3 : Int32) then some (0 : Int32) else some z) = some (zU_ d z) := by
    unfold zU_
    by_cases q : d < 3
    · rw [if_pos (show nI d < (3 : Int32) from nI_lt (b := 3) q (by decide)), if_pos q]
    · rw [if_neg (show ¬ nI d < (3 : Int32) from nI_nlt (b := 3) (by omega) (by omega)), if_neg q]
  rw [bind_yes e1, bind_yes e2]
  generalize yU_ d y = y'
  generalize zU_ d z = z'
  obtain ⟨b1, f1, h1⟩ := f_tooFar x
  obtain ⟨b2, f2, h2⟩ := f_tooFar y'
  obtain ⟨b3, f3, h3⟩ := f_tooFar z'
  rw [bind_yes f1]
  rcases h1 with ⟨rfl, h1⟩ | ⟨rfl, h1⟩
  · rw [if_neg (by decide), ci2_f (fun q => h1 q.1)]
  rw [if_pos rfl, bind_yes f2]
  rcases h2 with ⟨rfl, h2⟩ | ⟨rfl, h2⟩
  · rw [if_neg (by decide), ci2_f (fun q => h2 q.2.1)]
  rw [if_pos rfl, bind_yes f3]
  rcases h3 with ⟨rfl, h3⟩ | ⟨rfl, h3⟩
  · rw [if_neg (by decide), ci2_f (fun q => h3 q.2.2)]
  have h1' := Classical.not_not.mp h1
  have h2' := Classical.not_not.mp h2
  have h3' := Classical.not_not.mp h3
  rw [if_pos rfl, ci2_t ⟨h1', h2', h3'⟩]
  have hs := f_signs (va := va) (vb := vb) (vc := vc) (ve := ve) hn (x := x.toInt) (y := y'.toInt) (z := z'.toInt) (t := 1) (fun k hk => ov_sm (hb k hk) h1' h2' h3')
  rw [iI_of, iI_of, iI_of] at hs
  have hs' : fX3_signs (nI n) va vb vc ve x y' z' (1 : Int32) = _ := hs
  rw [bind_yes hs', bind_yes (f_rowOf hT hn (fun k _ => sz_le _))]
theorem m_rowL {x y z : Int32} (hn : n ≤ 8) (hb : ∀ k, k < n → bw_ (gM_ wl k)) (hx : fr2_ x) (hy : fr2_ y) (hz : fr2_ z) (t : Nat → Int32) (t0 : t 0 = x) (t1 : t 1 = y) (t2 : t 2 = z) :
    lp_ (fun (st : (Int32 × Int32)) => fX6_row_L79 (nI n) wl t st.1 st.2) fu_ ((0 : Int32), (0 : Int32)) = some (nI n, nI (rn_ (fun k => sz_ (ov_ (gM_ wl k) x.toInt y.toInt z.toInt 1)) n)) := by
  refine lp_seq (body := fun (st : (Int32 × Int32)) => fX6_row_L79 (nI n) wl t st.1 st.2) (fun k => (nI k, nI (rn_ (fun k => sz_ (ov_ (gM_ wl k) x.toInt y.toInt z.toInt 1)) k))) n (by omega) ?_ ?_
  · intro k hk
    show fX6_row_L79 (nI n) wl t (nI k) _ = _
    unfold fX6_row_L79
    have c0 : fX6_at wl (nI k) (0 : Int32) = some (wl (4 * k)) := f_at wl (c := 0) (by omega)
    have c1 : fX6_at wl (nI k) (1 : Int32) = some (wl (4 * k + 1)) := f_at wl (c := 1) (by omega)
    have c2 : fX6_at wl (nI k) (2 : Int32) = some (wl (4 * k + 2)) := f_at wl (c := 2) (by omega)
    have c3 : fX6_at wl (nI k) (3 : Int32) = some (wl (4 * k + 3)) := f_at wl (c := 3) (by omega)
    rw [if_neg (nI_ge hk (by omega)), bind_yes c0, ck_yes (show in_R (0 : Int32) 3 from in_R_nI (k := 0) (by decide) (by decide)), bind_yes c1, ck_yes (show in_R (1 : Int32) 3 from in_R_nI (k := 1) (by decide) (by decide)), bind_yes c2, ck_yes (show in_R (2 : Int32) 3 from in_R_nI (k := 2) (by decide) (by decide))]
    rw [show (0 : Int32).toNatClampNeg = 0 from rfl, show (1 : Int32).toNatClampNeg = 1 from rfl, show (2 : Int32).toNatClampNeg = 2 from rfl, t0, t1, t2]
    dsimp only [nm_]
    rw [bind_yes (f_power (by omega)), bind_yes c3, bind_yes c3]
    have hsum : wl (4 * k) * x + wl (4 * k + 1) * y + wl (4 * k + 2) * z = iI_ ((gM_ wl k).1 * x.toInt + (gM_ wl k).2.1 * y.toInt + (gM_ wl k).2.2.1 * z.toInt) := by
      rw [gM_0 wl k, gM_1 wl k, gM_2 wl k]
      conv => lhs; rw [← iI_of x, ← iI_of y, ← iI_of z]
      rw [iI_mul, iI_mul, iI_mul, iI_add, iI_add]
    rw [hsum, gM_3 wl k]
    obtain ⟨b1, b2, b3, b4⟩ := hb k hk
    have a : ∀ v : Int32, fr2_ v → ab_ v.toInt 1000000 := fun v h => by unfold fr2_ at h; unfold ab_; omega
    have hs1 : sm_ ((gM_ wl k).1 * x.toInt + (gM_ wl k).2.1 * y.toInt + (gM_ wl k).2.2.1 * z.toInt) := ab_sm (ab_add (ab_add (ab_mul b1 (a x hx)) (ab_mul b2 (a y hy))) (ab_mul b3 (a z hz))) (by decide)
    have hs2 : sm_ (gM_ wl k).2.2.2 := ab_sm b4 (by decide)
    have e1 := iI_le hs2 hs1
    have e2 := iI_eq hs1 hs2
    have hr : rn_ (fun k => sz_ (ov_ (gM_ wl k) x.toInt y.toInt z.toInt 1)) (k + 1) = rn_ (fun k => sz_ (ov_ (gM_ wl k) x.toInt y.toInt z.toInt 1)) k + sz_ (ov_ (gM_ wl k) x.toInt y.toInt z.toInt 1) * 3 ^ k := rfl
    rw [hr]
    unfold sz_ ov_
    generalize (gM_ wl k).1 * x.toInt + (gM_ wl k).2.1 * y.toInt + (gM_ wl k).2.2.1 * z.toInt = v at *
    generalize (gM_ wl k).2.2.2 = e at *
    by_cases q1 : e ≤ v
    · rw [if_pos (e1.mpr q1)]
      by_cases q2 : v = e
      · rw [if_pos (e2.mpr q2), if_pos (by omega), show (1 : Int32) = nI 1 from rfl, pk_mul, nI_add, nI_add, Nat.mul_comm]
      · rw [if_neg (fun q => q2 (e2.mp q)), if_neg (by omega), if_neg (by omega), show (2 : Int32) = nI 2 from rfl, pk_mul, nI_add, nI_1, Nat.mul_comm]
    · rw [if_neg (fun q => q1 (e1.mp q)), if_neg (by omega), if_pos (by omega), show (0 : Int32) = nI 0 from rfl, pk_mul, nI_add, nI_1, Nat.mul_comm]
  · show fX6_row_L79 (nI n) wl t (nI n) _ = _
    unfold fX6_row_L79
    rw [if_pos (nI_le (Nat.le_refl n) (by omega))]
theorem m_inF (x : Int32) : ∃ b, fX6_in x (-1000000) 1000000 = some b ∧ yn_ b (fr2_ x) := by
  unfold fX6_in fr2_
  have e1 : ((1000000 : Int32) < x) ↔ 1000000 < x.toInt := Int32.lt_iff_toInt_lt
  have e2 : (x < (-1000000 : Int32)) ↔ x.toInt < -1000000 := Int32.lt_iff_toInt_lt
  by_cases h2 : x.toInt < -1000000
  · rw [if_pos (e2.mpr h2)]; exact ⟨_, rfl, Or.inr ⟨rfl, by omega⟩⟩
  · rw [if_neg (fun q => h2 (e2.mp q))]
    by_cases h1 : 1000000 < x.toInt
    · rw [if_pos (e1.mpr h1)]; exact ⟨_, rfl, Or.inr ⟨rfl, by omega⟩⟩
    · rw [if_neg (fun q => h1 (e1.mp q))]; exact ⟨_, rfl, Or.inl ⟨rfl, by omega⟩⟩
theorem m_row (hn : n ≤ 8) (hd : d ≤ 3) (hb : ∀ k, k < n → bw_ (gM_ wl k)) (x y z : Int32) : fX6_row (nI d) (nI n) wl x y z = some (vX_ (gM_ wl) n x (yU_ d y) (zU_ d z)) := by
  unfold fX6_row
  have e1 : (if nI d ≤ (1 : Int32) then some (0 : Int32) else some y) = some (yU_ d y) := by
    unfold yU_
    by_cases q : d < 2
    · rw [if_pos (show nI d ≤ (1 : Int32) from nI_le (b := 1) (by omega) (by decide)), if_pos q]
    · rw [if_neg (show ¬ nI d ≤ (1 : Int32) from nI_ge (a := 1) (by omega) (by omega)), if_neg q]
  have e2 : (if nI d ≤ (2 : Int32) then some (0 : Int32) else some z) = some (zU_ d z) := by
    unfold zU_
    by_cases q : d < 3
    · rw [if_pos (show nI d ≤ (2 : Int32) from nI_le (b := 2) (by omega) (by decide)), if_pos q]
    · rw [if_neg (show ¬ nI d ≤ (2 : Int32) from nI_ge (a := 2) (by omega) (by omega)), if_neg q]
  rw [ck_yes (show in_R (0 : Int32) 3 from in_R_nI (k := 0) (by decide) (by decide)), bind_yes e1, ck_yes (show in_R (1 : Int32) 3 from in_R_nI (k := 1) (by decide) (by decide)), bind_yes e2, ck_yes (show in_R (2 : Int32) 3 from in_R_nI (k := 2) (by decide) (by decide))]
  generalize yU_ d y = y'
  generalize zU_ d z = z'
  rw [show (0 : Int32).toNatClampNeg = 0 from rfl, show (1 : Int32).toNatClampNeg = 1 from rfl, show (2 : Int32).toNatClampNeg = 2 from rfl]
  dsimp only [nm_]
  generalize ht : upd (upd (upd (fun (_ : Nat) => (0 : Int32)) 0 x) 1 y') 2 z' = t
  have t0 : t 0 = x := by rw [← ht, pk_un (by decide), pk_un (by decide), pk_us]
  have t1 : t 1 = y' := by rw [← ht, pk_un (by decide), pk_us]
  have t2 : t 2 = z' := by rw [← ht, pk_us]
  have hlp := lp_for (body := fun (st : Int32) => fX6_row_L44 t st)
    (fun k st => st = nI k ∧ ∀ j, j < k → fr2_ (t j))
    (fun u => (∃ j, u = .inl j) ∧ (∀ j, j < 3 → fr2_ (t j)) ∨ u = .inr (-1) ∧ ∃ j, j < 3 ∧ ¬ fr2_ (t j)) 3 (by decide) (s := (0 : Int32)) ⟨rfl, fun j hj => absurd hj (Nat.not_lt_zero j)⟩ ?_ ?_
  · obtain ⟨u, f1, f2⟩ := hlp
    rw [bind_yes f1]
    unfold vX_
    rcases f2 with ⟨⟨j, rfl⟩, f2⟩ | ⟨rfl, j, hj, f2⟩
    · have g0 := f2 0 (by decide)
      have g1 := f2 1 (by decide)
      have g2 := f2 2 (by decide)
      rw [t0] at g0
      rw [t1] at g1
      rw [t2] at g2
      rw [ci2_t ⟨g0, g1, g2⟩]
      show (lp_ _ fu_ _).bind _ = _
      rw [bind_yes (m_rowL hn hb g0 g1 g2 t t0 t1 t2)]
    · rw [ci2_f (fun q => f2 (by
        rcases (show j = 0 ∨ j = 1 ∨ j = 2 by omega) with rfl | rfl | rfl
        · rw [t0]; exact q.1
        · rw [t1]; exact q.2.1
        · rw [t2]; exact q.2.2))]
      rfl
  · rintro k st hk ⟨rfl, h2⟩
    unfold fX6_row_L44
    rw [if_neg (show ¬ (3 : Int32) ≤ nI k from nI_ge (a := k) (b := 3) hk (by decide)), ck_yes (in_R_nI hk (by decide)), nI_clamp (by omega)]
    obtain ⟨b, f, hy⟩ := m_inF (t k)
    rw [bind_yes f]
    rcases hy with ⟨rfl, w⟩ | ⟨rfl, w⟩
    · left
      rw [if_neg (by decide)]
      refine ⟨_, rfl, nI_1 k, fun j hj => ?_⟩
      rcases (show j < k ∨ j = k by omega) with c | rfl
      · exact h2 j c
      · exact w
    · right
      rw [if_pos rfl]
      exact ⟨_, rfl, Or.inr ⟨rfl, k, hk, w⟩⟩
  · rintro st ⟨rfl, h2⟩
    unfold fX6_row_L44
    rw [if_pos (show (3 : Int32) ≤ nI 3 by decide)]
    exact ⟨_, rfl, Or.inl ⟨⟨_, rfl⟩, h2⟩⟩
end RW
