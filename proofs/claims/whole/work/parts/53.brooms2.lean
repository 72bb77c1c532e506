/-! the class's count of bounded rooms -/
def Bx_ (d : Nat) : List Wl_ := if d = 1 then [aw_ 1, aw_ 2] else if d = 2 then [aw_ 2] else []
theorem Bx_mem {d : Nat} (h1 : 1 ≤ d) (h3 : d ≤ 3) {x : Wl_} : x ∈ Bx_ d ↔ ∃ j, j < 3 ∧ d ≤ j ∧ x = aw_ j := by
  unfold Bx_
  rcases (show d = 1 ∨ d = 2 ∨ d = 3 by omega) with rfl | rfl | rfl
  · rw [if_pos rfl]
    simp only [List.mem_cons, List.not_mem_nil, or_false]
    constructor
    · rintro (rfl | rfl)
      · exact ⟨1, by decide, by decide, rfl⟩
      · exact ⟨2, by decide, by decide, rfl⟩
    · rintro ⟨j, hj, hd, rfl⟩
      rcases (show j = 1 ∨ j = 2 by omega) with rfl | rfl
      · exact Or.inl rfl
      · exact Or.inr rfl
  · rw [if_neg (by decide), if_pos rfl]
    simp only [List.mem_cons, List.not_mem_nil, or_false]
    constructor
    · rintro rfl; exact ⟨2, by decide, by decide, rfl⟩
    · rintro ⟨j, hj, hd, rfl⟩
      have : j = 2 := by omega
      rw [this]
  · rw [if_neg (by decide), if_neg (by decide)]
    constructor
    · intro h; cases h
    · rintro ⟨j, hj, hd, rfl⟩; omega
theorem Bx_id {d : Nat} (h1 : 1 ≤ d) (h3 : d ≤ 3) : Id_ (Bx_ d) := by
  unfold Bx_
  have e2 : ∃ u, pB_ [] u ∧ dr_ (aw_ 2) u ≠ 0 := ⟨(0, 0, 1), fun x hx => (by cases hx), by rw [dr_aw (by decide)]; unfold xc_; decide +kernel⟩
  rcases (show d = 1 ∨ d = 2 ∨ d = 3 by omega) with rfl | rfl | rfl
  · rw [if_pos rfl]
    refine ⟨⟨trivial, e2⟩, (0, 1, 0), ?_, ?_⟩
    · intro x hx
      simp only [List.mem_cons, List.not_mem_nil, or_false] at hx
      subst hx
      rw [dr_aw (by decide)]; unfold xc_; decide +kernel
    · rw [dr_aw (by decide)]; unfold xc_; decide +kernel
  · rw [if_neg (by decide), if_pos rfl]
    exact ⟨trivial, e2⟩
  · rw [if_neg (by decide), if_neg (by decide)]
    trivial
/-- a place with the numbers of space alone -/
def pj_ (d : Nat) (p : V3_) : V3_ := (p.1, if d ≤ 1 then 0 else p.2.1, if d ≤ 2 then 0 else p.2.2)
theorem xc_pj {d j : Nat} (hj : j < 3) (h1 : 1 ≤ d) (hd : d ≤ j) (p : V3_) : xc_ j (pj_ d p) = 0 := by
  rcases (show j = 1 ∨ j = 2 by omega) with rfl | rfl
  · unfold xc_ pj_
    simp only [show ¬ (1 = 0) by decide, if_false, if_true]
    rw [if_pos hd]
  · unfold xc_ pj_
    simp only [show ¬ (2 = 0) by decide, show ¬ (2 = 1) by decide, if_false]
    rw [if_pos hd]
theorem ev_pj {G : Nat → Wl_} {n d : Nat} (hI : MI_ G n d) {k : Nat} (hk : k < n) (p : V3_) : ev_ (G k) (pj_ d p) = ev_ (G k) p := by
  obtain ⟨hn, hd1, hd3, hb, hnv, hz, _⟩ := hI
  have z1 := hz k hk 1 (by decide)
  have z2 := hz k hk 2 (by decide)
  simp only [cf_] at z1 z2
  simp at z1 z2
  have z : ((0 : Int) : Rat) = 0 := rfl
  unfold ev_ dr_ pj_
  dsimp only
  by_cases q1 : d ≤ 1
  · rw [if_pos q1, if_pos (by omega), z1 q1, z2 (by omega), z]; grind
  · rw [if_neg q1]
    by_cases q2 : d ≤ 2
    · rw [if_pos q2, z2 q2, z]; grind
    · rw [if_neg q2]
theorem ev_aw {j : Nat} (hj : j < 3) (p : V3_) : ev_ (aw_ j) p = xc_ j p := by
  unfold ev_
  rw [dr_aw hj]
  have : ((aw_ j).2.2.2 : Int) = 0 := by rcases (show j = 0 ∨ j = 1 ∨ j = 2 by omega) with rfl | rfl | rfl <;> rfl
  rw [this]
  have z : ((0 : Int) : Rat) = 0 := rfl
  rw [z]; grind
theorem oB_pj {d : Nat} (h1 : 1 ≤ d) (h3 : d ≤ 3) (p : V3_) : oB_ (Bx_ d) (pj_ d p) := by
  intro x hx
  obtain ⟨j, hj, hd, rfl⟩ := (Bx_mem h1 h3).mp hx
  rw [ev_aw hj]; exact xc_pj hj h1 hd p
theorem in_iN (P : Prop) : in_ P = (iN_ P : Int) := by
  by_cases h : P
  · rw [in_1 h, iN_1 h]; rfl
  · rw [in_0 h, iN_0 h]; rfl
section ZC
variable {G : Nat → Wl_} {n d : Nat}
theorem BdR_Bd (hI : MI_ G n d) (hrk : rk_ (hS_ G (2 ^ n - 1)) = d) {r : Nat} (hr : r < 3 ^ n) : ((∀ k, k < n → dg_ r k ≠ 1) ∧ Bd_ (Bx_ d) (sr_ G r n [])) ↔ BdR_ G n d r := by
  have hd1 := hI.2.1
  have hd3 := hI.2.2.1
  have hmem : ∀ x, x ∈ sr_ G r n [] ↔ ∃ k, k < n ∧ x = (G k, decide (dg_ r k = 2)) := fun x => by
    rw [sr_mem]
    exact ⟨fun h => (by rcases h with h | h; exact h; cases h), fun h => Or.inl h⟩
  have hs : ∀ p, (∀ k, k < n → dg_ r k ≠ 1) → (sB_ (sr_ G r n []) p ↔ ∀ k, k < n → sg_ (ev_ (G k) p) = dg_ r k) := by
    intro p hne
    constructor
    · intro h k hk
      have a := h _ ((hmem _).mpr ⟨k, hk, rfl⟩)
      dsimp only at a
      have hle := dg_le r k
      have := hne k hk
      rcases (show dg_ r k = 0 ∨ dg_ r k = 2 by omega) with q | q
      · rw [q, show decide (0 = 2) = false from rfl, s1_f] at a
        rw [q]; exact sg_neg a
      · rw [q, show decide (2 = 2) = true from rfl, s1_t] at a
        rw [q]; exact sg_pos a
    · intro h x hx
      obtain ⟨k, hk, rfl⟩ := (hmem x).mp hx
      dsimp only
      have a := h k hk
      have hle := dg_le r k
      have := hne k hk
      rcases (show dg_ r k = 0 ∨ dg_ r k = 2 by omega) with q | q
      · rw [q, show decide (0 = 2) = false from rfl, s1_f]
        rw [q] at a; exact sg_eq0.mp a
      · rw [q, show decide (2 = 2) = true from rfl, s1_t]
        rw [q] at a; exact sg_eq2.mp a
  have hRe : (∀ k, k < n → dg_ r k ≠ 1) → (Re_ (Bx_ d) (sr_ G r n []) ↔ Fa_ G n r) := by
    intro hne
    constructor
    · rintro ⟨p, _, h2⟩
      exact Fa_iff.mpr ⟨hr, p, (hs p hne).mp h2⟩
    · intro hF
      obtain ⟨_, p, hp⟩ := Fa_iff.mp hF
      refine ⟨pj_ d p, oB_pj hd1 hd3 p, (hs _ hne).mpr (fun k hk => ?_)⟩
      rw [ev_pj hI hk]; exact hp k hk
  have hRc : Rc_ (Bx_ d) (sr_ G r n []) ↔ Op_ G n d r := by
    constructor
    · rintro ⟨u, h1, h2, h3⟩
      refine ⟨u, h3, fun j hj hdj => ?_, fun k hk => h2 _ ((hmem _).mpr ⟨k, hk, rfl⟩)⟩
      rw [← dr_aw hj]; exact h1 _ ((Bx_mem hd1 hd3).mpr ⟨j, hj, hdj, rfl⟩)
    · rintro ⟨u, h1, h2, h3⟩
      refine ⟨u, fun x hx => ?_, fun x hx => ?_, h1⟩
      · obtain ⟨j, hj, hdj, rfl⟩ := (Bx_mem hd1 hd3).mp hx
        rw [dr_aw hj]; exact h2 j hj hdj
      · obtain ⟨k, hk, rfl⟩ := (hmem x).mp hx
        exact h3 k hk
  unfold Bd_ BdR_ Ro_
  constructor
  · rintro ⟨h1, h2, h3⟩
    exact ⟨⟨(hRe h1).mp h2, h1⟩, hrk, fun q => h3 (hRc.mpr q)⟩
  · rintro ⟨⟨h1, h2⟩, _, h3⟩
    exact ⟨h2, (hRe h2).mpr h1, fun q => h3 (hRc.mp q)⟩
theorem Si_sS (hI : MI_ G n d) : Si_ n (hC_ G) = sS_ (wl_ G n) (Bx_ d) := by
  have hn := hI.1
  rw [← sS_sum]
  unfold Si_
  refine fb_si_cong (fun h hh => ?_)
  have hs : sgm_ n h = sg2_ h := by
    unfold sgm_ sg2_
    rw [show (8 : Nat) = n + (8 - n) by omega, fb_ct_split]
    have : fb_ct (fun k => h.testBit (n + k)) (8 - n) = 0 := fb_ct_zero.mpr (fun k _ => Nat.testBit_lt_two_pow (Nat.lt_of_lt_of_le hh (Nat.pow_le_pow_right (by decide) (by omega))))
    rw [this, Nat.add_zero]
  have hc : hC_ G h ↔ ∃ p, oB_ (Bx_ d) p ∧ ∀ k, k < n → h.testBit k = true → ev_ (G k) p = 0 := by
    constructor
    · rintro ⟨p, hp⟩
      exact ⟨pj_ d p, oB_pj hI.2.1 hI.2.2.1 p, fun k hk hb => by rw [ev_pj hI hk]; exact hp k hb⟩
    · rintro ⟨p, _, hp⟩
      exact ⟨p, fun k hb => hp k (lt_bit hh hb) hb⟩
  rw [hs]
  by_cases q : hC_ G h
  · rw [if_pos (pb_t.mpr q), in_1 (hc.mp q), Int.one_mul]
  · rw [if_neg (fun z => q (pb_t.mp z)), in_0 (fun z => q (hc.mpr z)), Int.zero_mul]
theorem zas_rooms (hI : MI_ G n d) (hrk : rk_ (hS_ G (2 ^ n - 1)) = d) : ((fb_sm (fun r => iN_ (BdR_ G n d r)) (3 ^ n) : Nat) : Int) = sg3_ (Bx_ d).length * Si_ n (hC_ G) := by
  rw [Si_sS hI, ← zas_ (wl_ G n) (Bx_ d) (Bx_id hI.2.1 hI.2.2.1) ⟨pj_ d o3_, oB_pj hI.2.1 hI.2.2.1 _⟩ (fun u h1 h2 => ker_0 hI hrk (fun j hj hdj => by
    rw [← dr_aw hj]; exact h1 _ ((Bx_mem hI.2.1 hI.2.2.1).mpr ⟨j, hj, hdj, rfl⟩)) (fun k hk => h2 _ (wl_get hk))), ← cn_sum, ← fb_si_nat]
  refine fb_si_cong (fun r hr => ?_)
  rw [in_cg (BdR_Bd hI hrk hr), in_iN]
theorem Si_powers (hI : MI_ G n d) : ∀ k, fb_si (fun q => Si_ n (Fp_ G d (nI q))) k = Si_ n (fun h => hC_ G h ∧ d - rk_ (hS_ G h) < k) ∨ 2 ^ 31 ≤ k := by
  intro k
  induction k with
  | zero =>
    left
    rw [Si_none (P := fun h => hC_ G h ∧ d - rk_ (hS_ G h) < 0) (fun h _ q => absurd q.2 (Nat.not_lt_zero _))]
    rfl
  | succ k ih =>
    by_cases hk : 2 ^ 31 ≤ k + 1
    · exact Or.inr hk
    · left
      rcases ih with ih | ih
      · rw [fb_si_succ, ih, Si_split n (fun h => hC_ G h ∧ d - rk_ (hS_ G h) < k + 1) (fun h => d - rk_ (hS_ G h) < k)]
        have e1 : Si_ n (fun h => (hC_ G h ∧ d - rk_ (hS_ G h) < k + 1) ∧ d - rk_ (hS_ G h) < k) = Si_ n (fun h => hC_ G h ∧ d - rk_ (hS_ G h) < k) := Si_cg (fun h _ => ⟨fun q => ⟨q.1.1, q.2⟩, fun q => ⟨⟨q.1, by omega⟩, q.2⟩⟩)
        have e2 : Si_ n (fun h => (hC_ G h ∧ d - rk_ (hS_ G h) < k + 1) ∧ ¬ d - rk_ (hS_ G h) < k) = Si_ n (Fp_ G d (nI k)) := by
          refine Si_cg (fun h hh => ?_)
          have hrd := rk_d hI hh
          have hd := hI.2.2.1
          unfold Fp_
          rw [pk_sub hrd, nI_eq (by omega) (by omega)]
          constructor
          · rintro ⟨⟨q1, q2⟩, q3⟩; exact ⟨q1, by omega⟩
          · rintro ⟨q1, q2⟩; exact ⟨⟨q1, by omega⟩, by omega⟩
        rw [e1, e2]
      · omega
end ZC
section ZD
variable {va vb vc ve vth : Nat → Int32} {n d : Nat}
theorem c_boundedRooms (hI : MI_ (gC_ va vb vc ve) n d) (hP : PI_ (gC_ va vb vc ve) n) (hT : TH_ vth) {u : CT_} (hu : cI_ (gC_ va vb vc ve) n d u) : ∃ u' : CT_, fX5_boundedRooms (nI d) (nI n) u.1 u.2.1 u.2.2.1 va vb vc ve vth u.2.2.2.1 u.2.2.2.2.1 u.2.2.2.2.2.1 u.2.2.2.2.2.2.1 u.2.2.2.2.2.2.2.1 u.2.2.2.2.2.2.2.2.1 u.2.2.2.2.2.2.2.2.2.1 u.2.2.2.2.2.2.2.2.2.2.1 u.2.2.2.2.2.2.2.2.2.2.2.1 u.2.2.2.2.2.2.2.2.2.2.2.2.1 u.2.2.2.2.2.2.2.2.2.2.2.2.2.1 u.2.2.2.2.2.2.2.2.2.2.2.2.2.2.1 u.2.2.2.2.2.2.2.2.2.2.2.2.2.2.2.1 u.2.2.2.2.2.2.2.2.2.2.2.2.2.2.2.2.1 u.2.2.2.2.2.2.2.2.2.2.2.2.2.2.2.2.2.1 u.2.2.2.2.2.2.2.2.2.2.2.2.2.2.2.2.2.2.1 u.2.2.2.2.2.2.2.2.2.2.2.2.2.2.2.2.2.2.2.1 u.2.2.2.2.2.2.2.2.2.2.2.2.2.2.2.2.2.2.2.2.1 u.2.2.2.2.2.2.2.2.2.2.2.2.2.2.2.2.2.2.2.2.2.1 u.2.2.2.2.2.2.2.2.2.2.2.2.2.2.2.2.2.2.2.2.2.2.1 u.2.2.2.2.2.2.2.2.2.2.2.2.2.2.2.2.2.2.2.2.2.2.2.1 u.2.2.2.2.2.2.2.2.2.2.2.2.2.2.2.2.2.2.2.2.2.2.2.2.1 u.2.2.2.2.2.2.2.2.2.2.2.2.2.2.2.2.2.2.2.2.2.2.2.2.2 = some (vR_ (gC_ va vb vc ve) n d, u') ∧ cI_ (gC_ va vb vc ve) n d u' := by
  unfold fX5_boundedRooms
  have hn := hP.1
  have hd3 := hI.2.2.1
  have h3 := p3_6561 hn
  have h2p : 0 < 2 ^ n := Nat.pow_pos (by decide)
  obtain ⟨u', e, hF⟩ := f_freshCut hP hT hu
  obtain ⟨h5, h6, fo, li, h7, h8, hC⟩ := hF
  have hU : cI_ (gC_ va vb vc ve) n d u' := Or.inr ⟨h5, h6, fo, li, h7, h8, hC⟩
  have hrd := rk_d hI (h := 2 ^ n - 1) (by omega)
  rw [bind_yes e, bind_yes (f_rankAll hn hC)]
  by_cases q : rk_ (hS_ (gC_ va vb vc ve) (2 ^ n - 1)) = d
  · rw [if_pos (nI_le (show d ≤ rk_ (hS_ (gC_ va vb vc ve) (2 ^ n - 1)) by omega) (by omega))]
    have hlp : lp_ (fun (st : (Int32 × Int32)) => fX5_boundedRooms_L28 (nI d) (nI n) u' st.1 st.2) fu_ ((0 : Int32), (0 : Int32)) = some (nI (d + 1), iI_ (fb_si (fun q => Si_ n (Fp_ (gC_ va vb vc ve) d (nI q))) (d + 1))) := by
      refine lp_seq (body := fun (st : (Int32 × Int32)) => fX5_boundedRooms_L28 (nI d) (nI n) u' st.1 st.2) (fun k => (nI k, iI_ (fb_si (fun q => Si_ n (Fp_ (gC_ va vb vc ve) d (nI q))) k))) (d + 1) (by omega) ?_ ?_
      · intro k hk
        show fX5_boundedRooms_L28 (nI d) (nI n) u' (nI k) _ = _
        unfold fX5_boundedRooms_L28
        rw [if_neg (nI_nlt (show k ≤ d by omega) (by omega)), bind_yes (f_factor0 hn hC (nI k)), nI_1]
        unfold vP_
        rw [iI_add]
        rfl
      · show fX5_boundedRooms_L28 (nI d) (nI n) u' (nI (d + 1)) _ = _
        unfold fX5_boundedRooms_L28
        rw [if_pos (nI_lt (show d < d + 1 by omega) (by omega))]
    rw [bind_yes hlp]
    dsimp only
    have hsum : fb_si (fun q => Si_ n (Fp_ (gC_ va vb vc ve) d (nI q))) (d + 1) = Si_ n (hC_ (gC_ va vb vc ve)) := by
      rcases Si_powers hI (d + 1) with w | w
      · rw [w]
        exact Si_cg (fun h _ => ⟨fun z => z.1, fun z => ⟨z, by omega⟩⟩)
      · omega
    have hz := zas_rooms hI q
    have hcnt := sm_iN_le (fun r => BdR_ (gC_ va vb vc ve) n d r) (3 ^ n)
    rw [hsum]
    unfold vR_
    generalize fb_sm (fun r => iN_ (BdR_ (gC_ va vb vc ve) n d r)) (3 ^ n) = c at *
    generalize Si_ n (hC_ (gC_ va vb vc ve)) = S at *
    have hsg : sg3_ (Bx_ d).length = 1 ∨ sg3_ (Bx_ d).length = -1 := by unfold sg3_; split <;> simp
    have habs : (if (0 : Int32) ≤ iI_ S then iI_ S else 0 - iI_ S) = nI c := by
      have h0 : sm_ 0 := by unfold sm_; omega
      have hS : sm_ S := by
        unfold sm_
        rcases hsg with w | w <;> rw [w] at hz <;> omega
      have e1 : ((0 : Int32) ≤ iI_ S) ↔ 0 ≤ S := iI_le h0 hS
      rcases hsg with w | w
      · rw [w, Int.one_mul] at hz
        rw [if_pos (e1.mpr (by omega)), ← hz, iI_nat]
      · rw [w] at hz
        by_cases z : 0 ≤ S
        · have : S = 0 := by omega
          rw [if_pos (e1.mpr z), this]
          have : c = 0 := by omega
          rw [this]; rfl
        · rw [if_neg (fun y => z (e1.mp y)), show (0 : Int32) = iI_ 0 from rfl, iI_sub, ← iI_nat]
          congr 1
          omega
    rw [habs]
    exact ⟨u', rfl, hU⟩
  · rw [if_neg (nI_ge (show rk_ (hS_ (gC_ va vb vc ve) (2 ^ n - 1)) < d by omega) (by omega))]
    unfold vR_
    have : fb_sm (fun r => iN_ (BdR_ (gC_ va vb vc ve) n d r)) (3 ^ n) = 0 := by
      rw [fb_sm_cong (g := fun _ => 0) (fun r _ => iN_0 (fun z => q z.2.1)), fb_sm_const]; simp
    rw [this]
    exact ⟨u', rfl, hU⟩
end ZD
