/-! marks on rows; a place is reached -/
def mkd_ (vmk : Nat → Int32) (r : Nat) : Bool := bt (vmk (r / 32)) (r % 32)
theorem b_1 : ∀ i, i < 32 → bt 1 i = decide (i = 0) := by decide +kernel
theorem one_bit (y : Int32) : (y &&& 1 = 1) ↔ bt y 0 = true := by
  constructor
  · intro h
    have := congrArg (fun x => bt x 0) h
    simp only [b_and, b_1 0 (by decide)] at this
    simpa using this
  · intro h
    apply b_ext
    intro i hi
    rw [b_and, b_1 i hi]
    by_cases q : i = 0
    · subst q; rw [h]; rfl
    · simp [q]
theorem f_isMarked (vmk : Nat → Int32) {r : Nat} (hr : r < 6561) : fX1_isMarked vmk (nI r) = some (if mkd_ vmk r = true then 1 else 0) := by
  unfold fX1_isMarked
  have h1 : nI r >>> ((5 : Int32) &&& 31) = nI (r / 32) := pk_shrN (by omega) _ 5 (by decide)
  have h2 : nI r &&& (31 : Int32) = nI (r % 32) := pk_andN (by omega) 5 (by decide)
  rw [h1, h2, ck_yes (in_R_nI (show r / 32 < 206 by omega) (by decide)), nI_clamp (by omega)]
  have h3 := one_bit (((vmk (r / 32)).toUInt32 >>> ((nI (r % 32)).toUInt32 &&& Int32.toUInt32 31)).toInt32)
  rw [b_ushr (r % 32) (by omega)] at h3
  simp only [h3, Nat.add_zero]
  unfold mkd_
  split <;> simp [*]
theorem mkd_upd (vmk : Nat → Int32) (r r' : Nat) : mkd_ (upd vmk (r / 32) (vmk (r / 32) ||| ((1 : Int32) <<< (nI (r % 32) &&& 31)))) r' = if r' = r then true else mkd_ vmk r' := by
  unfold mkd_
  by_cases hq : r' / 32 = r / 32
  · rw [hq, pk_us, b_or, b_shl (r % 32) (by omega) 1 (by omega), b_1 _ (by omega)]
    by_cases hr : r' = r
    · subst hr; simp
    · rw [if_neg hr]
      have h1 : ¬ (r % 32 ≤ r' % 32 ∧ r' % 32 - r % 32 = 0) := by omega
      by_cases h2 : r % 32 ≤ r' % 32
      · have h3 : ¬ r' % 32 - r % 32 = 0 := fun q => h1 ⟨h2, q⟩
        simp [h3]
      · simp [h2]
  · rw [pk_un hq, if_neg (fun q => hq (by rw [q]))]
/-- the rows that are found so far: each is a place's; the queue, and the heaps that have a face's walls -/
def CS_ (G : Nat → Wl_) (n fo : Nat) (cm mk re : Nat → Int32) : Prop :=
  fo = fb_ct (mkd_ mk) 6561 ∧
  (∀ r, r < 6561 → mkd_ mk r = true → Fa_ G n r) ∧
  (∀ i, i < fo → ∃ p, re i = nI (sp_ (sn_ G p) n) ∧ mkd_ mk (rp_ G n p) = true) ∧
  (∀ p, mkd_ mk (rp_ G n p) = true → ∃ i, i < fo ∧ re i = nI (sp_ (sn_ G p) n)) ∧
  (∀ h, h < 256 → (cm h = 0 ∨ cm h = 1) ∧ (cm h = 1 ↔ ∃ r, r < 6561 ∧ mkd_ mk r = true ∧ mk_ 8 r 1 = h))
theorem CS_577 {G : Nat → Wl_} {n fo : Nat} {cm mk re : Nat → Int32} (hn : n ≤ 8) (h : CS_ G n fo cm mk re) : fo ≤ 577 := by
  rw [h.1]; exact ct_faces hn h.2.1
theorem sn_cg {G : Nat → Wl_} {n : Nat} {p q : V3_} (h : rp_ G n p = rp_ G n q) : sp_ (sn_ G p) n = sp_ (sn_ G q) n := by
  have hk : ∀ k, k < n → sn_ G p k = sn_ G q k := fun k hk => by
    have := congrArg (fun r => dg_ r k) h
    simp only [rp_dg G p hk, rp_dg G q hk] at this
    exact this
  unfold sp_
  rw [bn_cg (fun k q => by rw [hk k q]), bn_cg (a := fun k => decide (sn_ G p k = 2)) (fun k q => by rw [hk k q])]
theorem on_row {G : Nat → Wl_} {n : Nat} (hn : n ≤ 8) (p : V3_) : mk_ 8 (rp_ G n p) 1 = bn_ (fun k => decide (sn_ G p k = 1)) n := by
  rw [mk_dig hn (rp_lt G n p) (by decide)]
  exact bn_cg (fun k hk => by rw [rp_dg G p hk]; rfl)
theorem f_reach {G : Nat → Wl_} {n fo : Nat} {vth cm mk re : Nat → Int32} (hn : n ≤ 8) (hT : TH_ vth) (h : CS_ G n fo cm mk re) (p : V3_) :
    ∃ fo' cm' mk' re', fX1_reach (nI fo) vth cm mk re (nI (sp_ (sn_ G p) n)) = some (nI fo', cm', mk', re') ∧ CS_ G n fo' cm' mk' re' ∧ mkd_ mk' (rp_ G n p) = true ∧ (∀ r, mkd_ mk r = true → mkd_ mk' r = true) ∧ fo ≤ fo' ∧ ∀ i, i < fo → re' i = re i := by
  have hr := rp_6561 G hn p
  unfold fX1_reach
  have hrow : fX3_rowOf vth (nI (sp_ (sn_ G p) n)) = some (nI (rp_ G n p)) := f_rowOf hT hn (fun k _ => sn_le G p k)
  rw [bind_yes hrow, bind_yes (f_isMarked mk hr)]
  by_cases hm : mkd_ mk (rp_ G n p) = true
  · rw [if_pos hm, if_neg (show ¬ (1 : Int32) = 0 by decide)]
    exact ⟨fo, cm, mk, re, rfl, h, hm, fun r h => h, Nat.le_refl _, fun _ _ => rfl⟩
  · have hm' : mkd_ mk (rp_ G n p) = false := by simpa using hm
    have hlt : fo < 577 := by rw [h.1]; exact ct_less hn h.2.1 hm' ⟨p, rfl⟩
    have hbl := bn_lt8 (fun k => decide (sn_ G p k = 1)) hn
    have h1 : nI (rp_ G n p) >>> ((5 : Int32) &&& 31) = nI (rp_ G n p / 32) := pk_shrN (by omega) _ 5 (by decide)
    have h2 : nI (rp_ G n p) &&& (31 : Int32) = nI (rp_ G n p % 32) := pk_andN (by omega) 5 (by decide)
    have hR : in_R (nI (rp_ G n p / 32)) 206 := in_R_nI (show rp_ G n p / 32 < 206 by omega) (by decide)
    rw [if_neg hm, if_pos rfl, if_pos (show nI fo < 577 from nI_lt (a := fo) (b := 577) hlt (by decide)), h1, h2, ck_yes hR, ck_yes hR, ck_yes (in_R_nI hlt (by decide)), bind_yes (f_onMask hn), ck_yes (in_R_nI hbl (by decide)), nI_clamp (by omega), nI_clamp (by omega), nI_clamp (by omega), nI_1]
    refine ⟨fo + 1, _, _, _, rfl, ?_, ?_, ?_, by omega, ?_⟩
    · refine ⟨?_, ?_, ?_, ?_, ?_⟩
      · rw [show mkd_ (upd mk (rp_ G n p / 32) (mk (rp_ G n p / 32) ||| ((1 : Int32) <<< (nI (rp_ G n p % 32) &&& 31)))) = fun r' => if r' = rp_ G n p then true else mkd_ mk r' from funext (fun r' => mkd_upd mk _ r')]
        have e := fb_ct_upd (mkd_ mk) true hr
        simp only [hm', Bool.false_eq_true, if_false, if_true] at e
        have := h.1
        omega
      · intro r hr' hrt
        rw [mkd_upd] at hrt
        by_cases q : r = rp_ G n p
        · exact ⟨p, q⟩
        · rw [if_neg q] at hrt; exact h.2.1 r hr' hrt
      · intro i hi
        rcases (show i = fo ∨ i < fo by omega) with rfl | q
        · exact ⟨p, pk_us, by rw [mkd_upd, if_pos rfl]⟩
        · obtain ⟨p', e1, e2⟩ := h.2.2.1 i q
          refine ⟨p', by rw [pk_un (show i ≠ fo by omega)]; exact e1, ?_⟩
          rw [mkd_upd, e2]; simp
      · intro p' hp'
        rw [mkd_upd] at hp'
        by_cases q : rp_ G n p' = rp_ G n p
        · exact ⟨fo, by omega, by rw [pk_us, sn_cg q]⟩
        · rw [if_neg q] at hp'
          obtain ⟨i, hi, e⟩ := h.2.2.2.1 p' hp'
          exact ⟨i, by omega, by rw [pk_un (show i ≠ fo by omega)]; exact e⟩
      · intro g hg
        obtain ⟨c1, c2⟩ := h.2.2.2.2 g hg
        by_cases q : g = bn_ (fun k => decide (sn_ G p k = 1)) n
        · rw [q, pk_us]
          refine ⟨Or.inr rfl, fun _ => ⟨rp_ G n p, hr, by rw [mkd_upd, if_pos rfl], on_row hn p⟩, fun _ => rfl⟩
        · rw [pk_un q]
          refine ⟨c1, ?_, ?_⟩
          · intro hc
            obtain ⟨r, e1, e2, e3⟩ := c2.mp hc
            exact ⟨r, e1, by rw [mkd_upd, e2]; simp, e3⟩
          · rintro ⟨r, e1, e2, e3⟩
            rw [mkd_upd] at e2
            by_cases q2 : r = rp_ G n p
            · subst q2; rw [on_row hn] at e3; exact absurd e3.symm q
            · rw [if_neg q2] at e2; exact c2.mpr ⟨r, e1, e2, e3⟩
    · rw [mkd_upd, if_pos rfl]
    · intro r hrt; rw [mkd_upd, hrt]; simp
    · intro i hi; exact pk_un (by omega)
