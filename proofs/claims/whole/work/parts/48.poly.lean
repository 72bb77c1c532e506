/-! sums over heaps: poly, without -/
def sg2_ (h : Nat) : Int := if fb_ct (fun k => h.testBit k) 8 % 2 = 0 then 1 else -1
noncomputable def Si_ (n : Nat) (P : Nat → Prop) : Int := fb_si (fun h => if pb_ (P h) = true then sg2_ h else 0) (2 ^ n)
theorem Si_cg {n : Nat} {P Q : Nat → Prop} (h : ∀ k, k < 2 ^ n → (P k ↔ Q k)) : Si_ n P = Si_ n Q := by
  unfold Si_
  refine fb_si_cong (fun k hk => ?_)
  by_cases q : P k
  · rw [if_pos (pb_t.mpr q), if_pos (pb_t.mpr ((h k hk).mp q))]
  · rw [if_neg (fun w => q (pb_t.mp w)), if_neg (fun w => q ((h k hk).mpr (pb_t.mp w)))]
/-- heaps with a place in common that go with a power -/
def Fp_ (G : Nat → Wl_) (d : Nat) (i : Int32) (h : Nat) : Prop := hC_ G h ∧ nI d - nI (rk_ (hS_ G h)) = i
theorem m_odd {h : Nat} (hh : h < 2 ^ 31) : fX6_odd (nI h) = some (iI_ (sg2_ h)) := by
  unfold fX6_odd
  have e : lp_ (fun (st : (Int32 × Int32)) => fX6_odd_L4 (nI h) st.1 st.2) fu_ ((0 : Int32), (0 : Int32)) = some (nI 8, nI (fb_ct (fun k => h.testBit k) 8)) := by
    refine lp_seq (body := fun (st : (Int32 × Int32)) => fX6_odd_L4 (nI h) st.1 st.2) (fun k => (nI k, nI (fb_ct (fun k => h.testBit k) k))) 8 (by decide) ?_ ?_
    · intro k hk
      show fX6_odd_L4 (nI h) (nI k) _ = _
      unfold fX6_odd_L4
      rw [if_neg (show ¬ (8 : Int32) ≤ nI k from nI_ge (a := k) (b := 8) hk (by decide)), bit_t hh (by omega), nI_add, nI_1]
      rfl
    · show fX6_odd_L4 (nI h) (nI 8) _ = _
      unfold fX6_odd_L4
      rw [if_pos (show (8 : Int32) ≤ nI 8 by decide)]
  have hle := fb_ct_le (fun k => h.testBit k) 8
  rw [bind_yes e]
  dsimp only
  rw [show (2 : Int32) = nI 2 from rfl, pk_rem (by omega) (by decide) (by decide)]
  unfold sg2_
  by_cases q : fb_ct (fun k => h.testBit k) 8 % 2 = 0
  · rw [if_pos (by rw [q]; rfl), if_pos q]; rfl
  · rw [if_neg (nI_ne0 (by omega) (by omega)), if_neg q]; rfl
section PL
variable {wl : Nat → Int32} {n d : Nat}
theorem andn_0 {h m n : Nat} (hh : h < 2 ^ n) (hm : m < 2 ^ n) (hn : n ≤ 8) : (nI h &&& (nI m ^^^ (-1 : Int32)) = 0) ↔ ∀ k, h.testBit k = true → m.testBit k = true := by
  have h2n : 2 ^ n ≤ 256 := Nat.pow_le_pow_right (n := 2) (j := 8) (by decide) hn
  rw [nI_andn]
  have hle : h ^^^ (h &&& m) ≤ h := sub_bits (fun k hk => by
    rw [Nat.testBit_xor, Nat.testBit_and] at hk
    cases e : h.testBit k with
    | true => rfl
    | false => rw [e] at hk; simp at hk)
  have e0 : (nI (h ^^^ (h &&& m)) = 0) ↔ h ^^^ (h &&& m) = 0 := nI_eq (b := 0) (by omega) (by decide)
  rw [e0]
  constructor
  · intro q k hk
    have := congrArg (fun x => x.testBit k) q
    simp only [Nat.testBit_xor, Nat.testBit_and, hk, Nat.zero_testBit] at this
    simpa using this
  · intro q
    apply Nat.eq_of_testBit_eq
    intro k
    rw [Nat.testBit_xor, Nat.testBit_and, Nat.zero_testBit]
    cases e : h.testBit k with
    | false => rfl
    | true => rw [q k e]; rfl
theorem m_polynomial (hI : MI_ (gM_ wl) n d) {m : Nat} (hm : m < 2 ^ n) (t : Nat → Int64) (i : Int32) : ∃ t', fX6_polynomial (nI d) (nI n) wl t (nI m) i = some (iI_ (Si_ n (fun h => Fp_ (gM_ wl) d i h ∧ ∀ k, h.testBit k = true → m.testBit k = true)), t') := by
  obtain ⟨hn, hd1, hd, hb, hnv, hz, _⟩ := hI
  have h2n : 2 ^ n ≤ 256 := Nat.pow_le_pow_right (n := 2) (j := 8) (by decide) hn
  unfold fX6_polynomial
  have hlp := lp_for (body := fun (st : (Int32 × Int32 × (Nat → Int64))) => fX6_polynomial_L5 (nI n) (nI m) wl (nI d) i st.1 st.2.1 st.2.2)
    (fun h st => st.1 = nI h ∧ st.2.1 = iI_ (fb_si (fun h => if pb_ (Fp_ (gM_ wl) d i h ∧ ∀ k, h.testBit k = true → m.testBit k = true) = true then sg2_ h else 0) h))
    (fun st => st.2.1 = iI_ (Si_ n (fun h => Fp_ (gM_ wl) d i h ∧ ∀ k, h.testBit k = true → m.testBit k = true))) (2 ^ n) (by omega) (s := ((0 : Int32), (0 : Int32), t)) ⟨rfl, rfl⟩ ?_ ?_
  · obtain ⟨⟨j, x, t'⟩, e1, e2⟩ := hlp
    dsimp only at e2
    subst e2
    rw [bind_yes e1]
    exact ⟨t', rfl⟩
  · rintro h ⟨j, x, t1⟩ hh ⟨e1, e2⟩
    dsimp only at e1 e2 ⊢
    subst e1 e2
    left
    unfold fX6_polynomial_L5
    rw [sh_1 n (by omega), if_neg (nI_ge hh (by omega))]
    have h0 := andn_0 hh hm hn
    by_cases q : ∀ k, h.testBit k = true → m.testBit k = true
    · rw [if_pos (h0.mpr q)]
      obtain ⟨t2, x, e3, hx⟩ := m_meets hn hb hnv hh t1
      rw [bind_yes e3]
      dsimp only
      rcases hx with ⟨rfl, hc⟩ | ⟨rfl, hc⟩
      · obtain ⟨t3, e4⟩ := m_rank3 hn hb hnv hh t2
        rw [if_neg (by decide), bind_yes e4]
        dsimp only
        by_cases w : nI d - nI (rk_ (hS_ (gM_ wl) h)) = i
        · rw [if_pos w, bind_yes (m_odd (by omega)), iI_add]
          exact ⟨_, rfl, nI_1 h, by rw [fb_si_succ, if_pos (pb_t.mpr ⟨⟨hc, w⟩, q⟩)]⟩
        · rw [if_neg w]
          exact ⟨_, rfl, nI_1 h, by rw [fb_si_succ, if_neg (fun z => w (pb_t.mp z).1.2), Int.add_zero]⟩
      · rw [if_pos rfl]
        exact ⟨_, rfl, nI_1 h, by rw [fb_si_succ, if_neg (fun z => hc (pb_t.mp z).1.1), Int.add_zero]⟩
    · rw [if_neg (fun z => q (h0.mp z))]
      exact ⟨_, rfl, nI_1 h, by rw [fb_si_succ, if_neg (fun z => q (pb_t.mp z).2), Int.add_zero]⟩
  · rintro ⟨j, x, t1⟩ ⟨e1, e2⟩
    dsimp only at e1 e2 ⊢
    subst e1 e2
    unfold fX6_polynomial_L5
    rw [sh_1 n (by omega), if_pos (nI_le (Nat.le_refl _) (by omega))]
    exact ⟨_, rfl, rfl⟩
noncomputable def vP_ (G : Nat → Wl_) (n d : Nat) (i : Int32) : Int32 := iI_ (Si_ n (Fp_ G d i))
noncomputable def vO_ (G : Nat → Wl_) (n d : Nat) (w i : Int32) : Int32 := ci2_ (∃ k, k < n ∧ w = nI k) (iI_ (Si_ n (fun h => Fp_ G d i h ∧ h.testBit w.toNatClampNeg = false))) 0
theorem m_poly (hI : MI_ (gM_ wl) n d) (t : Nat → Int64) (i : Int32) : ∃ t', fX6_poly (nI d) (nI n) wl t i = some (vP_ (gM_ wl) n d i, t') := by
  have hn := hI.1
  have h2p : 0 < 2 ^ n := Nat.pow_pos (by decide)
  unfold fX6_poly vP_
  obtain ⟨t', e⟩ := m_polynomial hI (m := 2 ^ n - 1) (by omega) t i
  rw [nI_all hn, bind_yes e]
  refine ⟨t', ?_⟩
  rw [Si_cg (Q := Fp_ (gM_ wl) d i) (fun h hh => ⟨fun z => z.1, fun z => ⟨z, fun k hk => by rw [Nat.testBit_two_pow_sub_one]; exact decide_eq_true (lt_bit hh hk)⟩⟩)]
/-- a wall's number, as the reference tests it -/
theorem m_in (hn : n ≤ 8) (p : Int32) : ∃ x, fX6_in p 0 (nI n - 1) = some x ∧ yn_ x (∃ k, k < n ∧ p = nI k) := by
  unfold fX6_in
  by_cases h0 : p < 0
  · rw [if_pos h0]
    exact ⟨_, rfl, Or.inr ⟨rfl, fun w => by
      obtain ⟨k, hk, rfl⟩ := w
      exact nI_pos (by omega) h0⟩⟩
  · rw [if_neg h0]
    obtain ⟨k, hk, rfl⟩ := nI_of h0
    have e : (nI n - (1 : Int32)).toInt = (n : Int) - 1 := pk_sub_toInt (a := n) (b := 1) (by omega) (by decide)
    by_cases h1 : k < n
    · rw [if_neg (by rw [Int32.lt_iff_toInt_lt, nI_toInt hk, e]; omega)]
      exact ⟨_, rfl, Or.inl ⟨rfl, k, h1, rfl⟩⟩
    · rw [if_pos (by rw [Int32.lt_iff_toInt_lt, nI_toInt hk, e]; omega)]
      exact ⟨_, rfl, Or.inr ⟨rfl, fun w => by
        obtain ⟨k', hk', e⟩ := w
        have := (nI_eq hk (by omega)).mp e
        omega⟩⟩
theorem m_without (hI : MI_ (gM_ wl) n d) (t : Nat → Int64) (w i : Int32) : ∃ t', fX6_without (nI d) (nI n) wl t w i = some (vO_ (gM_ wl) n d w i, t') := by
  have hn := hI.1
  have h2p : 0 < 2 ^ n := Nat.pow_pos (by decide)
  have h2n : 2 ^ n ≤ 256 := Nat.pow_le_pow_right (n := 2) (j := 8) (by decide) hn
  unfold fX6_without vO_
  obtain ⟨x, e, hy⟩ := m_in hn w
  rw [bind_yes e]
  rcases hy with ⟨rfl, hk⟩ | ⟨rfl, hk⟩
  · rw [if_neg (by decide), ci2_t hk]
    obtain ⟨k, hk, rfl⟩ := hk
    have hof : ((((1 : Int32) <<< (nI n &&& 31)) - (1 : Int32)) &&& (((1 : Int32) <<< (nI k &&& 31)) ^^^ (-1 : Int32))) = nI (wo_ (2 ^ n - 1) k) := by rw [nI_all hn, sh_1 k (by omega), nI_andn]; rfl
    have hol := wo_le (2 ^ n - 1) k
    obtain ⟨t', e2⟩ := m_polynomial hI (m := wo_ (2 ^ n - 1) k) (by omega) t i
    rw [hof, bind_yes e2, nI_clamp (by omega)]
    have hcg : ∀ h, h < 2 ^ n → ((Fp_ (gM_ wl) d i h ∧ ∀ j, h.testBit j = true → (wo_ (2 ^ n - 1) k).testBit j = true) ↔ (Fp_ (gM_ wl) d i h ∧ h.testBit k = false)) := by
      intro h hh
      constructor
      · intro z
        refine ⟨z.1, ?_⟩
        cases c : h.testBit k with
        | false => rfl
        | true =>
          have := z.2 k c
          rw [wo_bit] at this
          simp at this
      · intro z
        refine ⟨z.1, fun j hj => ?_⟩
        rw [wo_bit, Nat.testBit_two_pow_sub_one]
        have : j ≠ k := fun q => by rw [q, z.2] at hj; cases hj
        simp [lt_bit hh hj, this]
    rw [Si_cg hcg]
    exact ⟨t', rfl⟩
  · rw [if_pos rfl, ci2_f hk]
    exact ⟨t, rfl⟩
end PL
section PC
variable {va vb vc ve vth : Nat → Int32} {n d : Nat}
theorem f_factor {G : Nat → Wl_} (hn : n ≤ 8) {fo li : Nat} {rk cm mk ro wi la lb : Nat → Int32} (hC : CU_ G n d fo li rk cm mk ro wi la lb) (i : Int32) {sk : Nat} (hsk : sk < 2 ^ 31) : fX2_factor (nI d) (nI n) rk cm i (nI sk) = some (iI_ (Si_ n (fun h => Fp_ G d i h ∧ h &&& sk = 0))) := by
  have h2n : 2 ^ n ≤ 256 := Nat.pow_le_pow_right (n := 2) (j := 8) (by decide) hn
  unfold fX2_factor
  refine bind_yes (a := (nI (2 ^ n), iI_ (Si_ n (fun h => Fp_ G d i h ∧ h &&& sk = 0)))) ?_
  refine lp_seq (body := fun (st : (Int32 × Int32)) => fX2_factor_L5 (nI n) cm (nI sk) (nI d) rk i st.1 st.2) (fun h => (nI h, iI_ (fb_si (fun h => if pb_ (Fp_ G d i h ∧ h &&& sk = 0) = true then sg2_ h else 0) h))) (2 ^ n) (by omega) ?_ ?_
  · intro h hh
    show fX2_factor_L5 (nI n) cm (nI sk) (nI d) rk i (nI h) _ = _
    unfold fX2_factor_L5
    obtain ⟨c1, c2⟩ := hC.2.2.2.2.2.1 h hh
    rw [sh_1 n (by omega), if_neg (nI_ge hh (by omega)), ck_yes (in_R_nI (show h < 256 by omega) (by decide)), ck_yes (in_R_nI (show h < 256 by omega) (by decide)), nI_clamp (by omega), hC.2.2.2.2.1 h hh, nI_and, nI_1]
    have e0 : (nI (h &&& sk) = 0) ↔ h &&& sk = 0 := nI_eq (b := 0) (Nat.lt_of_le_of_lt Nat.and_le_left (by omega)) (by decide)
    rcases c1 with z | z
    · have hnc : ¬ hC_ G h := fun w => by
        have := c2.mpr w
        rw [z] at this; cases this
      rw [if_pos z, fb_si_succ, if_neg (fun w => hnc (pb_t.mp w).1.1), Int.add_zero]
    · have hc : hC_ G h := c2.mp z
      rw [if_neg (by rw [z]; decide)]
      by_cases q : h &&& sk = 0
      · rw [if_pos (e0.mpr q)]
        by_cases w : nI d - nI (rk_ (hS_ G h)) = i
        · rw [if_pos w, bind_yes (f_bitCount (by omega)), pop_8 (by omega), pk_andN (m := 1) (by have := fb_ct_le (fun k => h.testBit k) 8; omega) 1 (by decide), fb_si_succ, if_pos (pb_t.mpr ⟨⟨hc, w⟩, q⟩)]
          unfold sg2_
          have hle := fb_ct_le (fun k => h.testBit k) 8
          rw [Nat.pow_one]
          by_cases y : fb_ct (fun k => h.testBit k) 8 % 2 = 0
          · rw [if_pos (by rw [y]; rfl), if_pos y, show (1 : Int32) = iI_ 1 from rfl, iI_add]
          · rw [if_neg (nI_ne0 (by omega) (by omega)), if_neg y, show (-1 : Int32) = iI_ (-1) from rfl, iI_add]
        · rw [if_neg w, fb_si_succ, if_neg (fun y => w (pb_t.mp y).1.2), Int.add_zero]
      · rw [if_neg (fun y => q (e0.mp y)), fb_si_succ, if_neg (fun y => q (pb_t.mp y).2), Int.add_zero]
  · show fX2_factor_L5 (nI n) cm (nI sk) (nI d) rk i (nI (2 ^ n)) _ = _
    unfold fX2_factor_L5
    rw [sh_1 n (by omega), if_pos (nI_le (Nat.le_refl _) (by omega))]
    rfl
theorem f_factor0 {G : Nat → Wl_} (hn : n ≤ 8) {fo li : Nat} {rk cm mk ro wi la lb : Nat → Int32} (hC : CU_ G n d fo li rk cm mk ro wi la lb) (i : Int32) : fX2_factor (nI d) (nI n) rk cm i 0 = some (vP_ G n d i) := by
  have := f_factor hn hC i (sk := 0) (by decide)
  rw [Si_cg (Q := Fp_ G d i) (fun h _ => ⟨fun z => z.1, fun z => ⟨z, Nat.and_zero h⟩⟩)] at this
  exact this
theorem f_factorW {G : Nat → Wl_} (hn : n ≤ 8) {fo li : Nat} {rk cm mk ro wi la lb : Nat → Int32} (hC : CU_ G n d fo li rk cm mk ro wi la lb) (i : Int32) {k : Nat} (hk : k < n) : fX2_factor (nI d) (nI n) rk cm i ((1 : Int32) <<< (nI k &&& 31)) = some (iI_ (Si_ n (fun h => Fp_ G d i h ∧ h.testBit k = false))) := by
  have h2k : 2 ^ k ≤ 256 := Nat.pow_le_pow_right (n := 2) (j := 8) (by decide) (by omega)
  have := f_factor hn hC i (sk := 2 ^ k) (by omega)
  rw [Si_cg (Q := fun h => Fp_ G d i h ∧ h.testBit k = false) (fun h _ => and_congr_right (fun _ => fb_bit_nat h k))] at this
  rw [sh_1 k (by omega)]
  exact this
theorem c_poly (hP : PI_ (gC_ va vb vc ve) n) (hT : TH_ vth) {u : CT_} (hu : cI_ (gC_ va vb vc ve) n d u) (i : Int32) : ∃ u' : CT_, fX5_poly (nI d) (nI n) u.1 u.2.1 u.2.2.1 va vb vc ve vth u.2.2.2.1 u.2.2.2.2.1 u.2.2.2.2.2.1 u.2.2.2.2.2.2.1 u.2.2.2.2.2.2.2.1 u.2.2.2.2.2.2.2.2.1 u.2.2.2.2.2.2.2.2.2.1 u.2.2.2.2.2.2.2.2.2.2.1 u.2.2.2.2.2.2.2.2.2.2.2.1 u.2.2.2.2.2.2.2.2.2.2.2.2.1 u.2.2.2.2.2.2.2.2.2.2.2.2.2.1 u.2.2.2.2.2.2.2.2.2.2.2.2.2.2.1 u.2.2.2.2.2.2.2.2.2.2.2.2.2.2.2.1 u.2.2.2.2.2.2.2.2.2.2.2.2.2.2.2.2.1 u.2.2.2.2.2.2.2.2.2.2.2.2.2.2.2.2.2.1 u.2.2.2.2.2.2.2.2.2.2.2.2.2.2.2.2.2.2.1 u.2.2.2.2.2.2.2.2.2.2.2.2.2.2.2.2.2.2.2.1 u.2.2.2.2.2.2.2.2.2.2.2.2.2.2.2.2.2.2.2.2.1 u.2.2.2.2.2.2.2.2.2.2.2.2.2.2.2.2.2.2.2.2.2.1 u.2.2.2.2.2.2.2.2.2.2.2.2.2.2.2.2.2.2.2.2.2.2.1 u.2.2.2.2.2.2.2.2.2.2.2.2.2.2.2.2.2.2.2.2.2.2.2.1 u.2.2.2.2.2.2.2.2.2.2.2.2.2.2.2.2.2.2.2.2.2.2.2.2.1 u.2.2.2.2.2.2.2.2.2.2.2.2.2.2.2.2.2.2.2.2.2.2.2.2.2 i = some (vP_ (gC_ va vb vc ve) n d i, u') ∧ cI_ (gC_ va vb vc ve) n d u' := by
  unfold fX5_poly
  have hn := hP.1
  obtain ⟨u', e, hF⟩ := f_freshCut hP hT hu
  obtain ⟨h5, h6, fo, li, h7, h8, hC⟩ := hF
  rw [bind_yes e, bind_yes (f_factor0 hn hC i)]
  exact ⟨u', rfl, Or.inr ⟨h5, h6, fo, li, h7, h8, hC⟩⟩
theorem c_without (hP : PI_ (gC_ va vb vc ve) n) (hT : TH_ vth) {u : CT_} (hu : cI_ (gC_ va vb vc ve) n d u) (w i : Int32) : ∃ u' : CT_, fX5_without (nI d) (nI n) u.1 u.2.1 u.2.2.1 va vb vc ve vth u.2.2.2.1 u.2.2.2.2.1 u.2.2.2.2.2.1 u.2.2.2.2.2.2.1 u.2.2.2.2.2.2.2.1 u.2.2.2.2.2.2.2.2.1 u.2.2.2.2.2.2.2.2.2.1 u.2.2.2.2.2.2.2.2.2.2.1 u.2.2.2.2.2.2.2.2.2.2.2.1 u.2.2.2.2.2.2.2.2.2.2.2.2.1 u.2.2.2.2.2.2.2.2.2.2.2.2.2.1 u.2.2.2.2.2.2.2.2.2.2.2.2.2.2.1 u.2.2.2.2.2.2.2.2.2.2.2.2.2.2.2.1 u.2.2.2.2.2.2.2.2.2.2.2.2.2.2.2.2.1 u.2.2.2.2.2.2.2.2.2.2.2.2.2.2.2.2.2.1 u.2.2.2.2.2.2.2.2.2.2.2.2.2.2.2.2.2.2.1 u.2.2.2.2.2.2.2.2.2.2.2.2.2.2.2.2.2.2.2.1 u.2.2.2.2.2.2.2.2.2.2.2.2.2.2.2.2.2.2.2.2.1 u.2.2.2.2.2.2.2.2.2.2.2.2.2.2.2.2.2.2.2.2.2.1 u.2.2.2.2.2.2.2.2.2.2.2.2.2.2.2.2.2.2.2.2.2.2.1 u.2.2.2.2.2.2.2.2.2.2.2.2.2.2.2.2.2.2.2.2.2.2.2.1 u.2.2.2.2.2.2.2.2.2.2.2.2.2.2.2.2.2.2.2.2.2.2.2.2.1 u.2.2.2.2.2.2.2.2.2.2.2.2.2.2.2.2.2.2.2.2.2.2.2.2.2 w i = some (vO_ (gC_ va vb vc ve) n d w i, u') ∧ cI_ (gC_ va vb vc ve) n d u' := by
  unfold fX5_without vO_
  have hn := hP.1
  obtain ⟨x, e1, hy⟩ := f_holds (p := w) hn
  rw [bind_yes e1]
  rcases hy with ⟨rfl, hk⟩ | ⟨rfl, hk⟩
  · rw [if_neg (by decide), ci2_t hk]
    obtain ⟨k, hk, rfl⟩ := hk
    obtain ⟨u', e, hF⟩ := f_freshCut hP hT hu
    obtain ⟨h5, h6, fo, li, h7, h8, hC⟩ := hF
    rw [bind_yes e, bind_yes (f_factorW hn hC i hk), nI_clamp (by omega)]
    exact ⟨u', rfl, Or.inr ⟨h5, h6, fo, li, h7, h8, hC⟩⟩
  · rw [if_pos rfl, ci2_f hk]
    exact ⟨u, rfl, hu⟩
end PC
