/-! the class counts -/
theorem sh_31 {k : Nat} (h : k < 32) : (1 : Int32) <<< (nI k &&& 31) = nI (2 ^ k) := by
  rcases Nat.lt_or_ge k 31 with l | l
  · exact sh_1 k l
  · have : k = 31 := by omega
    subst this; decide
theorem sum_div (g : Nat → Nat → Nat) (p : Nat) (hp : 0 < p) : ∀ N, fb_sm (fun m => g (m % p) (m / p)) (p * N) = fb_sm (fun j => fb_sm (fun x => g x j) p) N
  | 0 => rfl
  | N + 1 => by
    rw [Nat.mul_succ, fb_sm_split, sum_div g p hp N, fb_sm_succ]
    congr 1
    refine fb_sm_cong fun k hk => ?_
    rw [Nat.mul_add_mod, Nat.mod_eq_of_lt hk, Nat.mul_add_div hp, Nat.div_eq_of_lt hk, Nat.add_zero]
theorem sum_swap (g : Nat → Nat → Nat) (M : Nat) : ∀ N, fb_sm (fun y => fb_sm (fun z => g y z) M) N = fb_sm (fun z => fb_sm (fun y => g y z) N) M
  | 0 => by
    have h := fb_sm_const 0 M
    rw [Nat.mul_zero] at h
    exact h.symm
  | N + 1 => by
    rw [fb_sm_succ, sum_swap g M N, ← fb_sm_add]
    rfl
theorem ct_sum (q : Nat → Bool) : ∀ N, fb_ct q N = fb_sm (fun x => if q x then 1 else 0) N
  | 0 => rfl
  | N + 1 => by rw [fb_ct_succ, ct_sum q N, fb_sm_succ]
def gl_ (G : Nat → Wl_) (n p y z : Nat) : Nat := fb_ct (fun x => nh_ G n p x y z) p
def u2_ (d p : Nat) : Nat := if d < 2 then 1 else p
def u3_ (d p : Nat) : Nat := if d < 3 then 1 else p
theorem vL_sum (G : Nat → Wl_) (n : Nat) {d p : Nat} (hp : 0 < p) (d1 : 1 ≤ d) (d3 : d ≤ 3) : vL_ G n d p = fb_sm (fun y => fb_sm (fun z => gl_ G n p y z) (u3_ d p)) (u2_ d p) := by
  unfold vL_
  have e0 : ∀ N, fb_sm (fl_ G n p) (p * N) = fb_sm (fun j => gl_ G n p (j % p) (j / p)) N := by
    intro N
    have h := sum_div (fun x j => if nh_ G n p x (j % p) (j / p) then 1 else 0) p hp N
    refine Eq.trans h (fb_sm_cong fun j _ => ?_)
    unfold gl_
    rw [ct_sum]
  have hd : d = 1 ∨ d = 2 ∨ d = 3 := by omega
  rcases hd with rfl | rfl | rfl
  · rw [show p ^ 1 = p * 1 by rw [Nat.pow_one, Nat.mul_one], e0]
    unfold u2_ u3_
    rw [if_pos (by decide), if_pos (by decide)]
    show 0 + gl_ G n p (0 % p) (0 / p) = 0 + (0 + gl_ G n p 0 0)
    rw [Nat.zero_mod, Nat.zero_div, Nat.zero_add, Nat.zero_add]
  · rw [show p ^ 2 = p * p by rw [Nat.pow_succ, Nat.pow_one], e0]
    unfold u2_ u3_
    rw [if_pos (show 2 < 3 by decide), if_neg (show ¬ 2 < 2 by decide)]
    refine fb_sm_cong fun j hj => ?_
    show _ = 0 + gl_ G n p j 0
    rw [Nat.mod_eq_of_lt hj, Nat.div_eq_of_lt hj, Nat.zero_add]
  · rw [show p ^ 3 = p * (p * p) by rw [Nat.pow_succ, Nat.pow_succ, Nat.pow_one, Nat.mul_assoc], e0]
    unfold u2_ u3_
    rw [if_neg (by decide), if_neg (by decide), sum_div (fun y z => gl_ G n p y z) p hp p, sum_swap]
section LC
variable {va vb vc ve : Nat → Int32} {n d : Nat}
theorem f_hits (hn : n ≤ 8) (hb : ∀ k, k < n → bw_ (gC_ va vb vc ve k)) {p y z : Nat} (hp : pr_ p = true) (hy : y < p) (hz : z < p) {tu : Nat → Int32} (ht : ∀ k, k < n → tu k = nI (iv_ p (aa_ (gC_ va vb vc ve k) p))) :
    ∃ m, fX4_hits (nI n) vb vc ve tu (nI y) (nI z) (nI p) = some (nI m) ∧ m < 2 ^ p ∧ ∀ x, x < p → (m.testBit x = true ↔ ∃ j, j < n ∧ ht_ (gC_ va vb vc ve j) p x y z) := by
  obtain ⟨hp2, hp32⟩ := pr_lt hp
  have hpp : (2 : Nat) ^ p ≤ 2 ^ 31 := Nat.pow_le_pow_right (by decide) (by omega)
  unfold fX4_hits
  have hlp := lp_for (body := fun (st : (Int32 × Int32)) => fX4_hits_L6 (nI n) ve vb (nI y) vc (nI z) (nI p) tu st.1 st.2) (s := ((0 : Int32), (0 : Int32)))
    (fun k st => ∃ m, st = (nI k, nI m) ∧ m < 2 ^ p ∧ ∀ x, x < p → (m.testBit x = true ↔ ∃ j, j < k ∧ ht_ (gC_ va vb vc ve j) p x y z))
    (fun res => ∃ m, ((∃ v, res = .inl (v, nI m)) ∨ res = .inr (nI m)) ∧ m < 2 ^ p ∧ ∀ x, x < p → (m.testBit x = true ↔ ∃ j, j < n ∧ ht_ (gC_ va vb vc ve j) p x y z)) n (by omega) ⟨0, rfl, Nat.two_pow_pos p, fun x _ => by
      rw [Nat.zero_testBit]
      exact ⟨fun h => Bool.noConfusion h, fun ⟨j, hj, _⟩ => absurd hj (Nat.not_lt_zero _)⟩⟩ ?_ ?_
  · obtain ⟨res, e, m, h, hm, hx⟩ := hlp
    refine ⟨m, ?_, hm, hx⟩
    rw [bind_yes e]
    rcases h with ⟨v, rfl⟩ | rfl
    · rfl
    · rfl
  · rintro k _ hk ⟨m, rfl, hm, hI⟩
    have hR : in_R (nI k) 11 := in_R_nI (by omega) (by decide)
    have hR8 : in_R (nI k) 8 := in_R_nI (by omega) (by decide)
    obtain ⟨b1, b2, b3, b4⟩ := hb k hk
    have hlt : aa_ (gC_ va vb vc ve k) p < p := by
      unfold aa_
      have h1 := Int.emod_nonneg (gC_ va vb vc ve k).1 (show (p : Int) ≠ 0 by omega)
      have h2 := Int.emod_lt_of_pos (gC_ va vb vc ve k).1 (show (0 : Int) < p by omega)
      omega
    have hrt : rr_ (gC_ va vb vc ve k) p y z < p := by
      unfold rr_
      have h1 := Int.emod_nonneg ((gC_ va vb vc ve k).2.2.2 - (gC_ va vb vc ve k).2.1 * y - (gC_ va vb vc ve k).2.2.1 * z) (show (p : Int) ≠ 0 by omega)
      have h2 := Int.emod_lt_of_pos ((gC_ va vb vc ve k).2.2.2 - (gC_ va vb vc ve k).2.1 * y - (gC_ va vb vc ve k).2.2.1 * z) (show (0 : Int) < p by omega)
      omega
    obtain ⟨-, hi1, hi2, hi3⟩ := f_inverse hp32 hlt hp
    have hF : fJ9_floorMod_7cf53 ((ve k - vb k * nI y) - vc k * nI z) (nI p) = some (nI (rr_ (gC_ va vb vc ve k) p y z)) := by
      rw [gC_e va vb vc ve k, gC_b va vb vc ve k, gC_c va vb vc ve k, ← iI_nat y, ← iI_nat z, iI_mul, iI_mul, iI_sub, iI_sub]
      exact f_floorMod (ab_mono (ab_sub (ab_sub b4 (ab_mul b2 (B := 31) (by unfold ab_; omega))) (ab_mul b3 (B := 31) (by unfold ab_; omega))) (by decide)) hp2 hp32
    show (∃ s', fX4_hits_L6 (nI n) ve vb (nI y) vc (nI z) (nI p) tu (nI k) (nI m) = some (.inl s') ∧ _) ∨ (∃ r, fX4_hits_L6 (nI n) ve vb (nI y) vc (nI z) (nI p) tu (nI k) (nI m) = some (.inr r) ∧ _)
    unfold fX4_hits_L6
    rw [if_neg (nI_ge hk (by omega))]
    simp only [ck_yes hR, ck_yes hR8, nI_clamp (show k < 2 ^ 31 by omega), nI_1]
    rw [bind_yes hF, ht k hk]
    have more : ∀ {m' : Nat}, (∀ x, x < p → (m'.testBit x = true ↔ m.testBit x = true ∨ ht_ (gC_ va vb vc ve k) p x y z)) → ∀ x, x < p → (m'.testBit x = true ↔ ∃ j, j < k + 1 ∧ ht_ (gC_ va vb vc ve j) p x y z) := by
      intro m' h x hx
      rw [h x hx, hI x hx]
      constructor
      · rintro (⟨j, hj, q⟩ | q)
        · exact ⟨j, by omega, q⟩
        · exact ⟨k, by omega, q⟩
      · rintro ⟨j, hj, q⟩
        rcases Nat.lt_or_ge j k with l | l
        · exact Or.inl ⟨j, l, q⟩
        · have : j = k := by omega
          subst this; exact Or.inr q
    by_cases ha : aa_ (gC_ va vb vc ve k) p = 0
    · rw [hi3 ha, if_pos (show nI 0 = 0 from rfl)]
      by_cases hr : rr_ (gC_ va vb vc ve k) p y z = 0
      · rw [hr, if_pos (show nI 0 = 0 from rfl), sh_31 hp32]
        right
        refine ⟨_, rfl, 2 ^ p - 1, Or.inr ?_, ?_, ?_⟩
        · have h2 : nI (2 ^ p) = nI (2 ^ p - 1) + 1 := by rw [nI_1, Nat.sub_add_cancel (Nat.two_pow_pos p)]
          rw [h2, Int32.add_sub_cancel]
        · have := Nat.two_pow_pos p; omega
        · intro x hx
          rw [Nat.testBit_two_pow_sub_one]
          exact ⟨fun _ => ⟨k, hk, (ht_zero (by omega) ha).mpr hr⟩, fun _ => decide_eq_true hx⟩
      · rw [if_neg (nI_ne0 (by omega) (by omega))]
        left
        refine ⟨_, rfl, m, rfl, hm, more fun x hx => ⟨fun h => Or.inl h, fun h => ?_⟩⟩
        rcases h with h | h
        · exact h
        · exact absurd ((ht_zero (by omega) ha).mp h) hr
    · have hone := hi2 ha
      have hip : 0 < iv_ p (aa_ (gC_ va vb vc ve k) p) := by
        rcases Nat.eq_zero_or_pos (iv_ p (aa_ (gC_ va vb vc ve k) p)) with q | q
        · rw [q, Nat.mul_zero, Nat.zero_mod] at hone; omega
        · exact q
      rw [if_neg (nI_ne0 hip (by omega)), ck_yes (nI_ne0 (by omega) (by omega)), pk_mul]
      have hsm : rr_ (gC_ va vb vc ve k) p y z * iv_ p (aa_ (gC_ va vb vc ve k) p) ≤ 31 * 31 := Nat.mul_le_mul (by omega) (by omega)
      rw [nI_rem (by omega) (by omega)]
      have hmod := Nat.mod_lt (rr_ (gC_ va vb vc ve k) p y z * iv_ p (aa_ (gC_ va vb vc ve k) p)) (show 0 < p by omega)
      rw [sh_31 (by omega), nI_or]
      dsimp only [nm_]
      left
      refine ⟨_, rfl, _, rfl, Nat.or_lt_two_pow hm (Nat.pow_lt_pow_right (by decide) hmod), more fun x hx => ?_⟩
      rw [Nat.testBit_or, Bool.or_eq_true, Nat.testBit_two_pow, decide_eq_true_iff, ht_some (by omega) hx hone]
      constructor
      · rintro (h | h)
        · exact Or.inl h
        · exact Or.inr h.symm
      · rintro (h | h)
        · exact Or.inl h
        · exact Or.inr h.symm
  · rintro _ ⟨m, rfl, hm, hI⟩
    refine ⟨.inl (nI n, nI m), ?_, m, Or.inl ⟨_, rfl⟩, hm, hI⟩
    show fX4_hits_L6 _ _ _ _ _ _ _ _ _ _ = _
    unfold fX4_hits_L6
    rw [if_pos (Int32.le_refl _)]
theorem f_missed (hn : n ≤ 8) (hb : ∀ k, k < n → bw_ (gC_ va vb vc ve k)) (d1 : 1 ≤ d) (d3 : d ≤ 3) {p : Nat} (hp : pr_ p = true) (vtu : Nat → Int32) :
    ∃ tu, fX4_countMissed (nI d) (nI n) va vb vc ve vtu (nI p) = some (nI (vL_ (gC_ va vb vc ve) n d p), tu) := by
  obtain ⟨hp2, hp32⟩ := pr_lt hp
  unfold fX4_countMissed
  have hlp := lp_for (body := fun (st : (Int32 × (Nat → Int32))) => fX4_countMissed_L2 (nI n) va (nI p) st.1 st.2) (s := ((0 : Int32), vtu))
    (fun k st => st.1 = nI k ∧ ∀ j, j < k → st.2 j = nI (iv_ p (aa_ (gC_ va vb vc ve j) p)))
    (fun res => ∀ j, j < n → res.2 j = nI (iv_ p (aa_ (gC_ va vb vc ve j) p))) n (by omega) ⟨rfl, fun j h => by omega⟩ ?_ ?_
  · obtain ⟨u3, e, htu⟩ := hlp
    rw [bind_yes e]
    have e7 : (if nI d < (2 : Int32) then some (1 : Int32) else some (nI p)) = some (nI (u2_ d p)) := by
      unfold u2_
      by_cases h : d < 2
      · rw [if_pos (show nI d < (2 : Int32) from nI_lt (b := 2) h (by decide)), if_pos h]; rfl
      · rw [if_neg (show ¬ nI d < (2 : Int32) from Int32.not_lt.mpr (nI_le (a := 2) (by omega) (by omega))), if_neg h]
    have e10 : (if nI d < (3 : Int32) then some (1 : Int32) else some (nI p)) = some (nI (u3_ d p)) := by
      unfold u3_
      by_cases h : d < 3
      · rw [if_pos (show nI d < (3 : Int32) from nI_lt (b := 3) h (by decide)), if_pos h]; rfl
      · rw [if_neg (show ¬ nI d < (3 : Int32) from Int32.not_lt.mpr (nI_le (a := 3) (by omega) (by omega))), if_neg h]
    rw [bind_yes e7, bind_yes e10]
    have h2 : u2_ d p ≤ p := by unfold u2_; split <;> omega
    have h3 : u3_ d p ≤ p := by unfold u3_; split <;> omega
    have hgl : ∀ y z, gl_ (gC_ va vb vc ve) n p y z ≤ p := fun y z => fb_ct_le _ _
    have inner : ∀ y, y < p → ∀ S, lp_ (fun (st : (Int32 × Int32)) => fX4_countMissed_L91 (nI (u3_ d p)) (nI n) vb vc ve u3 (nI y) (nI p) st.1 st.2) fu_ ((0 : Int32), nI S) = some (nI (u3_ d p), nI (S + fb_sm (fun z => gl_ (gC_ va vb vc ve) n p y z) (u3_ d p))) := by
      intro y hy S
      have hq := lp_seq (body := fun (st : (Int32 × Int32)) => fX4_countMissed_L91 (nI (u3_ d p)) (nI n) vb vc ve u3 (nI y) (nI p) st.1 st.2) (fun z => (nI z, nI (S + fb_sm (fun z => gl_ (gC_ va vb vc ve) n p y z) z))) (u3_ d p) (by omega) (r := (nI (u3_ d p), nI (S + fb_sm (fun z => gl_ (gC_ va vb vc ve) n p y z) (u3_ d p)))) ?_ ?_
      · exact hq
      · intro z hz
        show fX4_countMissed_L91 _ _ _ _ _ _ _ _ _ _ = _
        unfold fX4_countMissed_L91
        obtain ⟨m, em, hm, hx⟩ := f_hits hn hb hp hy (show z < p by omega) htu
        have hpp : (2 : Nat) ^ p ≤ 2 ^ 31 := Nat.pow_le_pow_right (by decide) (by omega)
        rw [if_neg (nI_ge hz (by omega)), bind_yes em, bind_yes (f_bitCount (show m < 2 ^ 32 by omega)), nI_1, fb_sm_succ]
        have hc : fb_ct (fun k => m.testBit k) 32 = fb_ct (fun k => m.testBit k) p := by
          have h32 : 32 = p + (32 - p) := by omega
          rw [h32, fb_ct_split]
          have h0 : fb_ct (fun k => m.testBit (p + k)) (32 - p) = 0 := fb_ct_zero.mpr fun k _ => Nat.testBit_lt_two_pow (Nat.lt_of_lt_of_le hm (Nat.pow_le_pow_right (by decide) (Nat.le_add_right _ _)))
          rw [h0, Nat.add_zero]
        have hnot : fb_ct (fun k => m.testBit k) p + gl_ (gC_ va vb vc ve) n p y z = p := by
          have h := fb_ct_not (fun k => m.testBit k) p
          have hg : gl_ (gC_ va vb vc ve) n p y z = fb_ct (fun k => !m.testBit k) p := by
            unfold gl_
            refine fb_ct_cong fun x hxp => ?_
            have hxx := hx x hxp
            unfold nh_
            cases hb : m.testBit x with
            | true =>
              obtain ⟨j, hj, q⟩ := hxx.mp hb
              exact decide_eq_false fun q' => q' j hj q
            | false =>
              refine decide_eq_true fun j hj q => ?_
              have := hxx.mpr ⟨j, hj, q⟩
              rw [hb] at this; cases this
          rw [hg]; exact h
        rw [hc]
        generalize fb_ct (fun k => m.testBit k) p = A at *
        have hs : nI p - nI A = nI (gl_ (gC_ va vb vc ve) n p y z) := by
          have h9 : nI p = nI (gl_ (gC_ va vb vc ve) n p y z) + nI A := by rw [nI_add, Nat.add_comm, hnot]
          rw [h9, Int32.add_sub_cancel]
        rw [hs, nI_add, Nat.add_assoc]
      · show fX4_countMissed_L91 _ _ _ _ _ _ _ _ _ _ = _
        unfold fX4_countMissed_L91
        rw [if_pos (Int32.le_refl _)]
    have outer := lp_seq (body := fun (st : (Int32 × Int32)) => fX4_countMissed_L82 (nI (u2_ d p)) (nI (u3_ d p)) (nI n) vb vc ve u3 (nI p) st.1 st.2) (fun y => (nI y, nI (fb_sm (fun y => fb_sm (fun z => gl_ (gC_ va vb vc ve) n p y z) (u3_ d p)) y))) (u2_ d p) (by omega) (r := (nI (u2_ d p), nI (fb_sm (fun y => fb_sm (fun z => gl_ (gC_ va vb vc ve) n p y z) (u3_ d p)) (u2_ d p)))) ?_ ?_
    · have outer : lp_ (fun (st : (Int32 × Int32)) => fX4_countMissed_L82 (nI (u2_ d p)) (nI (u3_ d p)) (nI n) vb vc ve u3 (nI p) st.1 st.2) fu_ ((0 : Int32), (0 : Int32)) = _ := outer
      rw [bind_yes outer, vL_sum _ _ (by omega) d1 d3]
      exact ⟨_, rfl⟩
    · intro y hy
      show fX4_countMissed_L82 _ _ _ _ _ _ _ _ _ _ = _
      unfold fX4_countMissed_L82
      rw [if_neg (nI_ge hy (by omega)), bind_yes (inner y (by omega) _), nI_1, fb_sm_succ]
    · show fX4_countMissed_L82 _ _ _ _ _ _ _ _ _ _ = _
      unfold fX4_countMissed_L82
      rw [if_pos (Int32.le_refl _)]
  · rintro k ⟨s1, s2⟩ hk ⟨rfl, hI⟩
    left
    have hlt : aa_ (gC_ va vb vc ve k) p < p := by
      unfold aa_
      have h1 := Int.emod_nonneg (gC_ va vb vc ve k).1 (show (p : Int) ≠ 0 by omega)
      have h2 := Int.emod_lt_of_pos (gC_ va vb vc ve k).1 (show (0 : Int) < p by omega)
      omega
    have hF : fJ9_floorMod_7cf53 (va k) (nI p) = some (nI (aa_ (gC_ va vb vc ve k) p)) := by
      rw [gC_a va vb vc ve k]
      exact f_floorMod (ab_mono (hb k hk).1 (by decide)) hp2 hp32
    refine ⟨(nI (k + 1), upd s2 k (nI (iv_ p (aa_ (gC_ va vb vc ve k) p)))), ?_, rfl, fun j hj => ?_⟩
    · show fX4_countMissed_L2 _ _ _ _ _ = _
      unfold fX4_countMissed_L2
      rw [if_neg (nI_ge hk (by omega))]
      simp only [ck_yes (in_R_nI (show k < 11 by omega) (by decide)), ck_yes (in_R_nI (show k < 8 by omega) (by decide)), nI_clamp (show k < 2 ^ 31 by omega), nI_1]
      rw [bind_yes hF, bind_yes (f_inverse hp32 hlt hp).1]
    · by_cases h : j = k
      · subst h; exact upd_eq _ _ _
      · show upd s2 k _ j = _
        rw [upd_no _ _ h]; exact hI j (by omega)
  · rintro ⟨s1, s2⟩ ⟨rfl, hI⟩
    refine ⟨(nI n, s2), ?_, hI⟩
    show fX4_countMissed_L2 _ _ _ _ _ = _
    unfold fX4_countMissed_L2
    rw [if_pos (Int32.le_refl _)]
theorem c_left (hn : n ≤ 8) (hb : ∀ k, k < n → bw_ (gC_ va vb vc ve k)) (d1 : 1 ≤ d) (d3 : d ≤ 3) (vtu : Nat → Int32) (p : Int32) :
    (∃ k, pr_ k = true ∧ p = nI k ∧ ∃ tu, fX5_left (nI d) (nI n) va vb vc ve vtu p = some (nI (vL_ (gC_ va vb vc ve) n d k), tu)) ∨ ((¬ ∃ k, pr_ k = true ∧ p = nI k) ∧ fX5_left (nI d) (nI n) va vb vc ve vtu p = some (-1, vtu)) := by
  unfold fX5_left
  have no : (¬ ∃ k, pr_ k = true ∧ p = nI k) → fX5_isPrime p = some 0 → (∃ k, pr_ k = true ∧ p = nI k ∧ ∃ tu, ((fX5_isPrime p).bind fun (u1 : Int32) => (if u1 = 0 then some ((-1 : Int32), vtu) else (fX4_countMissed (nI d) (nI n) va vb vc ve vtu p).bind fun (u4 : (Int32 × (Nat → Int32))) => some (u4.1, u4.2))) = some (nI (vL_ (gC_ va vb vc ve) n d k), tu)) ∨ ((¬ ∃ k, pr_ k = true ∧ p = nI k) ∧ ((fX5_isPrime p).bind fun (u1 : Int32) => (if u1 = 0 then some ((-1 : Int32), vtu) else (fX4_countMissed (nI d) (nI n) va vb vc ve vtu p).bind fun (u4 : (Int32 × (Nat → Int32))) => some (u4.1, u4.2))) = some (-1, vtu)) := by
    intro h e
    rw [bind_yes e, if_pos rfl]
    exact Or.inr ⟨h, rfl⟩
  by_cases h1 : p < 2
  · refine no ?_ (by unfold fX5_isPrime; rw [if_pos h1])
    rintro ⟨k, hk, rfl⟩
    exact absurd h1 (Int32.not_lt.mpr (nI_le (a := 2) (pr_lt hk).1 (by have := pr_lt hk; omega)))
  by_cases h2 : p ≤ 31
  case neg =>
    refine no ?_ (by unfold fX5_isPrime; rw [if_neg h1, if_neg h2])
    rintro ⟨k, hk, rfl⟩
    exact h2 (nI_le (b := 31) (by have := pr_lt hk; omega) (by decide))
  obtain ⟨k, hk2, hk, rfl⟩ : ∃ k, 2 ≤ k ∧ k < 32 ∧ p = nI k := by
    have a1 : (2 : Int) ≤ p.toInt := Int.not_lt.mp fun q => h1 (Int32.lt_iff_toInt_lt.mpr q)
    have a2 : p.toInt ≤ 31 := Int32.le_iff_toInt_le.mp h2
    refine ⟨p.toInt.toNat, by omega, by omega, ?_⟩
    rw [← iI_nat, Int.toNat_of_nonneg (by omega), iI_of]
  by_cases hp : pr_ k = true
  case neg =>
    refine no ?_ (by rw [f_isPrime k hk, if_neg hp])
    rintro ⟨j, hj, e⟩
    have : j = k := by
      have h := congrArg Int32.toNatClampNeg e
      have := pr_lt hj
      rw [nI_clamp (by omega), nI_clamp (by omega)] at h; omega
    subst this; exact hp hj
  refine Or.inl ⟨k, hp, rfl, ?_⟩
  obtain ⟨tu, e⟩ := f_missed hn hb d1 d3 hp vtu
  refine ⟨tu, ?_⟩
  rw [bind_yes (f_isPrime k hk), if_pos hp, if_neg (by decide), bind_yes e]
end LC
theorem vL_ext {G H : Nat → Wl_} {n d p : Nat} (h : ∀ k, k < n → G k = H k) : vL_ G n d p = vL_ H n d p := by
  unfold vL_
  refine fb_sm_cong fun m _ => ?_
  unfold fl_
  rw [nh_ext h]
