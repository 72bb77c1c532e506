/-! the beginning -/
theorem th_ok : (List.range 8).all (fun k => (List.range (2 ^ k)).all fun h => decide (h ||| 2 ^ k = h + 2 ^ k ∧ th_ (h + 2 ^ k) = th_ h + 3 ^ k)) = true := by decide +kernel
theorem th_up {k h : Nat} (hk : k < 8) (hh : h < 2 ^ k) : h ||| 2 ^ k = h + 2 ^ k ∧ th_ (h + 2 ^ k) = th_ h + 3 ^ k :=
  of_decide_eq_true (List.all_eq_true.mp (List.all_eq_true.mp th_ok k (List.mem_range.mpr hk)) h (List.mem_range.mpr hh))
theorem f_thr : ∃ thr, fX3_init = some thr ∧ TH_ thr := by
  unfold fX3_init
  have inner : ∀ k, k < 8 → ∀ v9 : Nat → Int32, (∀ h, h < 2 ^ k → v9 h = nI (th_ h)) → ∃ r, lp_ (fun (st : (Int32 × (Nat → Int32))) => fX3_init_L89 (nI k) st.1 st.2) fu_ ((0 : Int32), v9) = some r ∧ ∀ h, h < 2 ^ (k + 1) → r.2 h = nI (th_ h) := by
    intro k hk v9 h9
    have hkp : (2 : Nat) ^ k ≤ 2 ^ 7 := Nat.pow_le_pow_right (by decide) (by omega)
    have hlp := lp_for (body := fun (st : (Int32 × (Nat → Int32))) => fX3_init_L89 (nI k) st.1 st.2) (s := ((0 : Int32), v9))
      (fun m st => st.1 = nI m ∧ ∀ h, h < 2 ^ k + m → st.2 h = nI (th_ h)) (fun r => ∀ h, h < 2 ^ (k + 1) → r.2 h = nI (th_ h)) (2 ^ k) (by omega) ⟨rfl, fun h hh => h9 h (by omega)⟩ ?_ ?_
    · exact hlp
    · rintro m ⟨s1, s2⟩ hm ⟨rfl, hI⟩
      left
      obtain ⟨e1, e2⟩ := th_up hk hm
      refine ⟨(nI (m + 1), upd s2 (m + 2 ^ k) (nI (th_ (m + 2 ^ k)))), ?_, rfl, fun h hh => ?_⟩
      · show fX3_init_L89 _ _ _ = _
        unfold fX3_init_L89
        rw [sh_1 k (by omega), if_neg (nI_ge hm (by omega)), nI_or, e1, nI_1]
        have c1 : in_R (nI m) 256 := in_R_nI (by omega) (by decide)
        have c2 : in_R (nI k) 8 := in_R_nI hk (by decide)
        have c3 : in_R (nI (m + 2 ^ k)) 256 := in_R_nI (by omega) (by decide)
        simp only [ck_yes c1, ck_yes c2, ck_yes c3, nI_clamp (show m < 2 ^ 31 by omega), nI_clamp (show k < 2 ^ 31 by omega), nI_clamp (show m + 2 ^ k < 2 ^ 31 by omega)]
        have c4 : s2 m + pw_ k = nI (th_ (m + 2 ^ k)) := by
          have := hI m (by omega)
          rw [show s2 m = nI (th_ m) from this, e2, ← nI_add]
          rfl
        rw [c4]
      · by_cases q : h = m + 2 ^ k
        · rw [q]; exact upd_eq _ _ _
        · show upd s2 _ _ h = _
          rw [upd_no _ _ q]; exact hI h (by omega)
    · rintro ⟨s1, s2⟩ ⟨rfl, hI⟩
      refine ⟨(nI (2 ^ k), s2), ?_, fun h hh => hI h (by rw [Nat.pow_succ] at hh; omega)⟩
      show fX3_init_L89 _ _ _ = _
      unfold fX3_init_L89
      rw [sh_1 k (by omega), if_pos (Int32.le_refl _)]
  have hlp := lp_for (body := fun (st : (Int32 × (Nat → Int32))) => fX3_init_L81 st.1 st.2) (s := ((0 : Int32), (fun _ => 0)))
    (fun k st => st.1 = nI k ∧ ∀ h, h < 2 ^ k → st.2 h = nI (th_ h)) (fun r => TH_ r.2) 8 (by decide) ⟨rfl, fun h hh => by
      have : h = 0 := by omega
      subst this; decide⟩ ?_ ?_
  · obtain ⟨r, e, h⟩ := hlp
    rw [bind_yes e]
    exact ⟨_, rfl, h⟩
  · rintro k ⟨s1, s2⟩ hk ⟨rfl, hI⟩
    left
    obtain ⟨r, e, h⟩ := inner k hk s2 hI
    refine ⟨(nI (k + 1), r.2), ?_, rfl, h⟩
    show fX3_init_L81 _ _ = _
    unfold fX3_init_L81
    rw [if_neg (show ¬ (8 : Int32) ≤ nI k from nI_ge (b := 8) hk (by decide)), bind_yes e, nI_1]
  · rintro ⟨s1, s2⟩ ⟨rfl, hI⟩
    refine ⟨(nI 8, s2), ?_, fun h hh => hI h hh⟩
    show fX3_init_L81 _ _ = _
    unfold fX3_init_L81
    rw [if_pos (show (8 : Int32) ≤ nI 8 by decide)]
def wl0_ (j : Nat) : Int32 := if j = 32 then 1 else if j = 37 then 1 else if j = 42 then 1 else 0
theorem g_start : gC_ (upd (fun _ => 0) 8 1) (upd (fun _ => 0) 9 1) (upd (fun _ => 0) 10 1) (fun _ => 0) = gM_ wl0_ := by
  funext k
  unfold gC_ gM_ upd wl0_
  by_cases h8 : k = 8
  · subst h8; rfl
  by_cases h9 : k = 9
  · subst h9; rfl
  by_cases h10 : k = 10
  · subst h10; rfl
  simp only [if_neg h8, if_neg h9, if_neg h10, if_neg (show 4 * k ≠ 32 by omega), if_neg (show 4 * k ≠ 37 by omega), if_neg (show 4 * k ≠ 42 by omega), if_neg (show 4 * k + 1 ≠ 32 by omega), if_neg (show 4 * k + 1 ≠ 37 by omega), if_neg (show 4 * k + 1 ≠ 42 by omega), if_neg (show 4 * k + 2 ≠ 32 by omega), if_neg (show 4 * k + 2 ≠ 37 by omega), if_neg (show 4 * k + 2 ≠ 42 by omega), if_neg (show 4 * k + 3 ≠ 32 by omega), if_neg (show 4 * k + 3 ≠ 37 by omega), if_neg (show 4 * k + 3 ≠ 42 by omega)]
theorem d_start (x : Int32) : ∃ d, 1 ≤ d ∧ d ≤ 3 ∧ (if (1 : Int32) < (if x < (3 : Int32) then x else (3 : Int32)) then (if x < (3 : Int32) then x else (3 : Int32)) else (1 : Int32)) = nI d ∧ (if (1 : Int32) ≤ x then (if x ≤ (3 : Int32) then x else (3 : Int32)) else (1 : Int32)) = nI d := by
  have t1 : (1 : Int32).toInt = 1 := rfl
  have t3 : (3 : Int32).toInt = 3 := rfl
  have a1 : x < 3 ↔ x.toInt < 3 := Int32.lt_iff_toInt_lt
  have a2 : (1 : Int32) < x ↔ 1 < x.toInt := Int32.lt_iff_toInt_lt
  have a3 : (1 : Int32) ≤ x ↔ 1 ≤ x.toInt := Int32.le_iff_toInt_le
  have a4 : x ≤ 3 ↔ x.toInt ≤ 3 := Int32.le_iff_toInt_le
  by_cases h1 : x.toInt < 1
  · refine ⟨1, by decide, by decide, ?_, ?_⟩
    · rw [if_pos (a1.mpr (by omega)), if_neg (fun q => by have := a2.mp q; omega)]; rfl
    · rw [if_neg (fun q => by have := a3.mp q; omega)]; rfl
  by_cases h3 : x.toInt < 3
  · refine ⟨x.toInt.toNat, by omega, by omega, ?_, ?_⟩
    · rw [if_pos (a1.mpr h3), ← iI_nat, Int.toNat_of_nonneg (by omega), iI_of]
      by_cases h : x.toInt = 1
      · rw [if_neg (fun q => by have := a2.mp q; omega)]
        exact Int32.toInt_inj.mp (by rw [h]; rfl)
      · rw [if_pos (a2.mpr (by omega))]
    · rw [if_pos (a3.mpr (by omega)), if_pos (a4.mpr (by omega)), ← iI_nat, Int.toNat_of_nonneg (by omega), iI_of]
  · refine ⟨3, by decide, by decide, ?_, ?_⟩
    · rw [if_neg (fun q => h3 (a1.mp q))]; rfl
    · rw [if_pos (a3.mpr (by omega))]
      by_cases h : x.toInt ≤ 3
      · rw [if_pos (a4.mpr h)]
        exact Int32.toInt_inj.mp (by rw [show x.toInt = 3 by omega]; rfl)
      · rw [if_neg (fun q => h (a4.mp q))]; rfl
theorem j_start {d : Nat} (d1 : 1 ≤ d) (d3 : d ≤ 3) {thr : NI_} (hT : TH_ thr) {u : CT_} {s : MT_} (hu : u.1 = 0) (hu0 : u.2.2.2.1 0 = 0) (hs : s.1 = 1) :
    J_ 0 d (upd (fun _ => 0) 8 1) (upd (fun _ => 0) 9 1) (upd (fun _ => 0) 10 1) (fun _ => 0) thr wl0_ u s := by
  refine ⟨⟨by decide, fun k h => absurd h (Nat.not_lt_zero k), fun k h => absurd h (Nat.not_lt_zero k), ⟨rfl, rfl, rfl⟩, fun i j h => absurd h (Nat.not_lt_zero i)⟩, ⟨by decide, d1, d3, fun k h => absurd h (Nat.not_lt_zero k), fun k h => absurd h (Nat.not_lt_zero k), fun k h => absurd h (Nat.not_lt_zero k), fun i j h => absurd h (Nat.not_lt_zero i)⟩, hT, Or.inl ⟨hu, hu0⟩, fun h => ?_, g_start⟩
  rw [hs] at h; exact absurd h (by decide)
