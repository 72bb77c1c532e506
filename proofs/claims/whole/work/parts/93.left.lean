/-! the points that no wall holds, over a prime -/
def pr_ (k : Nat) : Bool := [2, 3, 5, 7, 11, 13, 17, 19, 23, 29, 31].contains k
def iv_ (p a : Nat) : Nat := ((List.range p).find? (fun t => a * t % p == 1)).getD 0
theorem f_isPrime : ∀ k, k < 32 → fX5_isPrime (nI k) = some (if pr_ k then 1 else 0) := by decide +kernel
theorem m_prime : ∀ k, k < 32 → 2 ≤ k → lp_ (fun (st : Int32) => fX6_left_L14 (nI k) st) fu_ (2 : Int32) = some (if pr_ k then .inl (nI k) else .inr (-1)) := by decide +kernel
theorem iv_ok : (List.range 32).all (fun p => (List.range p).all fun a => !pr_ p || decide (fX4_inverse (nI a) (nI p) = some (nI (iv_ p a)) ∧ iv_ p a < p ∧ (a ≠ 0 → a * iv_ p a % p = 1) ∧ (a = 0 → iv_ p a = 0))) = true := by decide +kernel
theorem f_inverse {p a : Nat} (hp : p < 32) (ha : a < p) (h : pr_ p = true) : fX4_inverse (nI a) (nI p) = some (nI (iv_ p a)) ∧ iv_ p a < p ∧ (a ≠ 0 → a * iv_ p a % p = 1) ∧ (a = 0 → iv_ p a = 0) := by
  have h1 := List.all_eq_true.mp iv_ok p (List.mem_range.mpr hp)
  have h2 := List.all_eq_true.mp h1 a (List.mem_range.mpr ha)
  rw [h] at h2
  exact of_decide_eq_true h2
theorem pr_lt {p : Nat} (h : pr_ p = true) : 2 ≤ p ∧ p < 32 := by
  unfold pr_ at h
  simp at h
  omega
theorem iI_div {x p : Int} (hx : sm_ x) (hx' : x ≠ -2147483648) (hp : sm_ p) : iI_ x / iI_ p = iI_ (x.tdiv p) := by
  apply Int32.toInt_inj.mp
  have hne : iI_ x ≠ Int32.minValue := fun q => hx' (by rw [← iI_toInt hx, q]; rfl)
  have hs : sm_ (x.tdiv p) := by
    have h1 : (x.tdiv p).natAbs ≤ x.natAbs := by rw [Int.natAbs_tdiv]; exact Nat.div_le_self _ _
    unfold sm_ at *; omega
  rw [Int32.toInt_div_of_ne_left _ _ hne, iI_toInt hx, iI_toInt hp, iI_toInt hs]
theorem iI_rem {x p : Int} (hx : sm_ x) (hx' : x ≠ -2147483648) (hp : sm_ p) : iI_ x - iI_ x / iI_ p * iI_ p = iI_ (x.tmod p) := by
  rw [iI_div hx hx' hp, iI_mul, iI_sub, Int.tmod_def, Int.mul_comm p]
theorem nI_div {m p : Nat} (hm : m < 2147483648) (hp : p < 2147483648) : nI m / nI p = nI (m / p) := by
  rw [← iI_nat, ← iI_nat, iI_div ⟨by omega, by omega⟩ (by omega) ⟨by omega, by omega⟩, ← iI_nat]
  congr 1
theorem nI_rem {m p : Nat} (hm : m < 2147483648) (hp : p < 2147483648) : nI m - nI m / nI p * nI p = nI (m % p) := by
  rw [← iI_nat, ← iI_nat, iI_rem ⟨by omega, by omega⟩ (by omega) ⟨by omega, by omega⟩, ← iI_nat]
  congr 1
theorem xor_ge (a b : Int32) : 0 ≤ a ^^^ b ↔ (a.toInt < 0 ↔ b.toInt < 0) := by
  have h := BitVec.msb_xor (x := a.toBitVec) (y := b.toBitVec)
  rw [BitVec.msb_eq_toInt, BitVec.msb_eq_toInt, BitVec.msb_eq_toInt] at h
  have e : (a ^^^ b).toInt = (a.toBitVec ^^^ b.toBitVec).toInt := rfl
  have ea : a.toInt = a.toBitVec.toInt := rfl
  have eb : b.toInt = b.toBitVec.toInt := rfl
  rw [Int32.le_iff_toInt_le, e, ea, eb]
  show (0 : Int) ≤ _ ↔ _
  generalize (a.toBitVec ^^^ b.toBitVec).toInt = x at *
  generalize a.toBitVec.toInt = y at *
  generalize b.toBitVec.toInt = z at *
  by_cases h1 : y < 0 <;> by_cases h2 : z < 0 <;> simp [h1, h2] at h ⊢ <;> omega
theorem f_floorMod {x : Int} {p : Nat} (hx : ab_ x 100000) (hp : 2 ≤ p) (hp' : p < 32) : fJ9_floorMod_7cf53 (iI_ x) (nI p) = some (nI (x % (p : Int)).toNat) := by
  unfold fJ9_floorMod_7cf53
  have hs : sm_ x := ab_sm hx (by decide)
  have hsp : sm_ (p : Int) := ⟨by omega, by omega⟩
  rw [ck_yes (nI_ne0 (by omega) (by omega)), ← iI_nat, iI_rem hs (by unfold ab_ at hx; omega) hsp]
  have hc : 0 ≤ iI_ x ^^^ iI_ (p : Int) ↔ 0 ≤ x := by
    rw [xor_ge, iI_toInt hs, iI_toInt hsp]; omega
  have hemod : 0 ≤ x % (p : Int) := Int.emod_nonneg _ (by omega)
  have hE : nI (x % (p : Int)).toNat = iI_ (x % (p : Int)) := by rw [← iI_nat, Int.toNat_of_nonneg hemod]
  rw [hE]
  by_cases h : 0 ≤ x
  · rw [if_pos (hc.mpr h), Int.tmod_eq_emod_of_nonneg h]
  · rw [if_neg (fun q => h (hc.mp q))]
    have ht : x.tmod p = x % p ∨ (x.tmod p = x % p - p) := by
      rw [Int.tmod_eq_emod]
      split
      · left; omega
      · right; rfl
    have hlt : x % (p : Int) < p := Int.emod_lt_of_pos _ (by omega)
    have hst : sm_ (x.tmod p) := by unfold sm_; omega
    by_cases h0 : x.tmod p = 0
    · have : x % (p : Int) = 0 := by omega
      rw [h0, this, if_pos iI_0.symm]
    · rw [if_neg (show ¬ iI_ (x.tmod p) = 0 from fun q => h0 ((iI_eq hst (b := 0) ⟨by decide, by decide⟩).mp q)), iI_add]
      have h3 : x.tmod p ≤ 0 := by
        have h4 := Int.tmod_nonneg (a := -x) (p : Int) (by omega)
        rw [Int.neg_tmod] at h4; omega
      congr 2
      omega
abbrev ht_ (w : Wl_) (p x y z : Nat) : Prop := (w.1 * x + w.2.1 * y + w.2.2.1 * z - w.2.2.2) % (p : Int) = 0
def nh_ (G : Nat → Wl_) (n p x y z : Nat) : Bool := decide (∀ k, k < n → ¬ ht_ (G k) p x y z)
def rr_ (w : Wl_) (p y z : Nat) : Nat := ((w.2.2.2 - w.2.1 * y - w.2.2.1 * z) % (p : Int)).toNat
def aa_ (w : Wl_) (p : Nat) : Nat := (w.1 % (p : Int)).toNat
theorem ht_iff (w : Wl_) {p : Nat} (hp : 0 < p) (x y z : Nat) : ht_ w p x y z ↔ ((aa_ w p : Int) * x - rr_ w p y z) % (p : Int) = 0 := by
  have h1 : (aa_ w p : Int) = w.1 % p := Int.toNat_of_nonneg (Int.emod_nonneg _ (by omega))
  have h2 : (rr_ w p y z : Int) = (w.2.2.2 - w.2.1 * y - w.2.2.1 * z) % p := Int.toNat_of_nonneg (Int.emod_nonneg _ (by omega))
  unfold ht_
  rw [h1, h2]
  have e1 := Int.emod_add_mul_ediv w.1 p
  have e2 := Int.emod_add_mul_ediv (w.2.2.2 - w.2.1 * y - w.2.2.1 * z) p
  generalize (w.2.2.2 - w.2.1 * y - w.2.2.1 * z) % (p : Int) = r at *
  generalize (w.2.2.2 - w.2.1 * y - w.2.2.1 * z) / (p : Int) = r' at *
  generalize w.1 % (p : Int) = a at *
  generalize w.1 / (p : Int) = a' at *
  have e : w.1 * x + w.2.1 * y + w.2.2.1 * z - w.2.2.2 = (a * x - r) + p * (a' * x - r') := by grind
  rw [e, Int.add_mul_emod_self_left]
theorem ht_zero {w : Wl_} {p : Nat} (hp : 0 < p) {x y z : Nat} (ha : aa_ w p = 0) : ht_ w p x y z ↔ rr_ w p y z = 0 := by
  rw [ht_iff w hp, ha]
  have hr : rr_ w p y z < p := by
    unfold rr_
    have h1 := Int.emod_nonneg (w.2.2.2 - w.2.1 * y - w.2.2.1 * z) (show (p : Int) ≠ 0 by omega)
    have h2 := Int.emod_lt_of_pos (w.2.2.2 - w.2.1 * y - w.2.2.1 * z) (show (0 : Int) < p by omega)
    omega
  generalize rr_ w p y z = r at *
  constructor
  · intro h
    rw [← Int.dvd_iff_emod_eq_zero] at h
    have h' : (p : Int) ∣ (r : Int) := by
      have := (Int.dvd_neg).mpr h
      have e : - (((0 : Nat) : Int) * (x : Int) - (r : Int)) = r := by grind
      rw [e] at this; exact this
    have h'' : p ∣ r := Int.natCast_dvd_natCast.mp h'
    exact Nat.eq_zero_of_dvd_of_lt h'' hr
  · rintro rfl
    have e : ((0 : Nat) : Int) * (x : Int) - ((0 : Nat) : Int) = 0 := by grind
    rw [e]; exact Int.zero_emod _
theorem ht_some {w : Wl_} {p t : Nat} (hp : 0 < p) {x y z : Nat} (hx : x < p) (ha : aa_ w p * t % p = 1) : ht_ w p x y z ↔ x = rr_ w p y z * t % p := by
  rw [ht_iff w hp]
  generalize rr_ w p y z = r at *
  generalize aa_ w p = a at *
  obtain ⟨u, hu⟩ : ∃ u : Int, (a : Int) * t = 1 + p * u := by
    refine ⟨((a * t / p : Nat) : Int), ?_⟩
    have h := Nat.mod_add_div (a * t) p
    rw [ha] at h
    have h' : ((a * t : Nat) : Int) = ((1 + p * (a * t / p) : Nat) : Int) := by rw [h]
    push_cast at h' ⊢
    omega
  have hm : x = r * t % p ↔ ((x : Int) - r * t) % p = 0 := by
    constructor
    · intro h
      have h2 := Nat.mod_add_div (r * t) p
      rw [← h] at h2
      have h3 : ((r * t : Nat) : Int) = x + p * ((r * t / p : Nat) : Int) := by exact_mod_cast h2.symm
      have h4 : (x : Int) - r * t = p * (- ((r * t / p : Nat) : Int)) := by push_cast at h3 ⊢; grind
      rw [h4, Int.mul_emod_right]
    · intro h
      obtain ⟨v, hv⟩ := Int.dvd_iff_emod_eq_zero.mpr h
      have h1 : ((x : Int)) % p = ((r * t : Nat) : Int) % p := by
        have e : (x : Int) = ((r * t : Nat) : Int) + p * v := by push_cast; grind
        rw [e, Int.add_mul_emod_self_left]
      have h2 : x % p = r * t % p := by exact_mod_cast h1
      rw [Nat.mod_eq_of_lt hx] at h2
      exact h2
  rw [hm]
  constructor
  · intro h
    obtain ⟨v, hv⟩ := Int.dvd_iff_emod_eq_zero.mpr h
    refine Int.dvd_iff_emod_eq_zero.mp ⟨v * t - u * x, ?_⟩
    grind
  · intro h
    obtain ⟨v, hv⟩ := Int.dvd_iff_emod_eq_zero.mpr h
    refine Int.dvd_iff_emod_eq_zero.mp ⟨a * v + u * r, ?_⟩
    grind
/-! the reference counts -/
theorem nh_ext {G H : Nat → Wl_} {n p x y z : Nat} (h : ∀ k, k < n → G k = H k) : nh_ G n p x y z = nh_ H n p x y z := by
  unfold nh_
  rw [decide_eq_decide]
  constructor
  · intro q k hk; rw [← h k hk]; exact q k hk
  · intro q k hk; rw [h k hk]; exact q k hk
def fl_ (G : Nat → Wl_) (n p m : Nat) : Nat := if nh_ G n p (m % p) (m / p % p) (m / p / p) then 1 else 0
def vL_ (G : Nat → Wl_) (n d p : Nat) : Nat := fb_sm (fl_ G n p) (p ^ d)
section LE
variable {wl : Nat → Int32} {n d : Nat}
theorem m_left104 (hn : n ≤ 8) (hb : ∀ k, k < n → bw_ (gM_ wl k)) {p m : Nat} (hp : 2 ≤ p) (hp' : p < 32) (hm : m < p ^ 3) :
    ∃ r, lp_ (fun (st : (Int32 × Int32)) => fX6_left_L104 (nI n) wl (nI p) (nI m) st.1 st.2) fu_ ((0 : Int32), (1 : Int32)) = some r ∧ yn_ r.2 (nh_ (gM_ wl) n p (m % p) (m / p % p) (m / p / p) = true) := by
  have hpm : p ^ 3 ≤ 31 ^ 3 := Nat.pow_le_pow_left (by omega) 3
  have hx : m % p < p := Nat.mod_lt _ (by omega)
  have hy : m / p % p < p := Nat.mod_lt _ (by omega)
  have hz : m / p / p < p := by
    rw [Nat.div_div_eq_div_mul]
    refine Nat.div_lt_of_lt_mul ?_
    have : p * p * p = p ^ 3 := by rw [Nat.pow_succ, Nat.pow_succ, Nat.pow_one]
    omega
  have hlp := lp_for (body := fun (st : (Int32 × Int32)) => fX6_left_L104 (nI n) wl (nI p) (nI m) st.1 st.2) (s := ((0 : Int32), (1 : Int32)))
    (fun k st => (st = (nI k, 1) ∧ ∀ j, j < k → ¬ ht_ (gM_ wl j) p (m % p) (m / p % p) (m / p / p)) ∨ (st = (nI k, 0) ∧ ∃ j, j < n ∧ ht_ (gM_ wl j) p (m % p) (m / p % p) (m / p / p)))
    (fun r => yn_ r.2 (nh_ (gM_ wl) n p (m % p) (m / p % p) (m / p / p) = true)) n (by omega) (Or.inl ⟨rfl, fun j h => by omega⟩) ?_ ?_
  · exact hlp
  · intro k st hk hI
    rcases hI with ⟨rfl, hI⟩ | ⟨rfl, hI⟩
    · show _ ∨ _
      have hR : ¬ nI p = 0 := nI_ne0 (by omega) (by omega)
      have e0 := f_at wl (k := k) (c := 0) (by omega)
      have e1 := f_at wl (k := k) (c := 1) (by omega)
      have e2 := f_at wl (k := k) (c := 2) (by omega)
      have e3 := f_at wl (k := k) (c := 3) (by omega)
      have hF : fX6_left_L104 (nI n) wl (nI p) (nI m) (nI k) 1 = (if ht_ (gM_ wl k) p (m % p) (m / p % p) (m / p / p) then some (.inl (nI (k + 1), 0)) else some (.inl (nI (k + 1), 1))) := by
        unfold fX6_left_L104
        rw [if_neg (nI_ge hk (by omega)), if_neg (by decide), show (0 : Int32) = nI 0 from rfl, bind_yes e0, show (1 : Int32) = nI 1 from rfl, bind_yes e1, show (2 : Int32) = nI 2 from rfl, bind_yes e2, show (3 : Int32) = nI 3 from rfl, bind_yes e3, ck_yes (show ¬ nI p = nI 0 from hR)]
        rw [nI_rem (m := m) (by omega) (by omega), nI_div (m := m) (by omega) (by omega)]
        have hmp : m / p ≤ m := Nat.div_le_self _ _
        rw [nI_rem (m := m / p) (by omega) (by omega), nI_div (m := m / p) (by omega) (by omega)]
        rw [Nat.add_zero, gM_0 wl k, gM_1 wl k, gM_2 wl k, gM_3 wl k]
        generalize m % p = x at *
        generalize m / p % p = y at *
        generalize m / p / p = z at *
        obtain ⟨b1, b2, b3, b4⟩ := hb k hk
        have hX : ab_ ((gM_ wl k).1 * x + (gM_ wl k).2.1 * y + (gM_ wl k).2.2.1 * z - (gM_ wl k).2.2.2) (9 * 31 + 9 * 31 + 9 * 31 + 99) :=
          ab_sub (ab_add (ab_add (ab_mul b1 (by unfold ab_; omega)) (ab_mul b2 (by unfold ab_; omega))) (ab_mul b3 (by unfold ab_; omega))) b4
        rw [← iI_nat x, ← iI_nat y, ← iI_nat z, ← iI_nat p, iI_mul, iI_mul, iI_mul, iI_add, iI_add, iI_sub]
        unfold ht_
        generalize (gM_ wl k).1 * x + (gM_ wl k).2.1 * y + (gM_ wl k).2.2.1 * z - (gM_ wl k).2.2.2 = X at *
        unfold ab_ at hX
        rw [iI_rem (x := X) ⟨by omega, by omega⟩ (by omega) ⟨by omega, by omega⟩]
        have hd : iI_ (X.tmod p) = nI 0 ↔ X % p = 0 := by
          rw [show nI 0 = iI_ 0 from rfl, iI_eq ?_ ⟨by decide, by decide⟩]
          · exact Iff.trans Int.dvd_iff_tmod_eq_zero.symm Int.dvd_iff_emod_eq_zero
          · have := Int.natAbs_tmod X p
            have h2 : X.natAbs % (p : Int).natAbs ≤ X.natAbs := Nat.mod_le _ _
            unfold sm_; omega
        by_cases h : X % (p : Int) = 0
        · rw [if_pos h, if_pos (hd.mpr h), nI_add]
        · rw [if_neg h, if_neg (fun q => h (hd.mp q)), nI_add]
      show (∃ s', fX6_left_L104 (nI n) wl (nI p) (nI m) (nI k) 1 = some (.inl s') ∧ _) ∨ _
      rw [hF]
      by_cases h : ht_ (gM_ wl k) p (m % p) (m / p % p) (m / p / p)
      · rw [if_pos h]; exact Or.inl ⟨_, rfl, Or.inr ⟨rfl, k, hk, h⟩⟩
      · rw [if_neg h]
        refine Or.inl ⟨_, rfl, Or.inl ⟨rfl, fun j hj => ?_⟩⟩
        rcases Nat.lt_or_ge j k with l | l
        · exact hI j l
        · have : j = k := by omega
          subst this; exact h
    · right
      refine ⟨(nI k, 0), ?_, Or.inr ⟨rfl, fun q => ?_⟩⟩
      · show fX6_left_L104 _ _ _ _ _ _ = _
        unfold fX6_left_L104
        rw [if_neg (nI_ge hk (by omega)), if_pos rfl]
      · obtain ⟨j, hj, h⟩ := hI
        exact of_decide_eq_true q j hj h
  · intro st hI
    have e : ∀ x, fX6_left_L104 (nI n) wl (nI p) (nI m) (nI n) x = some (.inr (nI n, x)) := by
      intro x; unfold fX6_left_L104; rw [if_pos (Int32.le_refl _)]
    rcases hI with ⟨rfl, hI⟩ | ⟨rfl, hI⟩
    · exact ⟨_, e 1, Or.inl ⟨rfl, decide_eq_true hI⟩⟩
    · refine ⟨_, e 0, Or.inr ⟨rfl, fun q => ?_⟩⟩
      obtain ⟨j, hj, h⟩ := hI
      exact of_decide_eq_true q j hj h
theorem fl_le (G : Nat → Wl_) (n p N : Nat) : fb_sm (fl_ G n p) N ≤ N := by
  have := fb_sm_bound (f := fl_ G n p) (c := 1) (n := N) (fun k _ => by unfold fl_; split <;> omega)
  omega
theorem m_left (hM : MI_ (gM_ wl) n d) (p : Int32) :
    (∃ k, pr_ k = true ∧ p = nI k ∧ fX6_left (nI d) (nI n) wl p = some (nI (vL_ (gM_ wl) n d k))) ∨ ((¬ ∃ k, pr_ k = true ∧ p = nI k) ∧ fX6_left (nI d) (nI n) wl p = some (-1)) := by
  obtain ⟨hn, d1, d3, hb, -, -, -⟩ := hM
  unfold fX6_left fX6_in
  have no : ∀ {Z : Prop}, (¬ ∃ k, pr_ k = true ∧ p = nI k) → Z ∨ ((¬ ∃ k, pr_ k = true ∧ p = nI k) ∧ some (-1 : Int32) = some (-1)) := fun h => Or.inr ⟨h, rfl⟩
  by_cases h1 : p < 2
  · rw [if_pos h1, bind_yes rfl, if_pos rfl]
    refine Or.inr ⟨?_, rfl⟩
    rintro ⟨k, hk, rfl⟩
    exact absurd h1 (Int32.not_lt.mpr (nI_le (a := 2) (pr_lt hk).1 (by have := pr_lt hk; omega)))
  rw [if_neg h1]
  by_cases h2 : 31 < p
  · rw [if_pos h2, bind_yes rfl, if_pos rfl]
    refine Or.inr ⟨?_, rfl⟩
    rintro ⟨k, hk, rfl⟩
    exact absurd h2 (Int32.not_lt.mpr (nI_le (b := 31) (by have := pr_lt hk; omega) (by decide)))
  rw [if_neg h2, bind_yes rfl, if_neg (by decide)]
  obtain ⟨k, hk2, hk, rfl⟩ : ∃ k, 2 ≤ k ∧ k < 32 ∧ p = nI k := by
    have a1 : (2 : Int) ≤ p.toInt := Int.not_lt.mp fun q => h1 (Int32.lt_iff_toInt_lt.mpr q)
    have a2 : p.toInt ≤ 31 := Int.not_lt.mp fun q => h2 (Int32.lt_iff_toInt_lt.mpr q)
    refine ⟨p.toInt.toNat, by omega, by omega, ?_⟩
    rw [← iI_nat, Int.toNat_of_nonneg (by omega), iI_of]
  rw [bind_yes (m_prime k hk hk2)]
  by_cases hp : pr_ k = true
  case neg =>
    rw [if_neg hp, Sum.elim_inr]
    refine Or.inr ⟨?_, rfl⟩
    rintro ⟨j, hj, e⟩
    have : j = k := by
      have h := congrArg Int32.toNatClampNeg e
      have := pr_lt hj
      rw [nI_clamp (by omega), nI_clamp (by omega)] at h; omega
    subst this; exact hp hj
  rw [if_pos hp, Sum.elim_inl]
  refine Or.inl ⟨k, hp, rfl, ?_⟩
  have hk3 : k ^ 3 ≤ 31 ^ 3 := Nat.pow_le_pow_left (by omega) 3
  have hkd : k ^ d ≤ k ^ 3 := Nat.pow_le_pow_right (by omega) d3
  have hu : ((if nI d = (1 : Int32) then some (nI k) else (if nI d = (2 : Int32) then some (nI k * nI k) else some ((nI k * nI k) * nI k)))) = some (nI (k ^ d)) := by
    have : d = 1 ∨ d = 2 ∨ d = 3 := by omega
    rcases this with rfl | rfl | rfl
    · rw [if_pos (show nI 1 = (1 : Int32) from rfl), Nat.pow_one]
    · rw [if_neg (by decide), if_pos (show nI 2 = (2 : Int32) from rfl), pk_mul, Nat.pow_succ, Nat.pow_one]
    · rw [if_neg (by decide), if_neg (by decide), pk_mul, pk_mul, Nat.pow_succ, Nat.pow_succ, Nat.pow_one]
  rw [bind_yes hu]
  have hlp := lp_seq (body := fun (st : (Int32 × Int32)) => fX6_left_L70 (nI (k ^ d)) (nI k) (nI n) wl st.1 st.2) (fun m => (nI m, nI (fb_sm (fl_ (gM_ wl) n k) m))) (k ^ d) (by omega) (r := (nI (k ^ d), nI (fb_sm (fl_ (gM_ wl) n k) (k ^ d)))) ?_ ?_
  · have hlp : lp_ (fun (st : (Int32 × Int32)) => fX6_left_L70 (nI (k ^ d)) (nI k) (nI n) wl st.1 st.2) fu_ ((0 : Int32), (0 : Int32)) = _ := hlp
    rw [bind_yes hlp]; rfl
  · intro m hm
    show fX6_left_L70 _ _ _ _ _ _ = _
    unfold fX6_left_L70
    have hR : ¬ nI k = 0 := nI_ne0 (by omega) (by omega)
    rw [if_neg (nI_ge hm (by omega)), ck_yes hR, ck_yes hR, ck_yes hR, ck_yes hR, ck_yes hR]
    obtain ⟨r, e, hy⟩ := m_left104 hn hb hk2 hk (show m < k ^ 3 by omega)
    rw [bind_yes e, fb_sm_succ, show (1 : Int32) = nI 1 from rfl, show (0 : Int32) = nI 0 from rfl, nI_add, nI_add, nI_add]
    unfold fl_
    rcases hy with ⟨h, hy⟩ | ⟨h, hy⟩
    · rw [h, if_neg (by decide), if_pos hy]
    · rw [h, if_pos (show (0 : Int32) = nI 0 from rfl), if_neg hy]
  · show fX6_left_L70 _ _ _ _ _ _ = _
    unfold fX6_left_L70
    rw [if_pos (Int32.le_refl _)]
end LE
